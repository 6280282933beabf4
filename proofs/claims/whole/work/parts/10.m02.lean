-- methods as functions, and that the machine does as they say (by wip/whole/gen_all.py): X7_readNumber, X7_next, X7_wordHere, X7_nameHere, X3_takeNewName, X7_isAt, X7_takeWord, X7_takeNumber, X3_takeBehind, X3_readKind, X3_readTrial, X3_readMark, X4_writeTo, X4_opens, X4_isValue, X8_copyFrom, X5_keep, X5_giveBack, J9_floorMod_7cf53, X5_put, X5_cell
theorem dX7_readNumber_0 : decode cX7_readNumber 0 = .ok (.aload_n 0, 1) := by decide +kernel
theorem dX7_readNumber_1 : decode cX7_readNumber 1 = .ok (.iconst 3, 1) := by decide +kernel
theorem dX7_readNumber_2 : decode cX7_readNumber 2 = .ok (.putfield 19, 3) := by decide +kernel
theorem dX7_readNumber_5 : decode cX7_readNumber 5 = .ok (.aload_n 0, 1) := by decide +kernel
theorem dX7_readNumber_6 : decode cX7_readNumber 6 = .ok (.getfield 15, 3) := by decide +kernel
theorem dX7_readNumber_9 : decode cX7_readNumber 9 = .ok (.aload_n 0, 1) := by decide +kernel
theorem dX7_readNumber_10 : decode cX7_readNumber 10 = .ok (.getfield 37, 3) := by decide +kernel
theorem dX7_readNumber_13 : decode cX7_readNumber 13 = .ok (.getfield 70, 3) := by decide +kernel
theorem dX7_readNumber_16 : decode cX7_readNumber 16 = .ok (.if_icmp .ge 77, 3) := by decide +kernel
theorem dX7_readNumber_19 : decode cX7_readNumber 19 = .ok (.aload_n 0, 1) := by decide +kernel
theorem dX7_readNumber_20 : decode cX7_readNumber 20 = .ok (.getfield 37, 3) := by decide +kernel
theorem dX7_readNumber_23 : decode cX7_readNumber 23 = .ok (.aload_n 0, 1) := by decide +kernel
theorem dX7_readNumber_24 : decode cX7_readNumber 24 = .ok (.getfield 15, 3) := by decide +kernel
theorem dX7_readNumber_27 : decode cX7_readNumber 27 = .ok (.invokevirtual 74, 3) := by decide +kernel
theorem dX7_readNumber_30 : decode cX7_readNumber 30 = .ok (.invokestatic 87, 3) := by decide +kernel
theorem dX7_readNumber_33 : decode cX7_readNumber 33 = .ok (.ifCond .eq 60, 3) := by decide +kernel
theorem dX7_readNumber_36 : decode cX7_readNumber 36 = .ok (.aload_n 0, 1) := by decide +kernel
theorem dX7_readNumber_37 : decode cX7_readNumber 37 = .ok (.getfield 25, 3) := by decide +kernel
theorem dX7_readNumber_40 : decode cX7_readNumber 40 = .ok (.iconst 4, 1) := by decide +kernel
theorem dX7_readNumber_41 : decode cX7_readNumber 41 = .ok (.if_icmp .ge 29, 3) := by decide +kernel
theorem dX7_readNumber_44 : decode cX7_readNumber 44 = .ok (.aload_n 0, 1) := by decide +kernel
theorem dX7_readNumber_45 : decode cX7_readNumber 45 = .ok (.aload_n 0, 1) := by decide +kernel
theorem dX7_readNumber_46 : decode cX7_readNumber 46 = .ok (.getfield 28, 3) := by decide +kernel
theorem dX7_readNumber_49 : decode cX7_readNumber 49 = .ok (.bipush 10, 2) := by decide +kernel
theorem dX7_readNumber_51 : decode cX7_readNumber 51 = .ok (.imul, 1) := by decide +kernel
theorem dX7_readNumber_52 : decode cX7_readNumber 52 = .ok (.aload_n 0, 1) := by decide +kernel
theorem dX7_readNumber_53 : decode cX7_readNumber 53 = .ok (.getfield 37, 3) := by decide +kernel
theorem dX7_readNumber_56 : decode cX7_readNumber 56 = .ok (.aload_n 0, 1) := by decide +kernel
theorem dX7_readNumber_57 : decode cX7_readNumber 57 = .ok (.getfield 15, 3) := by decide +kernel
theorem dX7_readNumber_60 : decode cX7_readNumber 60 = .ok (.invokevirtual 74, 3) := by decide +kernel
theorem dX7_readNumber_63 : decode cX7_readNumber 63 = .ok (.iadd, 1) := by decide +kernel
theorem dX7_readNumber_64 : decode cX7_readNumber 64 = .ok (.bipush 48, 2) := by decide +kernel
theorem dX7_readNumber_66 : decode cX7_readNumber 66 = .ok (.isub, 1) := by decide +kernel
theorem dX7_readNumber_67 : decode cX7_readNumber 67 = .ok (.putfield 28, 3) := by decide +kernel
theorem dX7_readNumber_70 : decode cX7_readNumber 70 = .ok (.aload_n 0, 1) := by decide +kernel
theorem dX7_readNumber_71 : decode cX7_readNumber 71 = .ok (.dup, 1) := by decide +kernel
theorem dX7_readNumber_72 : decode cX7_readNumber 72 = .ok (.getfield 25, 3) := by decide +kernel
theorem dX7_readNumber_75 : decode cX7_readNumber 75 = .ok (.iconst 1, 1) := by decide +kernel
theorem dX7_readNumber_76 : decode cX7_readNumber 76 = .ok (.iadd, 1) := by decide +kernel
theorem dX7_readNumber_77 : decode cX7_readNumber 77 = .ok (.putfield 25, 3) := by decide +kernel
theorem dX7_readNumber_80 : decode cX7_readNumber 80 = .ok (.aload_n 0, 1) := by decide +kernel
theorem dX7_readNumber_81 : decode cX7_readNumber 81 = .ok (.dup, 1) := by decide +kernel
theorem dX7_readNumber_82 : decode cX7_readNumber 82 = .ok (.getfield 15, 3) := by decide +kernel
theorem dX7_readNumber_85 : decode cX7_readNumber 85 = .ok (.iconst 1, 1) := by decide +kernel
theorem dX7_readNumber_86 : decode cX7_readNumber 86 = .ok (.iadd, 1) := by decide +kernel
theorem dX7_readNumber_87 : decode cX7_readNumber 87 = .ok (.putfield 15, 3) := by decide +kernel
theorem dX7_readNumber_90 : decode cX7_readNumber 90 = .ok (.goto (-85), 3) := by decide +kernel
theorem dX7_readNumber_93 : decode cX7_readNumber 93 = .ok (.return_, 1) := by decide +kernel
theorem kc_RX7_87 : Cond.methodLink RX7 87 yX7_isDigit ∈ ktG ∧ Cond.static yX7_isDigit ∈ ktG ∧ Cond.initialized yX7_isDigit.cls ∈ ktG ∧ Cond.code yX7_isDigit cX7_isDigit 1 (some .boolean) ∈ ktG := ⟨(kwm 636 (by decide +kernel) (by decide +kernel)), (kwm 637 (by decide +kernel) (by decide +kernel)), (kwm 127 (by decide +kernel) (by decide +kernel)), kwm 638 (by decide +kernel) (by decide +kernel)⟩
theorem kh_X7_isDigit : yX7_isDigit.cls ≠ "java/lang/invoke/MethodHandle" ∧ yX7_isDigit.cls ≠ "java/lang/invoke/VarHandle" ∧ (parseMethodDescriptor yX7_isDigit.desc).map (fun d => d.parameters.length) = some 1 := by decide +kernel
def E_X7_readNumber_l5 (v0 : Nat) : KH → Nat → List (Nat × Value) → List Value → KH → Prop := fun (e : KH) pc ls st hh => pc = 93 ∧ ls = [] ∧ st = [] ∧ e = hh
def B_X7_readNumber_l5 (v0 : Nat) : ((KH) ⊕ (KH)) → Nat → List (Nat × Value) → List Value → KH → Prop := Sum.elim (fun (s : KH) pc ls st hh => pc = 5 ∧ ls = [(0, .ref v0)] ∧ st = [] ∧ hh = s) (E_X7_readNumber_l5 v0)
def f_X7_readNumber_b70 (h : KH) (v0 : Nat) : Option ((KH) ⊕ (KH)) :=
  if kkind v0 = 7 then kl (ksI h v0 5 ((kI h v0 5) + (1 : Int32))) fun h2 =>
  kl (ksI h2 v0 2 ((kI h2 v0 2) + (1 : Int32))) fun h5 =>
  some (.inl h5) else none
set_option maxHeartbeats 4000000 in
set_option maxRecDepth 100000 in
theorem s_X7_readNumber_b70 {Z : Nat → (Nat → Nat) → State → Prop} (h : KH) (v0 : Nat) {t : (KH) ⊕ (KH)} (hn : h.1 = 243) (H : f_X7_readNumber_b70 h v0 = some t) : KX Z RX7 cX7_readNumber 1 false 2 (B_X7_readNumber_l5 v0 t) 70 [(0, .ref v0)] [] h := by
  unfold f_X7_readNumber_b70 at H
  refine x_aload_n (q := 71) dX7_readNumber_70 rfl rfl ?_
  refine x_dup (q := 72) dX7_readNumber_71 rfl rfl ?_
  replace H := kif H; obtain ⟨g1, H⟩ := H
  refine x_getI (q := 75) dX7_readNumber_72 rfl kl_RX7_25 (Or.inl rfl) (k243 g1 (by decide) hn) ?_
  refine x_iconst (q := 76) (v := (1 : Int32)) dX7_readNumber_75 rfl (by decide) ?_
  refine x_iadd (q := 77) dX7_readNumber_76 rfl ?_
  replace H := kle H; obtain ⟨h2, q3, H⟩ := H
  refine x_putI (q := 80) dX7_readNumber_77 rfl kl_RX7_25 (Or.inl rfl) rfl (k243 g1 (by decide) hn) ?_
  refine x_nmH q3 ?_
  have n4 : h2.1 = 243 := by rw [q3]; exact hn
  refine x_aload_n (q := 81) dX7_readNumber_80 rfl rfl ?_
  refine x_dup (q := 82) dX7_readNumber_81 rfl rfl ?_
  refine x_getI (q := 85) dX7_readNumber_82 rfl kl_RX7_15 (Or.inl rfl) (k243 g1 (by decide) n4) ?_
  refine x_iconst (q := 86) (v := (1 : Int32)) dX7_readNumber_85 rfl (by decide) ?_
  refine x_iadd (q := 87) dX7_readNumber_86 rfl ?_
  replace H := kle H; obtain ⟨h5, q6, H⟩ := H
  refine x_putI (q := 90) dX7_readNumber_87 rfl kl_RX7_15 (Or.inl rfl) rfl (k243 g1 (by decide) n4) ?_
  refine x_nmH q6 ?_
  have n7 : h5.1 = 243 := by rw [q6]; exact n4
  refine x_goto dX7_readNumber_90 (q := 5) (by decide) ?_
  cases H
  refine x_sub (ls2 := [(0, .ref v0)]) [0] rfl ?_
  exact x_end (x_cfg rfl)
def f_X7_readNumber_l5 (v0 : Nat) (s : KH) : Option ((KH) ⊕ (KH)) :=
  if kkind v0 = 7 then if (kR s v0 0) < 999999 then if kkind (kR s v0 0) = 9 then if (kI s (kR s v0 0) 1) ≤ (kI s v0 2) then
  some (.inr s)
  else
  kb (f_X9_byteAt s (kR s v0 0) (kI s v0 2)) fun r5 =>
  kb (f_X7_isDigit s r5) fun r8 =>
  if r8 = 0 then
  some (.inr s)
  else
  if (4 : Int32) ≤ (kI s v0 5) then
  f_X7_readNumber_b70 s v0
  else
  kb (f_X9_byteAt s (kR s v0 0) (kI s v0 2)) fun r13 =>
  kl (ksI s v0 6 ((((kI s v0 6) * (10 : Int32)) + r13) - (48 : Int32))) fun h16 =>
  f_X7_readNumber_b70 h16 v0 else none else none else none
set_option maxHeartbeats 4000000 in
set_option maxRecDepth 100000 in
theorem s_X7_readNumber_l5 {Z : Nat → (Nat → Nat) → State → Prop} (v0 : Nat) (s : KH) (t : (KH) ⊕ (KH)) (hn : (s).1 = 243) (H : f_X7_readNumber_l5 v0 s = some t) : KX Z RX7 cX7_readNumber 1 false 2 (B_X7_readNumber_l5 v0 t) 5 [(0, .ref v0)] [] s := by
  unfold f_X7_readNumber_l5 at H
  refine x_aload_n (q := 6) dX7_readNumber_5 rfl rfl ?_
  replace H := kif H; obtain ⟨g1, H⟩ := H
  refine x_getI (q := 9) dX7_readNumber_6 rfl kl_RX7_15 (Or.inl rfl) (k243 g1 (by decide) hn) ?_
  refine x_aload_n (q := 10) dX7_readNumber_9 rfl rfl ?_
  replace H := kif H; obtain ⟨g2, H⟩ := H
  refine x_getR (q := 13) dX7_readNumber_10 rfl kl_RX7_37 rfl (k243 g1 (by decide) hn) g2 ?_
  replace H := kif H; obtain ⟨g3, H⟩ := H
  refine x_getI (q := 16) dX7_readNumber_13 rfl kl_RX7_70 (Or.inl rfl) (k243 g3 (by decide) hn) ?_
  replace H := kite H; rcases H with ⟨g4, H⟩ | ⟨g4, H⟩
  · refine x_icmp_ge_t dX7_readNumber_16 (q := 93) (by decide) g4 ?_
    cases H
    refine x_sub (ls2 := []) [] rfl ?_
    exact x_end (x_cfg rfl)
  · refine x_icmp_ge_f (q := 19) dX7_readNumber_16 (t := 93) (by decide) rfl g4 ?_
    refine x_aload_n (q := 20) dX7_readNumber_19 rfl rfl ?_
    refine x_getR (q := 23) dX7_readNumber_20 rfl kl_RX7_37 rfl (k243 g1 (by decide) hn) g2 ?_
    refine x_aload_n (q := 24) dX7_readNumber_23 rfl rfl ?_
    refine x_getI (q := 27) dX7_readNumber_24 rfl kl_RX7_15 (Or.inl rfl) (k243 g1 (by decide) hn) ?_
    replace H := kbe H; obtain ⟨r5, c6, H⟩ := H
    have m7 := s_X9_byteAt (Z := Z) s (kR s v0 0) (kI s v0 2) hn c6
    refine x_callV (q := 30) (as := [.int (kI s v0 2)]) (rest := []) dX7_readNumber_27 rfl kc_RX7_74 kh_X9_byteAt (by decide) (Nat.le_of_ble_eq_true rfl) m7 (ci := 9) (by exact ⟨rfl, by decide⟩) (k243 g3 (by decide) hn) ?_
    replace H := kbe H; obtain ⟨r8, c9, H⟩ := H
    have m10 := s_X7_isDigit (Z := Z) s r5 hn c9
    refine x_callS (q := 33) (as := [.int r5]) (rest := []) dX7_readNumber_30 rfl kc_RX7_87 kh_X7_isDigit (by decide) (Nat.le_of_ble_eq_true rfl) m10 ?_
    replace H := kite H; rcases H with ⟨g11, H⟩ | ⟨g11, H⟩
    · refine x_if_eq_t dX7_readNumber_33 (q := 93) (by decide) g11 ?_
      cases H
      refine x_sub (ls2 := []) [] rfl ?_
      exact x_end (x_cfg rfl)
    · refine x_if_eq_f (q := 36) dX7_readNumber_33 (t := 93) (by decide) rfl g11 ?_
      refine x_aload_n (q := 37) dX7_readNumber_36 rfl rfl ?_
      refine x_getI (q := 40) dX7_readNumber_37 rfl kl_RX7_25 (Or.inl rfl) (k243 g1 (by decide) hn) ?_
      refine x_iconst (q := 41) (v := (4 : Int32)) dX7_readNumber_40 rfl (by decide) ?_
      replace H := kite H; rcases H with ⟨g12, H⟩ | ⟨g12, H⟩
      · refine x_icmp_ge_t dX7_readNumber_41 (q := 70) (by decide) g12 ?_
        refine x_sub (ls2 := [(0, .ref v0)]) [0] rfl ?_
        exact s_X7_readNumber_b70 s v0 hn H
      · refine x_icmp_ge_f (q := 44) dX7_readNumber_41 (t := 70) (by decide) rfl g12 ?_
        refine x_aload_n (q := 45) dX7_readNumber_44 rfl rfl ?_
        refine x_aload_n (q := 46) dX7_readNumber_45 rfl rfl ?_
        refine x_getI (q := 49) dX7_readNumber_46 rfl kl_RX7_28 (Or.inl rfl) (k243 g1 (by decide) hn) ?_
        refine x_bipush (q := 51) (v := (10 : Int32)) dX7_readNumber_49 rfl (by decide) ?_
        refine x_imul (q := 52) dX7_readNumber_51 rfl ?_
        refine x_aload_n (q := 53) dX7_readNumber_52 rfl rfl ?_
        refine x_getR (q := 56) dX7_readNumber_53 rfl kl_RX7_37 rfl (k243 g1 (by decide) hn) g2 ?_
        refine x_aload_n (q := 57) dX7_readNumber_56 rfl rfl ?_
        refine x_getI (q := 60) dX7_readNumber_57 rfl kl_RX7_15 (Or.inl rfl) (k243 g1 (by decide) hn) ?_
        replace H := kbe H; obtain ⟨r13, c14, H⟩ := H
        have m15 := s_X9_byteAt (Z := Z) s (kR s v0 0) (kI s v0 2) hn c14
        refine x_callV (q := 63) (as := [.int (kI s v0 2)]) (rest := [.int ((kI s v0 6) * (10 : Int32)), .ref v0]) dX7_readNumber_60 rfl kc_RX7_74 kh_X9_byteAt (by decide) (Nat.le_of_ble_eq_true rfl) m15 (ci := 9) (by exact ⟨rfl, by decide⟩) (k243 g3 (by decide) hn) ?_
        refine x_iadd (q := 64) dX7_readNumber_63 rfl ?_
        refine x_bipush (q := 66) (v := (48 : Int32)) dX7_readNumber_64 rfl (by decide) ?_
        refine x_isub (q := 67) dX7_readNumber_66 rfl ?_
        replace H := kle H; obtain ⟨h16, q17, H⟩ := H
        refine x_putI (q := 70) dX7_readNumber_67 rfl kl_RX7_28 (Or.inl rfl) rfl (k243 g1 (by decide) hn) ?_
        refine x_nmH q17 ?_
        have n18 : h16.1 = 243 := by rw [q17]; exact hn
        refine x_sub (ls2 := [(0, .ref v0)]) [0] rfl ?_
        exact s_X7_readNumber_b70 h16 v0 n18 H
theorem sl_X7_readNumber_l5 {Z : Nat → (Nat → Nat) → State → Prop} (v0 : Nat) (n : Nat) (s : KH) (r : KH) (hn : (s).1 = 243) (H : kloop (f_X7_readNumber_l5 v0) n s = some r) : KX Z RX7 cX7_readNumber 1 false 2 (E_X7_readNumber_l5 v0 r) 5 [(0, .ref v0)] [] s :=
  k_loop (ls := (fun (s : KH) => ([(0, .ref v0)] : List (Nat × Value)))) (hp := (fun (s : KH) => (s : KH))) (G := E_X7_readNumber_l5 v0) (fun s t hn H => s_X7_readNumber_l5 v0 s t hn H) n s r hn H
def f_X7_readNumber (h : KH) (v0 : Nat) : Option (KH) :=
  if kkind v0 = 7 then kl (ksI h v0 3 (3 : Int32)) fun h2 =>
  kb (kloop (f_X7_readNumber_l5 v0) KF h2) fun e5 =>
  some e5 else none
set_option maxHeartbeats 4000000 in
set_option maxRecDepth 100000 in
theorem s0_X7_readNumber {Z : Nat → (Nat → Nat) → State → Prop} (h : KH) (v0 : Nat) {t : KH} (hn : h.1 = 243) (H : f_X7_readNumber h v0 = some t) : KX Z RX7 cX7_readNumber 1 false 2 (KRv cX7_readNumber t) 0 [(0, .ref v0)] [] h := by
  unfold f_X7_readNumber at H
  refine x_aload_n (q := 1) dX7_readNumber_0 rfl rfl ?_
  refine x_iconst (q := 2) (v := (3 : Int32)) dX7_readNumber_1 rfl (by decide) ?_
  replace H := kif H; obtain ⟨g1, H⟩ := H
  replace H := kle H; obtain ⟨h2, q3, H⟩ := H
  refine x_putI (q := 5) dX7_readNumber_2 rfl kl_RX7_19 (Or.inl rfl) rfl (k243 g1 (by decide) hn) ?_
  refine x_nmH q3 ?_
  have n4 : h2.1 = 243 := by rw [q3]; exact hn
  refine x_sub (ls2 := [(0, .ref v0)]) [0] rfl ?_
  replace H := kbe H; obtain ⟨e5, c6, H⟩ := H
  refine x_app (sl_X7_readNumber_l5 v0 KF h2 e5 n4 c6) fun pc2 ls2 st2 h2 hg m7 => ?_
  obtain ⟨rfl, rfl, rfl, rfl⟩ := hg
  cases H
  exact x_end ⟨dX7_readNumber_93, rfl, rfl⟩
theorem s_X7_readNumber {Z : Nat → (Nat → Nat) → State → Prop} (h : KH) (v0 : Nat) {t : KH} (hn : h.1 = 243) (H : f_X7_readNumber h v0 = some t) : KM Z yX7_readNumber cX7_readNumber 1 none 2 [.ref v0] h none t :=
  kx_v (own := RX7) (ini := false) (by decide +kernel) (by decide +kernel) rfl (Nat.le_of_ble_eq_true rfl) (s0_X7_readNumber h v0 hn H)
theorem dX7_next_0 : decode cX7_next 0 = .ok (.aload_n 0, 1) := by decide +kernel
theorem dX7_next_1 : decode cX7_next 1 = .ok (.getfield 19, 3) := by decide +kernel
theorem dX7_next_4 : decode cX7_next 4 = .ok (.bipush 6, 2) := by decide +kernel
theorem dX7_next_6 : decode cX7_next 6 = .ok (.if_icmp .ne 4, 3) := by decide +kernel
theorem dX7_next_9 : decode cX7_next 9 = .ok (.return_, 1) := by decide +kernel
theorem dX7_next_10 : decode cX7_next 10 = .ok (.aload_n 0, 1) := by decide +kernel
theorem dX7_next_11 : decode cX7_next 11 = .ok (.getfield 19, 3) := by decide +kernel
theorem dX7_next_14 : decode cX7_next 14 = .ok (.iconst 2, 1) := by decide +kernel
theorem dX7_next_15 : decode cX7_next 15 = .ok (.if_icmp .eq 11, 3) := by decide +kernel
theorem dX7_next_18 : decode cX7_next 18 = .ok (.aload_n 0, 1) := by decide +kernel
theorem dX7_next_19 : decode cX7_next 19 = .ok (.getfield 19, 3) := by decide +kernel
theorem dX7_next_22 : decode cX7_next 22 = .ok (.iconst 3, 1) := by decide +kernel
theorem dX7_next_23 : decode cX7_next 23 = .ok (.if_icmp .ne 7, 3) := by decide +kernel
theorem dX7_next_26 : decode cX7_next 26 = .ok (.iconst 1, 1) := by decide +kernel
theorem dX7_next_27 : decode cX7_next 27 = .ok (.goto 4, 3) := by decide +kernel
theorem dX7_next_30 : decode cX7_next 30 = .ok (.iconst 0, 1) := by decide +kernel
theorem dX7_next_31 : decode cX7_next 31 = .ok (.istore_n 1, 1) := by decide +kernel
theorem dX7_next_32 : decode cX7_next 32 = .ok (.aload_n 0, 1) := by decide +kernel
theorem dX7_next_33 : decode cX7_next 33 = .ok (.getfield 15, 3) := by decide +kernel
theorem dX7_next_36 : decode cX7_next 36 = .ok (.istore_n 2, 1) := by decide +kernel
theorem dX7_next_37 : decode cX7_next 37 = .ok (.aload_n 0, 1) := by decide +kernel
theorem dX7_next_38 : decode cX7_next 38 = .ok (.getfield 15, 3) := by decide +kernel
theorem dX7_next_41 : decode cX7_next 41 = .ok (.aload_n 0, 1) := by decide +kernel
theorem dX7_next_42 : decode cX7_next 42 = .ok (.getfield 37, 3) := by decide +kernel
theorem dX7_next_45 : decode cX7_next 45 = .ok (.getfield 70, 3) := by decide +kernel
theorem dX7_next_48 : decode cX7_next 48 = .ok (.if_icmp .ge 33, 3) := by decide +kernel
theorem dX7_next_51 : decode cX7_next 51 = .ok (.aload_n 0, 1) := by decide +kernel
theorem dX7_next_52 : decode cX7_next 52 = .ok (.getfield 37, 3) := by decide +kernel
theorem dX7_next_55 : decode cX7_next 55 = .ok (.aload_n 0, 1) := by decide +kernel
theorem dX7_next_56 : decode cX7_next 56 = .ok (.getfield 15, 3) := by decide +kernel
theorem dX7_next_59 : decode cX7_next 59 = .ok (.invokevirtual 74, 3) := by decide +kernel
theorem dX7_next_62 : decode cX7_next 62 = .ok (.invokestatic 77, 3) := by decide +kernel
theorem dX7_next_65 : decode cX7_next 65 = .ok (.ifCond .eq 16, 3) := by decide +kernel
theorem dX7_next_68 : decode cX7_next 68 = .ok (.aload_n 0, 1) := by decide +kernel
theorem dX7_next_69 : decode cX7_next 69 = .ok (.dup, 1) := by decide +kernel
theorem dX7_next_70 : decode cX7_next 70 = .ok (.getfield 15, 3) := by decide +kernel
theorem dX7_next_73 : decode cX7_next 73 = .ok (.iconst 1, 1) := by decide +kernel
theorem dX7_next_74 : decode cX7_next 74 = .ok (.iadd, 1) := by decide +kernel
theorem dX7_next_75 : decode cX7_next 75 = .ok (.putfield 15, 3) := by decide +kernel
theorem dX7_next_78 : decode cX7_next 78 = .ok (.goto (-41), 3) := by decide +kernel
theorem dX7_next_81 : decode cX7_next 81 = .ok (.aload_n 0, 1) := by decide +kernel
theorem dX7_next_82 : decode cX7_next 82 = .ok (.aload_n 0, 1) := by decide +kernel
theorem dX7_next_83 : decode cX7_next 83 = .ok (.getfield 15, 3) := by decide +kernel
theorem dX7_next_86 : decode cX7_next 86 = .ok (.putfield 22, 3) := by decide +kernel
theorem dX7_next_89 : decode cX7_next 89 = .ok (.aload_n 0, 1) := by decide +kernel
theorem dX7_next_90 : decode cX7_next 90 = .ok (.iconst 0, 1) := by decide +kernel
theorem dX7_next_91 : decode cX7_next 91 = .ok (.putfield 25, 3) := by decide +kernel
theorem dX7_next_94 : decode cX7_next 94 = .ok (.aload_n 0, 1) := by decide +kernel
theorem dX7_next_95 : decode cX7_next 95 = .ok (.iconst 0, 1) := by decide +kernel
theorem dX7_next_96 : decode cX7_next 96 = .ok (.putfield 28, 3) := by decide +kernel
theorem dX7_next_99 : decode cX7_next 99 = .ok (.aload_n 0, 1) := by decide +kernel
theorem dX7_next_100 : decode cX7_next 100 = .ok (.getfield 15, 3) := by decide +kernel
theorem dX7_next_103 : decode cX7_next 103 = .ok (.aload_n 0, 1) := by decide +kernel
theorem dX7_next_104 : decode cX7_next 104 = .ok (.getfield 37, 3) := by decide +kernel
theorem dX7_next_107 : decode cX7_next 107 = .ok (.getfield 70, 3) := by decide +kernel
theorem dX7_next_110 : decode cX7_next 110 = .ok (.if_icmp .lt 11, 3) := by decide +kernel
theorem dX7_next_113 : decode cX7_next 113 = .ok (.aload_n 0, 1) := by decide +kernel
theorem dX7_next_114 : decode cX7_next 114 = .ok (.iconst 1, 1) := by decide +kernel
theorem dX7_next_115 : decode cX7_next 115 = .ok (.putfield 19, 3) := by decide +kernel
theorem dX7_next_118 : decode cX7_next 118 = .ok (.goto 81, 3) := by decide +kernel
theorem dX7_next_121 : decode cX7_next 121 = .ok (.aload_n 0, 1) := by decide +kernel
theorem dX7_next_122 : decode cX7_next 122 = .ok (.getfield 37, 3) := by decide +kernel
theorem dX7_next_125 : decode cX7_next 125 = .ok (.aload_n 0, 1) := by decide +kernel
theorem dX7_next_126 : decode cX7_next 126 = .ok (.getfield 15, 3) := by decide +kernel
theorem dX7_next_129 : decode cX7_next 129 = .ok (.invokevirtual 74, 3) := by decide +kernel
theorem dX7_next_132 : decode cX7_next 132 = .ok (.invokestatic 81, 3) := by decide +kernel
theorem dX7_next_135 : decode cX7_next 135 = .ok (.ifCond .eq 10, 3) := by decide +kernel
theorem dX7_next_138 : decode cX7_next 138 = .ok (.aload_n 0, 1) := by decide +kernel
theorem dX7_next_139 : decode cX7_next 139 = .ok (.invokevirtual 84, 3) := by decide +kernel
theorem dX7_next_142 : decode cX7_next 142 = .ok (.goto 57, 3) := by decide +kernel
theorem dX7_next_145 : decode cX7_next 145 = .ok (.aload_n 0, 1) := by decide +kernel
theorem dX7_next_146 : decode cX7_next 146 = .ok (.getfield 37, 3) := by decide +kernel
theorem dX7_next_149 : decode cX7_next 149 = .ok (.aload_n 0, 1) := by decide +kernel
theorem dX7_next_150 : decode cX7_next 150 = .ok (.getfield 15, 3) := by decide +kernel
theorem dX7_next_153 : decode cX7_next 153 = .ok (.invokevirtual 74, 3) := by decide +kernel
theorem dX7_next_156 : decode cX7_next 156 = .ok (.invokestatic 87, 3) := by decide +kernel
theorem dX7_next_159 : decode cX7_next 159 = .ok (.ifCond .eq 10, 3) := by decide +kernel
theorem dX7_next_162 : decode cX7_next 162 = .ok (.aload_n 0, 1) := by decide +kernel
theorem dX7_next_163 : decode cX7_next 163 = .ok (.invokevirtual 90, 3) := by decide +kernel
theorem dX7_next_166 : decode cX7_next 166 = .ok (.goto 33, 3) := by decide +kernel
theorem dX7_next_169 : decode cX7_next 169 = .ok (.aload_n 0, 1) := by decide +kernel
theorem dX7_next_170 : decode cX7_next 170 = .ok (.iconst 4, 1) := by decide +kernel
theorem dX7_next_171 : decode cX7_next 171 = .ok (.putfield 19, 3) := by decide +kernel
theorem dX7_next_174 : decode cX7_next 174 = .ok (.aload_n 0, 1) := by decide +kernel
theorem dX7_next_175 : decode cX7_next 175 = .ok (.aload_n 0, 1) := by decide +kernel
theorem dX7_next_176 : decode cX7_next 176 = .ok (.getfield 37, 3) := by decide +kernel
theorem dX7_next_179 : decode cX7_next 179 = .ok (.aload_n 0, 1) := by decide +kernel
theorem dX7_next_180 : decode cX7_next 180 = .ok (.getfield 15, 3) := by decide +kernel
theorem dX7_next_183 : decode cX7_next 183 = .ok (.invokevirtual 74, 3) := by decide +kernel
theorem dX7_next_186 : decode cX7_next 186 = .ok (.putfield 28, 3) := by decide +kernel
theorem dX7_next_189 : decode cX7_next 189 = .ok (.aload_n 0, 1) := by decide +kernel
theorem dX7_next_190 : decode cX7_next 190 = .ok (.dup, 1) := by decide +kernel
theorem dX7_next_191 : decode cX7_next 191 = .ok (.getfield 15, 3) := by decide +kernel
theorem dX7_next_194 : decode cX7_next 194 = .ok (.iconst 1, 1) := by decide +kernel
theorem dX7_next_195 : decode cX7_next 195 = .ok (.iadd, 1) := by decide +kernel
theorem dX7_next_196 : decode cX7_next 196 = .ok (.putfield 15, 3) := by decide +kernel
theorem dX7_next_199 : decode cX7_next 199 = .ok (.aload_n 0, 1) := by decide +kernel
theorem dX7_next_200 : decode cX7_next 200 = .ok (.getfield 19, 3) := by decide +kernel
theorem dX7_next_203 : decode cX7_next 203 = .ok (.iconst 2, 1) := by decide +kernel
theorem dX7_next_204 : decode cX7_next 204 = .ok (.if_icmp .eq 11, 3) := by decide +kernel
theorem dX7_next_207 : decode cX7_next 207 = .ok (.aload_n 0, 1) := by decide +kernel
theorem dX7_next_208 : decode cX7_next 208 = .ok (.getfield 19, 3) := by decide +kernel
theorem dX7_next_211 : decode cX7_next 211 = .ok (.iconst 3, 1) := by decide +kernel
theorem dX7_next_212 : decode cX7_next 212 = .ok (.if_icmp .ne 7, 3) := by decide +kernel
theorem dX7_next_215 : decode cX7_next 215 = .ok (.iconst 1, 1) := by decide +kernel
theorem dX7_next_216 : decode cX7_next 216 = .ok (.goto 4, 3) := by decide +kernel
theorem dX7_next_219 : decode cX7_next 219 = .ok (.iconst 0, 1) := by decide +kernel
theorem dX7_next_220 : decode cX7_next 220 = .ok (.istore_n 3, 1) := by decide +kernel
theorem dX7_next_221 : decode cX7_next 221 = .ok (.iload_n 1, 1) := by decide +kernel
theorem dX7_next_222 : decode cX7_next 222 = .ok (.ifCond .eq 20, 3) := by decide +kernel
theorem dX7_next_225 : decode cX7_next 225 = .ok (.iload_n 3, 1) := by decide +kernel
theorem dX7_next_226 : decode cX7_next 226 = .ok (.ifCond .eq 16, 3) := by decide +kernel
theorem dX7_next_229 : decode cX7_next 229 = .ok (.aload_n 0, 1) := by decide +kernel
theorem dX7_next_230 : decode cX7_next 230 = .ok (.getfield 22, 3) := by decide +kernel
theorem dX7_next_233 : decode cX7_next 233 = .ok (.iload_n 2, 1) := by decide +kernel
theorem dX7_next_234 : decode cX7_next 234 = .ok (.if_icmp .ne 8, 3) := by decide +kernel
theorem dX7_next_237 : decode cX7_next 237 = .ok (.aload_n 0, 1) := by decide +kernel
theorem dX7_next_238 : decode cX7_next 238 = .ok (.iconst 5, 1) := by decide +kernel
theorem dX7_next_239 : decode cX7_next 239 = .ok (.putfield 19, 3) := by decide +kernel
theorem dX7_next_242 : decode cX7_next 242 = .ok (.return_, 1) := by decide +kernel
theorem kc_RX7_77 : Cond.methodLink RX7 77 yX7_isBlank ∈ ktG ∧ Cond.static yX7_isBlank ∈ ktG ∧ Cond.initialized yX7_isBlank.cls ∈ ktG ∧ Cond.code yX7_isBlank cX7_isBlank 1 (some .boolean) ∈ ktG := ⟨(kwm 626 (by decide +kernel) (by decide +kernel)), (kwm 627 (by decide +kernel) (by decide +kernel)), (kwm 127 (by decide +kernel) (by decide +kernel)), kwm 628 (by decide +kernel) (by decide +kernel)⟩
theorem kh_X7_isBlank : yX7_isBlank.cls ≠ "java/lang/invoke/MethodHandle" ∧ yX7_isBlank.cls ≠ "java/lang/invoke/VarHandle" ∧ (parseMethodDescriptor yX7_isBlank.desc).map (fun d => d.parameters.length) = some 1 := by decide +kernel
theorem kl_RX7_22 : KLk RX7 22 7 4 := ⟨RX7, TX7, 9, rfl, by decide, Or.inl (kwm 281 (by decide +kernel) (by decide +kernel))⟩
theorem kc_RX7_90 : Cond.methodLink RX7 90 yX7_readNumber ∈ ktG ∧ (Cond.instanceMethod yX7_readNumber ∈ ktG ∧ Cond.selects yX7_readNumber.cls yX7_readNumber yX7_readNumber ∈ ktG) ∧ Cond.initialized yX7_readNumber.cls ∈ ktG ∧ Cond.code yX7_readNumber cX7_readNumber 1 none ∈ ktG := ⟨(kwm 639 (by decide +kernel) (by decide +kernel)), ⟨(kwm 641 (by decide +kernel) (by decide +kernel)), (kwm 3 (by decide +kernel) (by decide +kernel))⟩, (kwm 127 (by decide +kernel) (by decide +kernel)), kwm 642 (by decide +kernel) (by decide +kernel)⟩
theorem kh_X7_readNumber : yX7_readNumber.cls ≠ "java/lang/invoke/MethodHandle" ∧ yX7_readNumber.cls ≠ "java/lang/invoke/VarHandle" ∧ (parseMethodDescriptor yX7_readNumber.desc).map (fun d => d.parameters.length) = some 0 := by decide +kernel
theorem kc_RX7_84 : Cond.methodLink RX7 84 yX7_readWord ∈ ktG ∧ (Cond.instanceMethod yX7_readWord ∈ ktG ∧ Cond.selects yX7_readWord.cls yX7_readWord yX7_readWord ∈ ktG) ∧ Cond.initialized yX7_readWord.cls ∈ ktG ∧ Cond.code yX7_readWord cX7_readWord 1 none ∈ ktG := ⟨(kwm 632 (by decide +kernel) (by decide +kernel)), ⟨(kwm 634 (by decide +kernel) (by decide +kernel)), (kwm 2 (by decide +kernel) (by decide +kernel))⟩, (kwm 127 (by decide +kernel) (by decide +kernel)), kwm 635 (by decide +kernel) (by decide +kernel)⟩
theorem kh_X7_readWord : yX7_readWord.cls ≠ "java/lang/invoke/MethodHandle" ∧ yX7_readWord.cls ≠ "java/lang/invoke/VarHandle" ∧ (parseMethodDescriptor yX7_readWord.desc).map (fun d => d.parameters.length) = some 0 := by decide +kernel
def E_X7_next_l37 (v0 : Nat) (v1 : Int32) (v2 : Int32) : KH → Nat → List (Nat × Value) → List Value → KH → Prop := fun (e : KH) pc ls st hh => pc = 81 ∧ ls = [(0, .ref v0), (1, .int v1), (2, .int v2)] ∧ st = [] ∧ e = hh
def B_X7_next_l37 (v0 : Nat) (v1 : Int32) (v2 : Int32) : ((KH) ⊕ (KH)) → Nat → List (Nat × Value) → List Value → KH → Prop := Sum.elim (fun (s : KH) pc ls st hh => pc = 37 ∧ ls = [(0, .ref v0), (1, .int v1), (2, .int v2)] ∧ st = [] ∧ hh = s) (E_X7_next_l37 v0 v1 v2)
def f_X7_next_l37 (v0 : Nat) (v1 : Int32) (v2 : Int32) (s : KH) : Option ((KH) ⊕ (KH)) :=
  if kkind v0 = 7 then if (kR s v0 0) < 999999 then if kkind (kR s v0 0) = 9 then if (kI s (kR s v0 0) 1) ≤ (kI s v0 2) then
  some (.inr s)
  else
  kb (f_X9_byteAt s (kR s v0 0) (kI s v0 2)) fun r5 =>
  kb (f_X7_isBlank s r5) fun r8 =>
  if r8 = 0 then
  some (.inr s)
  else
  kl (ksI s v0 2 ((kI s v0 2) + (1 : Int32))) fun h12 =>
  some (.inl h12) else none else none else none
set_option maxHeartbeats 4000000 in
set_option maxRecDepth 100000 in
theorem s_X7_next_l37 {Z : Nat → (Nat → Nat) → State → Prop} (v0 : Nat) (v1 : Int32) (v2 : Int32) (s : KH) (t : (KH) ⊕ (KH)) (hn : (s).1 = 243) (H : f_X7_next_l37 v0 v1 v2 s = some t) : KX Z RX7 cX7_next 4 false 3 (B_X7_next_l37 v0 v1 v2 t) 37 [(0, .ref v0), (1, .int v1), (2, .int v2)] [] s := by
  unfold f_X7_next_l37 at H
  refine x_aload_n (q := 38) dX7_next_37 rfl rfl ?_
  replace H := kif H; obtain ⟨g1, H⟩ := H
  refine x_getI (q := 41) dX7_next_38 rfl kl_RX7_15 (Or.inl rfl) (k243 g1 (by decide) hn) ?_
  refine x_aload_n (q := 42) dX7_next_41 rfl rfl ?_
  replace H := kif H; obtain ⟨g2, H⟩ := H
  refine x_getR (q := 45) dX7_next_42 rfl kl_RX7_37 rfl (k243 g1 (by decide) hn) g2 ?_
  replace H := kif H; obtain ⟨g3, H⟩ := H
  refine x_getI (q := 48) dX7_next_45 rfl kl_RX7_70 (Or.inl rfl) (k243 g3 (by decide) hn) ?_
  replace H := kite H; rcases H with ⟨g4, H⟩ | ⟨g4, H⟩
  · refine x_icmp_ge_t dX7_next_48 (q := 81) (by decide) g4 ?_
    cases H
    refine x_sub (ls2 := [(0, .ref v0), (1, .int v1), (2, .int v2)]) [0, 1, 2] rfl ?_
    exact x_end (x_cfg rfl)
  · refine x_icmp_ge_f (q := 51) dX7_next_48 (t := 81) (by decide) rfl g4 ?_
    refine x_aload_n (q := 52) dX7_next_51 rfl rfl ?_
    refine x_getR (q := 55) dX7_next_52 rfl kl_RX7_37 rfl (k243 g1 (by decide) hn) g2 ?_
    refine x_aload_n (q := 56) dX7_next_55 rfl rfl ?_
    refine x_getI (q := 59) dX7_next_56 rfl kl_RX7_15 (Or.inl rfl) (k243 g1 (by decide) hn) ?_
    replace H := kbe H; obtain ⟨r5, c6, H⟩ := H
    have m7 := s_X9_byteAt (Z := Z) s (kR s v0 0) (kI s v0 2) hn c6
    refine x_callV (q := 62) (as := [.int (kI s v0 2)]) (rest := []) dX7_next_59 rfl kc_RX7_74 kh_X9_byteAt (by decide) (Nat.le_of_ble_eq_true rfl) m7 (ci := 9) (by exact ⟨rfl, by decide⟩) (k243 g3 (by decide) hn) ?_
    replace H := kbe H; obtain ⟨r8, c9, H⟩ := H
    have m10 := s_X7_isBlank (Z := Z) s r5 hn c9
    refine x_callS (q := 65) (as := [.int r5]) (rest := []) dX7_next_62 rfl kc_RX7_77 kh_X7_isBlank (by decide) (Nat.le_of_ble_eq_true rfl) m10 ?_
    replace H := kite H; rcases H with ⟨g11, H⟩ | ⟨g11, H⟩
    · refine x_if_eq_t dX7_next_65 (q := 81) (by decide) g11 ?_
      cases H
      refine x_sub (ls2 := [(0, .ref v0), (1, .int v1), (2, .int v2)]) [0, 1, 2] rfl ?_
      exact x_end (x_cfg rfl)
    · refine x_if_eq_f (q := 68) dX7_next_65 (t := 81) (by decide) rfl g11 ?_
      refine x_aload_n (q := 69) dX7_next_68 rfl rfl ?_
      refine x_dup (q := 70) dX7_next_69 rfl rfl ?_
      refine x_getI (q := 73) dX7_next_70 rfl kl_RX7_15 (Or.inl rfl) (k243 g1 (by decide) hn) ?_
      refine x_iconst (q := 74) (v := (1 : Int32)) dX7_next_73 rfl (by decide) ?_
      refine x_iadd (q := 75) dX7_next_74 rfl ?_
      replace H := kle H; obtain ⟨h12, q13, H⟩ := H
      refine x_putI (q := 78) dX7_next_75 rfl kl_RX7_15 (Or.inl rfl) rfl (k243 g1 (by decide) hn) ?_
      refine x_nmH q13 ?_
      have n14 : h12.1 = 243 := by rw [q13]; exact hn
      refine x_goto dX7_next_78 (q := 37) (by decide) ?_
      cases H
      refine x_sub (ls2 := [(0, .ref v0), (1, .int v1), (2, .int v2)]) [0, 1, 2] rfl ?_
      exact x_end (x_cfg rfl)
theorem sl_X7_next_l37 {Z : Nat → (Nat → Nat) → State → Prop} (v0 : Nat) (v1 : Int32) (v2 : Int32) (n : Nat) (s : KH) (r : KH) (hn : (s).1 = 243) (H : kloop (f_X7_next_l37 v0 v1 v2) n s = some r) : KX Z RX7 cX7_next 4 false 3 (E_X7_next_l37 v0 v1 v2 r) 37 [(0, .ref v0), (1, .int v1), (2, .int v2)] [] s :=
  k_loop (ls := (fun (s : KH) => ([(0, .ref v0), (1, .int v1), (2, .int v2)] : List (Nat × Value)))) (hp := (fun (s : KH) => (s : KH))) (G := E_X7_next_l37 v0 v1 v2) (fun s t hn H => s_X7_next_l37 v0 v1 v2 s t hn H) n s r hn H
def f_X7_next_b220 (h : KH) (v0 : Nat) (v1 : Int32) (v2 : Int32) (w0 : Int32) : Option (KH) :=
  if v1 = 0 then
  some h
  else
  if w0 = 0 then
  some h
  else
  if kkind v0 = 7 then if (kI h v0 4) = v2 then
  kl (ksI h v0 3 (5 : Int32)) fun h5 =>
  some h5
  else
  some h else none
set_option maxHeartbeats 4000000 in
set_option maxRecDepth 100000 in
theorem s_X7_next_b220 {Z : Nat → (Nat → Nat) → State → Prop} (h : KH) (v0 : Nat) (v1 : Int32) (v2 : Int32) (w0 : Int32) {t : KH} (hn : h.1 = 243) (H : f_X7_next_b220 h v0 v1 v2 w0 = some t) : KX Z RX7 cX7_next 4 false 3 (KRv cX7_next t) 220 [(0, .ref v0), (1, .int v1), (2, .int v2)] [.int w0] h := by
  unfold f_X7_next_b220 at H
  refine x_istore_n (q := 221) (i := 3) (ls2 := [(3, .int w0), (0, .ref v0), (1, .int v1), (2, .int v2)]) dX7_next_220 rfl rfl (by decide) rfl ?_
  refine x_iload_n (q := 222) dX7_next_221 rfl rfl ?_
  replace H := kite H; rcases H with ⟨g1, H⟩ | ⟨g1, H⟩
  · refine x_if_eq_t dX7_next_222 (q := 242) (by decide) g1 ?_
    cases H
    exact x_end ⟨dX7_next_242, rfl, rfl⟩
  · refine x_if_eq_f (q := 225) dX7_next_222 (t := 242) (by decide) rfl g1 ?_
    refine x_iload_n (q := 226) dX7_next_225 rfl rfl ?_
    replace H := kite H; rcases H with ⟨g2, H⟩ | ⟨g2, H⟩
    · refine x_if_eq_t dX7_next_226 (q := 242) (by decide) g2 ?_
      cases H
      exact x_end ⟨dX7_next_242, rfl, rfl⟩
    · refine x_if_eq_f (q := 229) dX7_next_226 (t := 242) (by decide) rfl g2 ?_
      refine x_aload_n (q := 230) dX7_next_229 rfl rfl ?_
      replace H := kif H; obtain ⟨g3, H⟩ := H
      refine x_getI (q := 233) dX7_next_230 rfl kl_RX7_22 (Or.inl rfl) (k243 g3 (by decide) hn) ?_
      refine x_iload_n (q := 234) dX7_next_233 rfl rfl ?_
      replace H := kite H; rcases H with ⟨g4, H⟩ | ⟨g4, H⟩
      · refine x_icmp_ne_f (q := 237) dX7_next_234 (t := 242) (by decide) rfl g4 ?_
        refine x_aload_n (q := 238) dX7_next_237 rfl rfl ?_
        refine x_iconst (q := 239) (v := (5 : Int32)) dX7_next_238 rfl (by decide) ?_
        replace H := kle H; obtain ⟨h5, q6, H⟩ := H
        refine x_putI (q := 242) dX7_next_239 rfl kl_RX7_19 (Or.inl rfl) rfl (k243 g3 (by decide) hn) ?_
        refine x_nmH q6 ?_
        have n7 : h5.1 = 243 := by rw [q6]; exact hn
        cases H
        exact x_end ⟨dX7_next_242, rfl, rfl⟩
      · refine x_icmp_ne_t dX7_next_234 (q := 242) (by decide) g4 ?_
        cases H
        exact x_end ⟨dX7_next_242, rfl, rfl⟩
def f_X7_next_b215 (h : KH) (v0 : Nat) (v1 : Int32) (v2 : Int32) : Option (KH) :=
  f_X7_next_b220 h v0 v1 v2 (1 : Int32)
set_option maxHeartbeats 4000000 in
set_option maxRecDepth 100000 in
theorem s_X7_next_b215 {Z : Nat → (Nat → Nat) → State → Prop} (h : KH) (v0 : Nat) (v1 : Int32) (v2 : Int32) {t : KH} (hn : h.1 = 243) (H : f_X7_next_b215 h v0 v1 v2 = some t) : KX Z RX7 cX7_next 4 false 3 (KRv cX7_next t) 215 [(0, .ref v0), (1, .int v1), (2, .int v2)] [] h := by
  unfold f_X7_next_b215 at H
  refine x_iconst (q := 216) (v := (1 : Int32)) dX7_next_215 rfl (by decide) ?_
  refine x_goto dX7_next_216 (q := 220) (by decide) ?_
  refine x_sub (ls2 := [(0, .ref v0), (1, .int v1), (2, .int v2)]) [0, 1, 2] rfl ?_
  exact s_X7_next_b220 h v0 v1 v2 (1 : Int32) hn H
def f_X7_next_b199 (h : KH) (v0 : Nat) (v1 : Int32) (v2 : Int32) : Option (KH) :=
  if kkind v0 = 7 then if (kI h v0 3) = (2 : Int32) then
  f_X7_next_b215 h v0 v1 v2
  else
  if (kI h v0 3) = (3 : Int32) then
  f_X7_next_b215 h v0 v1 v2
  else
  f_X7_next_b220 h v0 v1 v2 (0 : Int32) else none
set_option maxHeartbeats 4000000 in
set_option maxRecDepth 100000 in
theorem s_X7_next_b199 {Z : Nat → (Nat → Nat) → State → Prop} (h : KH) (v0 : Nat) (v1 : Int32) (v2 : Int32) {t : KH} (hn : h.1 = 243) (H : f_X7_next_b199 h v0 v1 v2 = some t) : KX Z RX7 cX7_next 4 false 3 (KRv cX7_next t) 199 [(0, .ref v0), (1, .int v1), (2, .int v2)] [] h := by
  unfold f_X7_next_b199 at H
  refine x_aload_n (q := 200) dX7_next_199 rfl rfl ?_
  replace H := kif H; obtain ⟨g1, H⟩ := H
  refine x_getI (q := 203) dX7_next_200 rfl kl_RX7_19 (Or.inl rfl) (k243 g1 (by decide) hn) ?_
  refine x_iconst (q := 204) (v := (2 : Int32)) dX7_next_203 rfl (by decide) ?_
  replace H := kite H; rcases H with ⟨g2, H⟩ | ⟨g2, H⟩
  · refine x_icmp_eq_t dX7_next_204 (q := 215) (by decide) g2 ?_
    refine x_sub (ls2 := [(0, .ref v0), (1, .int v1), (2, .int v2)]) [0, 1, 2] rfl ?_
    exact s_X7_next_b215 h v0 v1 v2 hn H
  · refine x_icmp_eq_f (q := 207) dX7_next_204 (t := 215) (by decide) rfl g2 ?_
    refine x_aload_n (q := 208) dX7_next_207 rfl rfl ?_
    refine x_getI (q := 211) dX7_next_208 rfl kl_RX7_19 (Or.inl rfl) (k243 g1 (by decide) hn) ?_
    refine x_iconst (q := 212) (v := (3 : Int32)) dX7_next_211 rfl (by decide) ?_
    replace H := kite H; rcases H with ⟨g3, H⟩ | ⟨g3, H⟩
    · refine x_icmp_ne_f (q := 215) dX7_next_212 (t := 219) (by decide) rfl g3 ?_
      refine x_sub (ls2 := [(0, .ref v0), (1, .int v1), (2, .int v2)]) [0, 1, 2] rfl ?_
      exact s_X7_next_b215 h v0 v1 v2 hn H
    · refine x_icmp_ne_t dX7_next_212 (q := 219) (by decide) g3 ?_
      refine x_iconst (q := 220) (v := (0 : Int32)) dX7_next_219 rfl (by decide) ?_
      refine x_sub (ls2 := [(0, .ref v0), (1, .int v1), (2, .int v2)]) [0, 1, 2] rfl ?_
      exact s_X7_next_b220 h v0 v1 v2 (0 : Int32) hn H
def f_X7_next_b81 (h : KH) (v0 : Nat) (v1 : Int32) (v2 : Int32) : Option (KH) :=
  if kkind v0 = 7 then kl (ksI h v0 4 (kI h v0 2)) fun h2 =>
  kl (ksI h2 v0 5 (0 : Int32)) fun h5 =>
  kl (ksI h5 v0 6 (0 : Int32)) fun h8 =>
  if (kR h8 v0 0) < 999999 then if kkind (kR h8 v0 0) = 9 then if (kI h8 v0 2) < (kI h8 (kR h8 v0 0) 1) then
  kb (f_X9_byteAt h8 (kR h8 v0 0) (kI h8 v0 2)) fun r14 =>
  kb (f_X7_isLetter h8 r14) fun r17 =>
  if r17 = 0 then
  kb (f_X9_byteAt h8 (kR h8 v0 0) (kI h8 v0 2)) fun r21 =>
  kb (f_X7_isDigit h8 r21) fun r24 =>
  if r24 = 0 then
  kl (ksI h8 v0 3 (4 : Int32)) fun h28 =>
  if (kR h28 v0 0) < 999999 then if kkind (kR h28 v0 0) = 9 then kb (f_X9_byteAt h28 (kR h28 v0 0) (kI h28 v0 2)) fun r33 =>
  kl (ksI h28 v0 6 r33) fun h36 =>
  kl (ksI h36 v0 2 ((kI h36 v0 2) + (1 : Int32))) fun h39 =>
  f_X7_next_b199 h39 v0 v1 v2 else none else none
  else
  kb (f_X7_readNumber h8 v0) fun r42 =>
  f_X7_next_b199 r42 v0 v1 v2
  else
  kb (f_X7_readWord h8 v0) fun r46 =>
  f_X7_next_b199 r46 v0 v1 v2
  else
  kl (ksI h8 v0 3 (1 : Int32)) fun h50 =>
  f_X7_next_b199 h50 v0 v1 v2 else none else none else none
set_option maxHeartbeats 4000000 in
set_option maxRecDepth 100000 in
theorem s_X7_next_b81 {Z : Nat → (Nat → Nat) → State → Prop} (h : KH) (v0 : Nat) (v1 : Int32) (v2 : Int32) {t : KH} (hn : h.1 = 243) (H : f_X7_next_b81 h v0 v1 v2 = some t) : KX Z RX7 cX7_next 4 false 3 (KRv cX7_next t) 81 [(0, .ref v0), (1, .int v1), (2, .int v2)] [] h := by
  unfold f_X7_next_b81 at H
  refine x_aload_n (q := 82) dX7_next_81 rfl rfl ?_
  refine x_aload_n (q := 83) dX7_next_82 rfl rfl ?_
  replace H := kif H; obtain ⟨g1, H⟩ := H
  refine x_getI (q := 86) dX7_next_83 rfl kl_RX7_15 (Or.inl rfl) (k243 g1 (by decide) hn) ?_
  replace H := kle H; obtain ⟨h2, q3, H⟩ := H
  refine x_putI (q := 89) dX7_next_86 rfl kl_RX7_22 (Or.inl rfl) rfl (k243 g1 (by decide) hn) ?_
  refine x_nmH q3 ?_
  have n4 : h2.1 = 243 := by rw [q3]; exact hn
  refine x_aload_n (q := 90) dX7_next_89 rfl rfl ?_
  refine x_iconst (q := 91) (v := (0 : Int32)) dX7_next_90 rfl (by decide) ?_
  replace H := kle H; obtain ⟨h5, q6, H⟩ := H
  refine x_putI (q := 94) dX7_next_91 rfl kl_RX7_25 (Or.inl rfl) rfl (k243 g1 (by decide) n4) ?_
  refine x_nmH q6 ?_
  have n7 : h5.1 = 243 := by rw [q6]; exact n4
  refine x_aload_n (q := 95) dX7_next_94 rfl rfl ?_
  refine x_iconst (q := 96) (v := (0 : Int32)) dX7_next_95 rfl (by decide) ?_
  replace H := kle H; obtain ⟨h8, q9, H⟩ := H
  refine x_putI (q := 99) dX7_next_96 rfl kl_RX7_28 (Or.inl rfl) rfl (k243 g1 (by decide) n7) ?_
  refine x_nmH q9 ?_
  have n10 : h8.1 = 243 := by rw [q9]; exact n7
  refine x_aload_n (q := 100) dX7_next_99 rfl rfl ?_
  refine x_getI (q := 103) dX7_next_100 rfl kl_RX7_15 (Or.inl rfl) (k243 g1 (by decide) n10) ?_
  refine x_aload_n (q := 104) dX7_next_103 rfl rfl ?_
  replace H := kif H; obtain ⟨g11, H⟩ := H
  refine x_getR (q := 107) dX7_next_104 rfl kl_RX7_37 rfl (k243 g1 (by decide) n10) g11 ?_
  replace H := kif H; obtain ⟨g12, H⟩ := H
  refine x_getI (q := 110) dX7_next_107 rfl kl_RX7_70 (Or.inl rfl) (k243 g12 (by decide) n10) ?_
  replace H := kite H; rcases H with ⟨g13, H⟩ | ⟨g13, H⟩
  · refine x_icmp_lt_t dX7_next_110 (q := 121) (by decide) g13 ?_
    refine x_aload_n (q := 122) dX7_next_121 rfl rfl ?_
    refine x_getR (q := 125) dX7_next_122 rfl kl_RX7_37 rfl (k243 g1 (by decide) n10) g11 ?_
    refine x_aload_n (q := 126) dX7_next_125 rfl rfl ?_
    refine x_getI (q := 129) dX7_next_126 rfl kl_RX7_15 (Or.inl rfl) (k243 g1 (by decide) n10) ?_
    replace H := kbe H; obtain ⟨r14, c15, H⟩ := H
    have m16 := s_X9_byteAt (Z := Z) h8 (kR h8 v0 0) (kI h8 v0 2) n10 c15
    refine x_callV (q := 132) (as := [.int (kI h8 v0 2)]) (rest := []) dX7_next_129 rfl kc_RX7_74 kh_X9_byteAt (by decide) (Nat.le_of_ble_eq_true rfl) m16 (ci := 9) (by exact ⟨rfl, by decide⟩) (k243 g12 (by decide) n10) ?_
    replace H := kbe H; obtain ⟨r17, c18, H⟩ := H
    have m19 := s_X7_isLetter (Z := Z) h8 r14 n10 c18
    refine x_callS (q := 135) (as := [.int r14]) (rest := []) dX7_next_132 rfl kc_RX7_81 kh_X7_isLetter (by decide) (Nat.le_of_ble_eq_true rfl) m19 ?_
    replace H := kite H; rcases H with ⟨g20, H⟩ | ⟨g20, H⟩
    · refine x_if_eq_t dX7_next_135 (q := 145) (by decide) g20 ?_
      refine x_aload_n (q := 146) dX7_next_145 rfl rfl ?_
      refine x_getR (q := 149) dX7_next_146 rfl kl_RX7_37 rfl (k243 g1 (by decide) n10) g11 ?_
      refine x_aload_n (q := 150) dX7_next_149 rfl rfl ?_
      refine x_getI (q := 153) dX7_next_150 rfl kl_RX7_15 (Or.inl rfl) (k243 g1 (by decide) n10) ?_
      replace H := kbe H; obtain ⟨r21, c22, H⟩ := H
      have m23 := s_X9_byteAt (Z := Z) h8 (kR h8 v0 0) (kI h8 v0 2) n10 c22
      refine x_callV (q := 156) (as := [.int (kI h8 v0 2)]) (rest := []) dX7_next_153 rfl kc_RX7_74 kh_X9_byteAt (by decide) (Nat.le_of_ble_eq_true rfl) m23 (ci := 9) (by exact ⟨rfl, by decide⟩) (k243 g12 (by decide) n10) ?_
      replace H := kbe H; obtain ⟨r24, c25, H⟩ := H
      have m26 := s_X7_isDigit (Z := Z) h8 r21 n10 c25
      refine x_callS (q := 159) (as := [.int r21]) (rest := []) dX7_next_156 rfl kc_RX7_87 kh_X7_isDigit (by decide) (Nat.le_of_ble_eq_true rfl) m26 ?_
      replace H := kite H; rcases H with ⟨g27, H⟩ | ⟨g27, H⟩
      · refine x_if_eq_t dX7_next_159 (q := 169) (by decide) g27 ?_
        refine x_aload_n (q := 170) dX7_next_169 rfl rfl ?_
        refine x_iconst (q := 171) (v := (4 : Int32)) dX7_next_170 rfl (by decide) ?_
        replace H := kle H; obtain ⟨h28, q29, H⟩ := H
        refine x_putI (q := 174) dX7_next_171 rfl kl_RX7_19 (Or.inl rfl) rfl (k243 g1 (by decide) n10) ?_
        refine x_nmH q29 ?_
        have n30 : h28.1 = 243 := by rw [q29]; exact n10
        refine x_aload_n (q := 175) dX7_next_174 rfl rfl ?_
        refine x_aload_n (q := 176) dX7_next_175 rfl rfl ?_
        replace H := kif H; obtain ⟨g31, H⟩ := H
        refine x_getR (q := 179) dX7_next_176 rfl kl_RX7_37 rfl (k243 g1 (by decide) n30) g31 ?_
        refine x_aload_n (q := 180) dX7_next_179 rfl rfl ?_
        refine x_getI (q := 183) dX7_next_180 rfl kl_RX7_15 (Or.inl rfl) (k243 g1 (by decide) n30) ?_
        replace H := kif H; obtain ⟨g32, H⟩ := H
        replace H := kbe H; obtain ⟨r33, c34, H⟩ := H
        have m35 := s_X9_byteAt (Z := Z) h28 (kR h28 v0 0) (kI h28 v0 2) n30 c34
        refine x_callV (q := 186) (as := [.int (kI h28 v0 2)]) (rest := [.ref v0]) dX7_next_183 rfl kc_RX7_74 kh_X9_byteAt (by decide) (Nat.le_of_ble_eq_true rfl) m35 (ci := 9) (by exact ⟨rfl, by decide⟩) (k243 g32 (by decide) n30) ?_
        replace H := kle H; obtain ⟨h36, q37, H⟩ := H
        refine x_putI (q := 189) dX7_next_186 rfl kl_RX7_28 (Or.inl rfl) rfl (k243 g1 (by decide) n30) ?_
        refine x_nmH q37 ?_
        have n38 : h36.1 = 243 := by rw [q37]; exact n30
        refine x_aload_n (q := 190) dX7_next_189 rfl rfl ?_
        refine x_dup (q := 191) dX7_next_190 rfl rfl ?_
        refine x_getI (q := 194) dX7_next_191 rfl kl_RX7_15 (Or.inl rfl) (k243 g1 (by decide) n38) ?_
        refine x_iconst (q := 195) (v := (1 : Int32)) dX7_next_194 rfl (by decide) ?_
        refine x_iadd (q := 196) dX7_next_195 rfl ?_
        replace H := kle H; obtain ⟨h39, q40, H⟩ := H
        refine x_putI (q := 199) dX7_next_196 rfl kl_RX7_15 (Or.inl rfl) rfl (k243 g1 (by decide) n38) ?_
        refine x_nmH q40 ?_
        have n41 : h39.1 = 243 := by rw [q40]; exact n38
        refine x_sub (ls2 := [(0, .ref v0), (1, .int v1), (2, .int v2)]) [0, 1, 2] rfl ?_
        exact s_X7_next_b199 h39 v0 v1 v2 n41 H
      · refine x_if_eq_f (q := 162) dX7_next_159 (t := 169) (by decide) rfl g27 ?_
        refine x_aload_n (q := 163) dX7_next_162 rfl rfl ?_
        replace H := kbe H; obtain ⟨r42, c43, H⟩ := H
        have m44 := s_X7_readNumber (Z := Z) h8 v0 n10 c43
        refine x_callV (q := 166) (as := []) (rest := []) dX7_next_163 rfl kc_RX7_90 kh_X7_readNumber (by decide) (Nat.le_of_ble_eq_true rfl) m44 (ci := 7) (by exact ⟨rfl, by decide⟩) (k243 g1 (by decide) n10) ?_
        have n45 : (r42).1 = 243 := m44.1.full n10
        refine x_goto dX7_next_166 (q := 199) (by decide) ?_
        refine x_sub (ls2 := [(0, .ref v0), (1, .int v1), (2, .int v2)]) [0, 1, 2] rfl ?_
        exact s_X7_next_b199 r42 v0 v1 v2 n45 H
    · refine x_if_eq_f (q := 138) dX7_next_135 (t := 145) (by decide) rfl g20 ?_
      refine x_aload_n (q := 139) dX7_next_138 rfl rfl ?_
      replace H := kbe H; obtain ⟨r46, c47, H⟩ := H
      have m48 := s_X7_readWord (Z := Z) h8 v0 n10 c47
      refine x_callV (q := 142) (as := []) (rest := []) dX7_next_139 rfl kc_RX7_84 kh_X7_readWord (by decide) (Nat.le_of_ble_eq_true rfl) m48 (ci := 7) (by exact ⟨rfl, by decide⟩) (k243 g1 (by decide) n10) ?_
      have n49 : (r46).1 = 243 := m48.1.full n10
      refine x_goto dX7_next_142 (q := 199) (by decide) ?_
      refine x_sub (ls2 := [(0, .ref v0), (1, .int v1), (2, .int v2)]) [0, 1, 2] rfl ?_
      exact s_X7_next_b199 r46 v0 v1 v2 n49 H
  · refine x_icmp_lt_f (q := 113) dX7_next_110 (t := 121) (by decide) rfl g13 ?_
    refine x_aload_n (q := 114) dX7_next_113 rfl rfl ?_
    refine x_iconst (q := 115) (v := (1 : Int32)) dX7_next_114 rfl (by decide) ?_
    replace H := kle H; obtain ⟨h50, q51, H⟩ := H
    refine x_putI (q := 118) dX7_next_115 rfl kl_RX7_19 (Or.inl rfl) rfl (k243 g1 (by decide) n10) ?_
    refine x_nmH q51 ?_
    have n52 : h50.1 = 243 := by rw [q51]; exact n10
    refine x_goto dX7_next_118 (q := 199) (by decide) ?_
    refine x_sub (ls2 := [(0, .ref v0), (1, .int v1), (2, .int v2)]) [0, 1, 2] rfl ?_
    exact s_X7_next_b199 h50 v0 v1 v2 n52 H
def f_X7_next_b31 (h : KH) (v0 : Nat) (w0 : Int32) : Option (KH) :=
  if kkind v0 = 7 then kl (kI h v0 2) fun x2 =>
  kb (kloop (f_X7_next_l37 v0 w0 x2) KF h) fun e4 =>
  f_X7_next_b81 e4 v0 w0 x2 else none
set_option maxHeartbeats 4000000 in
set_option maxRecDepth 100000 in
theorem s_X7_next_b31 {Z : Nat → (Nat → Nat) → State → Prop} (h : KH) (v0 : Nat) (w0 : Int32) {t : KH} (hn : h.1 = 243) (H : f_X7_next_b31 h v0 w0 = some t) : KX Z RX7 cX7_next 4 false 3 (KRv cX7_next t) 31 [(0, .ref v0)] [.int w0] h := by
  unfold f_X7_next_b31 at H
  refine x_istore_n (q := 32) (i := 1) (ls2 := [(1, .int w0), (0, .ref v0)]) dX7_next_31 rfl rfl (by decide) rfl ?_
  refine x_aload_n (q := 33) dX7_next_32 rfl rfl ?_
  replace H := kif H; obtain ⟨g1, H⟩ := H
  refine x_getI (q := 36) dX7_next_33 rfl kl_RX7_15 (Or.inl rfl) (k243 g1 (by decide) hn) ?_
  replace H := kle H; obtain ⟨x2, q3, H⟩ := H
  refine x_nmI q3 ?_
  refine x_istore_n (q := 37) (i := 2) (ls2 := [(2, .int x2), (1, .int w0), (0, .ref v0)]) dX7_next_36 rfl rfl (by decide) rfl ?_
  refine x_sub (ls2 := [(0, .ref v0), (1, .int w0), (2, .int x2)]) [2, 1, 0] rfl ?_
  replace H := kbe H; obtain ⟨e4, c5, H⟩ := H
  refine x_app (sl_X7_next_l37 v0 w0 x2 KF h e4 hn c5) fun pc2 ls2 st2 h2 hg m6 => ?_
  obtain ⟨rfl, rfl, rfl, rfl⟩ := hg
  refine x_sub (ls2 := [(0, .ref v0), (1, .int w0), (2, .int x2)]) [0, 1, 2] rfl ?_
  exact s_X7_next_b81 e4 v0 w0 x2 (m6.full hn) H
def f_X7_next_b26 (h : KH) (v0 : Nat) : Option (KH) :=
  f_X7_next_b31 h v0 (1 : Int32)
set_option maxHeartbeats 4000000 in
set_option maxRecDepth 100000 in
theorem s_X7_next_b26 {Z : Nat → (Nat → Nat) → State → Prop} (h : KH) (v0 : Nat) {t : KH} (hn : h.1 = 243) (H : f_X7_next_b26 h v0 = some t) : KX Z RX7 cX7_next 4 false 3 (KRv cX7_next t) 26 [(0, .ref v0)] [] h := by
  unfold f_X7_next_b26 at H
  refine x_iconst (q := 27) (v := (1 : Int32)) dX7_next_26 rfl (by decide) ?_
  refine x_goto dX7_next_27 (q := 31) (by decide) ?_
  refine x_sub (ls2 := [(0, .ref v0)]) [0] rfl ?_
  exact s_X7_next_b31 h v0 (1 : Int32) hn H
def f_X7_next (h : KH) (v0 : Nat) : Option (KH) :=
  if kkind v0 = 7 then if (kI h v0 3) = (6 : Int32) then
  some h
  else
  if (kI h v0 3) = (2 : Int32) then
  f_X7_next_b26 h v0
  else
  if (kI h v0 3) = (3 : Int32) then
  f_X7_next_b26 h v0
  else
  f_X7_next_b31 h v0 (0 : Int32) else none
set_option maxHeartbeats 4000000 in
set_option maxRecDepth 100000 in
theorem s0_X7_next {Z : Nat → (Nat → Nat) → State → Prop} (h : KH) (v0 : Nat) {t : KH} (hn : h.1 = 243) (H : f_X7_next h v0 = some t) : KX Z RX7 cX7_next 4 false 3 (KRv cX7_next t) 0 [(0, .ref v0)] [] h := by
  unfold f_X7_next at H
  refine x_aload_n (q := 1) dX7_next_0 rfl rfl ?_
  replace H := kif H; obtain ⟨g1, H⟩ := H
  refine x_getI (q := 4) dX7_next_1 rfl kl_RX7_19 (Or.inl rfl) (k243 g1 (by decide) hn) ?_
  refine x_bipush (q := 6) (v := (6 : Int32)) dX7_next_4 rfl (by decide) ?_
  replace H := kite H; rcases H with ⟨g2, H⟩ | ⟨g2, H⟩
  · refine x_icmp_ne_f (q := 9) dX7_next_6 (t := 10) (by decide) rfl g2 ?_
    cases H
    exact x_end ⟨dX7_next_9, rfl, rfl⟩
  · refine x_icmp_ne_t dX7_next_6 (q := 10) (by decide) g2 ?_
    refine x_aload_n (q := 11) dX7_next_10 rfl rfl ?_
    refine x_getI (q := 14) dX7_next_11 rfl kl_RX7_19 (Or.inl rfl) (k243 g1 (by decide) hn) ?_
    refine x_iconst (q := 15) (v := (2 : Int32)) dX7_next_14 rfl (by decide) ?_
    replace H := kite H; rcases H with ⟨g3, H⟩ | ⟨g3, H⟩
    · refine x_icmp_eq_t dX7_next_15 (q := 26) (by decide) g3 ?_
      refine x_sub (ls2 := [(0, .ref v0)]) [0] rfl ?_
      exact s_X7_next_b26 h v0 hn H
    · refine x_icmp_eq_f (q := 18) dX7_next_15 (t := 26) (by decide) rfl g3 ?_
      refine x_aload_n (q := 19) dX7_next_18 rfl rfl ?_
      refine x_getI (q := 22) dX7_next_19 rfl kl_RX7_19 (Or.inl rfl) (k243 g1 (by decide) hn) ?_
      refine x_iconst (q := 23) (v := (3 : Int32)) dX7_next_22 rfl (by decide) ?_
      replace H := kite H; rcases H with ⟨g4, H⟩ | ⟨g4, H⟩
      · refine x_icmp_ne_f (q := 26) dX7_next_23 (t := 30) (by decide) rfl g4 ?_
        refine x_sub (ls2 := [(0, .ref v0)]) [0] rfl ?_
        exact s_X7_next_b26 h v0 hn H
      · refine x_icmp_ne_t dX7_next_23 (q := 30) (by decide) g4 ?_
        refine x_iconst (q := 31) (v := (0 : Int32)) dX7_next_30 rfl (by decide) ?_
        refine x_sub (ls2 := [(0, .ref v0)]) [0] rfl ?_
        exact s_X7_next_b31 h v0 (0 : Int32) hn H
theorem s_X7_next {Z : Nat → (Nat → Nat) → State → Prop} (h : KH) (v0 : Nat) {t : KH} (hn : h.1 = 243) (H : f_X7_next h v0 = some t) : KM Z yX7_next cX7_next 4 none 3 [.ref v0] h none t :=
  kx_v (own := RX7) (ini := false) (by decide +kernel) (by decide +kernel) rfl (Nat.le_of_ble_eq_true rfl) (s0_X7_next h v0 hn H)
theorem dX7_wordHere_0 : decode cX7_wordHere 0 = .ok (.aload_n 0, 1) := by decide +kernel
theorem dX7_wordHere_1 : decode cX7_wordHere 1 = .ok (.getfield 19, 3) := by decide +kernel
theorem dX7_wordHere_4 : decode cX7_wordHere 4 = .ok (.iconst 2, 1) := by decide +kernel
theorem dX7_wordHere_5 : decode cX7_wordHere 5 = .ok (.if_icmp .ne 35, 3) := by decide +kernel
theorem dX7_wordHere_8 : decode cX7_wordHere 8 = .ok (.iconst 0, 1) := by decide +kernel
theorem dX7_wordHere_9 : decode cX7_wordHere 9 = .ok (.istore_n 1, 1) := by decide +kernel
theorem dX7_wordHere_10 : decode cX7_wordHere 10 = .ok (.iload_n 1, 1) := by decide +kernel
theorem dX7_wordHere_11 : decode cX7_wordHere 11 = .ok (.aload_n 0, 1) := by decide +kernel
theorem dX7_wordHere_12 : decode cX7_wordHere 12 = .ok (.getfield 9, 3) := by decide +kernel
theorem dX7_wordHere_15 : decode cX7_wordHere 15 = .ok (.arraylength, 1) := by decide +kernel
theorem dX7_wordHere_16 : decode cX7_wordHere 16 = .ok (.if_icmp .ge 24, 3) := by decide +kernel
theorem dX7_wordHere_19 : decode cX7_wordHere 19 = .ok (.aload_n 0, 1) := by decide +kernel
theorem dX7_wordHere_20 : decode cX7_wordHere 20 = .ok (.getfield 9, 3) := by decide +kernel
theorem dX7_wordHere_23 : decode cX7_wordHere 23 = .ok (.iload_n 1, 1) := by decide +kernel
theorem dX7_wordHere_24 : decode cX7_wordHere 24 = .ok (.iaload, 1) := by decide +kernel
theorem dX7_wordHere_25 : decode cX7_wordHere 25 = .ok (.aload_n 0, 1) := by decide +kernel
theorem dX7_wordHere_26 : decode cX7_wordHere 26 = .ok (.getfield 28, 3) := by decide +kernel
theorem dX7_wordHere_29 : decode cX7_wordHere 29 = .ok (.if_icmp .ne 5, 3) := by decide +kernel
theorem dX7_wordHere_32 : decode cX7_wordHere 32 = .ok (.iload_n 1, 1) := by decide +kernel
theorem dX7_wordHere_33 : decode cX7_wordHere 33 = .ok (.ireturn, 1) := by decide +kernel
theorem dX7_wordHere_34 : decode cX7_wordHere 34 = .ok (.iinc 1 1, 3) := by decide +kernel
theorem dX7_wordHere_37 : decode cX7_wordHere 37 = .ok (.goto (-27), 3) := by decide +kernel
theorem dX7_wordHere_40 : decode cX7_wordHere 40 = .ok (.iconst (-1), 1) := by decide +kernel
theorem dX7_wordHere_41 : decode cX7_wordHere 41 = .ok (.ireturn, 1) := by decide +kernel
theorem kl_RX7_9 : KLk RX7 9 7 1 := ⟨RX7, TX7, 9, rfl, by decide, Or.inl (kwm 277 (by decide +kernel) (by decide +kernel))⟩
def E_X7_wordHere_l10 (h : KH) (v0 : Nat) : ((Unit) ⊕ (Int32)) → Nat → List (Nat × Value) → List Value → KH → Prop := Sum.elim (fun (e : Unit) pc ls st hh => pc = 40 ∧ ls = [] ∧ st = [] ∧ h = hh) (fun o => (KRi cX7_wordHere o h))
def B_X7_wordHere_l10 (h : KH) (v0 : Nat) : ((Int32) ⊕ ((Unit) ⊕ (Int32))) → Nat → List (Nat × Value) → List Value → KH → Prop := Sum.elim (fun (s : Int32) pc ls st hh => pc = 10 ∧ ls = [(0, .ref v0), (1, .int s)] ∧ st = [] ∧ hh = h) (E_X7_wordHere_l10 h v0)
def f_X7_wordHere_l10 (h : KH) (v0 : Nat) (s : Int32) : Option ((Int32) ⊕ ((Unit) ⊕ (Int32))) :=
  if kkind v0 = 7 then if (kR h v0 1) < 999999 then if kkind (kR h v0 1) = 20 then if (Int32.ofNat (klen (kR h v0 1))) ≤ s then
  some (.inr (.inl ()))
  else
  if (s < 0 ∨ klen (kR h v0 1) ≤ (s).toNatClampNeg) then none else if (kI h (kR h v0 1) ((s).toNatClampNeg)) = (kI h v0 6) then
  kout2 (some s)
  else
  kl (s + (1 : Int32)) fun x7 =>
  some (.inl x7) else none else none else none
set_option maxHeartbeats 4000000 in
set_option maxRecDepth 100000 in
theorem s_X7_wordHere_l10 {Z : Nat → (Nat → Nat) → State → Prop} (h : KH) (v0 : Nat) (s : Int32) (t : (Int32) ⊕ ((Unit) ⊕ (Int32))) (hn : (h).1 = 243) (H : f_X7_wordHere_l10 h v0 s = some t) : KX Z RX7 cX7_wordHere 2 false 1 (B_X7_wordHere_l10 h v0 t) 10 [(0, .ref v0), (1, .int s)] [] h := by
  unfold f_X7_wordHere_l10 at H
  refine x_iload_n (q := 11) dX7_wordHere_10 rfl rfl ?_
  refine x_aload_n (q := 12) dX7_wordHere_11 rfl rfl ?_
  replace H := kif H; obtain ⟨g1, H⟩ := H
  replace H := kif H; obtain ⟨g2, H⟩ := H
  refine x_getR (q := 15) dX7_wordHere_12 rfl kl_RX7_9 rfl (k243 g1 (by decide) hn) g2 ?_
  replace H := kif H; obtain ⟨g3, H⟩ := H
  refine x_alen (q := 16) dX7_wordHere_15 rfl (by decide) (k243 g3 (by decide) hn) ?_
  replace H := kite H; rcases H with ⟨g4, H⟩ | ⟨g4, H⟩
  · refine x_icmp_ge_t dX7_wordHere_16 (q := 40) (by decide) g4 ?_
    cases H
    refine x_sub (ls2 := []) [] rfl ?_
    exact x_end (x_cfg rfl)
  · refine x_icmp_ge_f (q := 19) dX7_wordHere_16 (t := 40) (by decide) rfl g4 ?_
    refine x_aload_n (q := 20) dX7_wordHere_19 rfl rfl ?_
    refine x_getR (q := 23) dX7_wordHere_20 rfl kl_RX7_9 rfl (k243 g1 (by decide) hn) g2 ?_
    refine x_iload_n (q := 24) dX7_wordHere_23 rfl rfl ?_
    replace H := kifn H; obtain ⟨g5, H⟩ := H
    refine x_iald (q := 25) dX7_wordHere_24 rfl (k243 g3 (by decide) hn) g5 ?_
    refine x_aload_n (q := 26) dX7_wordHere_25 rfl rfl ?_
    refine x_getI (q := 29) dX7_wordHere_26 rfl kl_RX7_28 (Or.inl rfl) (k243 g1 (by decide) hn) ?_
    replace H := kite H; rcases H with ⟨g6, H⟩ | ⟨g6, H⟩
    · refine x_icmp_ne_f (q := 32) dX7_wordHere_29 (t := 34) (by decide) rfl g6 ?_
      replace H := ko2e H; obtain ⟨o9, H, rfl⟩ := H
      refine x_iload_n (q := 33) dX7_wordHere_32 rfl rfl ?_
      cases H
      exact x_end ⟨dX7_wordHere_33, rfl, rfl⟩
    · refine x_icmp_ne_t dX7_wordHere_29 (q := 34) (by decide) g6 ?_
      replace H := kle H; obtain ⟨x7, q8, H⟩ := H
      refine x_iinc (q := 37) (i := 1) (ls2 := [(1, .int x7), (0, .ref v0)]) dX7_wordHere_34 rfl rfl (by decide) (by rw [q8]; rfl) ?_
      refine x_goto dX7_wordHere_37 (q := 10) (by decide) ?_
      cases H
      refine x_sub (ls2 := [(0, .ref v0), (1, .int x7)]) [1, 0] rfl ?_
      exact x_end (x_cfg rfl)
theorem sl_X7_wordHere_l10 {Z : Nat → (Nat → Nat) → State → Prop} (h : KH) (v0 : Nat) (n : Nat) (s : Int32) (r : (Unit) ⊕ (Int32)) (hn : (h).1 = 243) (H : kloop (f_X7_wordHere_l10 h v0) n s = some r) : KX Z RX7 cX7_wordHere 2 false 1 (E_X7_wordHere_l10 h v0 r) 10 [(0, .ref v0), (1, .int s)] [] h :=
  k_loop (ls := (fun (s : Int32) => ([(0, .ref v0), (1, .int s)] : List (Nat × Value)))) (hp := (fun (s : Int32) => (h : KH))) (G := E_X7_wordHere_l10 h v0) (fun s t hn H => s_X7_wordHere_l10 h v0 s t hn H) n s r hn H
def f_X7_wordHere (h : KH) (v0 : Nat) : Option (Int32) :=
  if kkind v0 = 7 then if (kI h v0 3) = (2 : Int32) then
  kb (kloop (f_X7_wordHere_l10 h v0) KF (0 : Int32)) fun e3 =>
  ksum e3 (fun x6 =>
  some (-1 : Int32)) (fun o7 => some o7)
  else
  some (-1 : Int32) else none
set_option maxHeartbeats 4000000 in
set_option maxRecDepth 100000 in
theorem s0_X7_wordHere {Z : Nat → (Nat → Nat) → State → Prop} (h : KH) (v0 : Nat) {t : Int32} (hn : h.1 = 243) (H : f_X7_wordHere h v0 = some t) : KX Z RX7 cX7_wordHere 2 false 1 (KRi cX7_wordHere t h) 0 [(0, .ref v0)] [] h := by
  unfold f_X7_wordHere at H
  refine x_aload_n (q := 1) dX7_wordHere_0 rfl rfl ?_
  replace H := kif H; obtain ⟨g1, H⟩ := H
  refine x_getI (q := 4) dX7_wordHere_1 rfl kl_RX7_19 (Or.inl rfl) (k243 g1 (by decide) hn) ?_
  refine x_iconst (q := 5) (v := (2 : Int32)) dX7_wordHere_4 rfl (by decide) ?_
  replace H := kite H; rcases H with ⟨g2, H⟩ | ⟨g2, H⟩
  · refine x_icmp_ne_f (q := 8) dX7_wordHere_5 (t := 40) (by decide) rfl g2 ?_
    refine x_iconst (q := 9) (v := (0 : Int32)) dX7_wordHere_8 rfl (by decide) ?_
    refine x_istore_n (q := 10) (i := 1) (ls2 := [(1, .int (0 : Int32)), (0, .ref v0)]) dX7_wordHere_9 rfl rfl (by decide) rfl ?_
    refine x_sub (ls2 := [(0, .ref v0), (1, .int (0 : Int32))]) [1, 0] rfl ?_
    replace H := kbe H; obtain ⟨e3, c4, H⟩ := H
    refine x_app (sl_X7_wordHere_l10 h v0 KF (0 : Int32) e3 hn c4) fun pc2 ls2 st2 h2 hg m5 => ?_
    replace H := kse H; rcases H with ⟨x6, rfl, H⟩ | ⟨o7, rfl, H⟩
    · obtain ⟨rfl, rfl, rfl, rfl⟩ := hg
      refine x_iconst (q := 41) (v := (-1 : Int32)) dX7_wordHere_40 rfl (by decide) ?_
      cases H
      exact x_end ⟨dX7_wordHere_41, rfl, rfl⟩
    · cases H
      exact x_end hg
  · refine x_icmp_ne_t dX7_wordHere_5 (q := 40) (by decide) g2 ?_
    refine x_iconst (q := 41) (v := (-1 : Int32)) dX7_wordHere_40 rfl (by decide) ?_
    cases H
    exact x_end ⟨dX7_wordHere_41, rfl, rfl⟩
theorem s_X7_wordHere {Z : Nat → (Nat → Nat) → State → Prop} (h : KH) (v0 : Nat) {t : Int32} (hn : h.1 = 243) (H : f_X7_wordHere h v0 = some t) : KM Z yX7_wordHere cX7_wordHere 2 (some .int) 1 [.ref v0] h (some (.int t)) h :=
  kx_i (own := RX7) (ini := false) (by decide +kernel) (by decide +kernel) rfl (Nat.le_of_ble_eq_true rfl) (s0_X7_wordHere h v0 hn H)
theorem dX7_nameHere_0 : decode cX7_nameHere 0 = .ok (.aload_n 0, 1) := by decide +kernel
theorem dX7_nameHere_1 : decode cX7_nameHere 1 = .ok (.invokevirtual 103, 3) := by decide +kernel
theorem dX7_nameHere_4 : decode cX7_nameHere 4 = .ok (.istore_n 1, 1) := by decide +kernel
theorem dX7_nameHere_5 : decode cX7_nameHere 5 = .ok (.aload_n 0, 1) := by decide +kernel
theorem dX7_nameHere_6 : decode cX7_nameHere 6 = .ok (.getfield 19, 3) := by decide +kernel
theorem dX7_nameHere_9 : decode cX7_nameHere 9 = .ok (.iconst 2, 1) := by decide +kernel
theorem dX7_nameHere_10 : decode cX7_nameHere 10 = .ok (.if_icmp .ne 13, 3) := by decide +kernel
theorem dX7_nameHere_13 : decode cX7_nameHere 13 = .ok (.iload_n 1, 1) := by decide +kernel
theorem dX7_nameHere_14 : decode cX7_nameHere 14 = .ok (.ifCond .lt 21, 3) := by decide +kernel
theorem dX7_nameHere_17 : decode cX7_nameHere 17 = .ok (.iload_n 1, 1) := by decide +kernel
theorem dX7_nameHere_18 : decode cX7_nameHere 18 = .ok (.bipush 22, 2) := by decide +kernel
theorem dX7_nameHere_20 : decode cX7_nameHere 20 = .ok (.if_icmp .ge 15, 3) := by decide +kernel
theorem dX7_nameHere_23 : decode cX7_nameHere 23 = .ok (.aload_n 0, 1) := by decide +kernel
theorem dX7_nameHere_24 : decode cX7_nameHere 24 = .ok (.iconst 1, 1) := by decide +kernel
theorem dX7_nameHere_25 : decode cX7_nameHere 25 = .ok (.aload_n 0, 1) := by decide +kernel
theorem dX7_nameHere_26 : decode cX7_nameHere 26 = .ok (.getfield 22, 3) := by decide +kernel
theorem dX7_nameHere_29 : decode cX7_nameHere 29 = .ok (.invokevirtual 96, 3) := by decide +kernel
theorem dX7_nameHere_32 : decode cX7_nameHere 32 = .ok (.goto 24, 3) := by decide +kernel
theorem dX7_nameHere_35 : decode cX7_nameHere 35 = .ok (.aload_n 0, 1) := by decide +kernel
theorem dX7_nameHere_36 : decode cX7_nameHere 36 = .ok (.getfield 25, 3) := by decide +kernel
theorem dX7_nameHere_39 : decode cX7_nameHere 39 = .ok (.bipush 6, 2) := by decide +kernel
theorem dX7_nameHere_41 : decode cX7_nameHere 41 = .ok (.if_icmp .le 15, 3) := by decide +kernel
theorem dX7_nameHere_44 : decode cX7_nameHere 44 = .ok (.aload_n 0, 1) := by decide +kernel
theorem dX7_nameHere_45 : decode cX7_nameHere 45 = .ok (.iconst 1, 1) := by decide +kernel
theorem dX7_nameHere_46 : decode cX7_nameHere 46 = .ok (.aload_n 0, 1) := by decide +kernel
theorem dX7_nameHere_47 : decode cX7_nameHere 47 = .ok (.getfield 22, 3) := by decide +kernel
theorem dX7_nameHere_50 : decode cX7_nameHere 50 = .ok (.bipush 6, 2) := by decide +kernel
theorem dX7_nameHere_52 : decode cX7_nameHere 52 = .ok (.iadd, 1) := by decide +kernel
theorem dX7_nameHere_53 : decode cX7_nameHere 53 = .ok (.invokevirtual 96, 3) := by decide +kernel
theorem dX7_nameHere_56 : decode cX7_nameHere 56 = .ok (.aload_n 0, 1) := by decide +kernel
theorem dX7_nameHere_57 : decode cX7_nameHere 57 = .ok (.getfield 28, 3) := by decide +kernel
theorem dX7_nameHere_60 : decode cX7_nameHere 60 = .ok (.ireturn, 1) := by decide +kernel
theorem kc_RX7_103 : Cond.methodLink RX7 103 yX7_wordHere ∈ ktG ∧ (Cond.instanceMethod yX7_wordHere ∈ ktG ∧ Cond.selects yX7_wordHere.cls yX7_wordHere yX7_wordHere ∈ ktG) ∧ Cond.initialized yX7_wordHere.cls ∈ ktG ∧ Cond.code yX7_wordHere cX7_wordHere 2 (some .int) ∈ ktG := ⟨(kwm 668 (by decide +kernel) (by decide +kernel)), ⟨(kwm 648 (by decide +kernel) (by decide +kernel)), (kwm 649 (by decide +kernel) (by decide +kernel))⟩, (kwm 127 (by decide +kernel) (by decide +kernel)), kwm 650 (by decide +kernel) (by decide +kernel)⟩
theorem kh_X7_wordHere : yX7_wordHere.cls ≠ "java/lang/invoke/MethodHandle" ∧ yX7_wordHere.cls ≠ "java/lang/invoke/VarHandle" ∧ (parseMethodDescriptor yX7_wordHere.desc).map (fun d => d.parameters.length) = some 0 := by decide +kernel
theorem kc_RX7_96 : Cond.methodLink RX7 96 yX7_stop ∈ ktG ∧ (Cond.instanceMethod yX7_stop ∈ ktG ∧ Cond.selects yX7_stop.cls yX7_stop yX7_stop ∈ ktG) ∧ Cond.initialized yX7_stop.cls ∈ ktG ∧ Cond.code yX7_stop cX7_stop 3 none ∈ ktG := ⟨(kwm 669 (by decide +kernel) (by decide +kernel)), ⟨(kwm 656 (by decide +kernel) (by decide +kernel)), (kwm 657 (by decide +kernel) (by decide +kernel))⟩, (kwm 127 (by decide +kernel) (by decide +kernel)), kwm 658 (by decide +kernel) (by decide +kernel)⟩
theorem kh_X7_stop : yX7_stop.cls ≠ "java/lang/invoke/MethodHandle" ∧ yX7_stop.cls ≠ "java/lang/invoke/VarHandle" ∧ (parseMethodDescriptor yX7_stop.desc).map (fun d => d.parameters.length) = some 2 := by decide +kernel
def f_X7_nameHere_b56 (h : KH) (v0 : Nat) : Option (Int32 × KH) :=
  if kkind v0 = 7 then some ((kI h v0 6), h) else none
set_option maxHeartbeats 4000000 in
set_option maxRecDepth 100000 in
theorem s_X7_nameHere_b56 {Z : Nat → (Nat → Nat) → State → Prop} (h : KH) (v0 : Nat) {t : Int32 × KH} (hn : h.1 = 243) (H : f_X7_nameHere_b56 h v0 = some t) : KX Z RX7 cX7_nameHere 2 false 2 (KRi cX7_nameHere t.1 t.2) 56 [(0, .ref v0)] [] h := by
  unfold f_X7_nameHere_b56 at H
  refine x_aload_n (q := 57) dX7_nameHere_56 rfl rfl ?_
  replace H := kif H; obtain ⟨g1, H⟩ := H
  refine x_getI (q := 60) dX7_nameHere_57 rfl kl_RX7_28 (Or.inl rfl) (k243 g1 (by decide) hn) ?_
  cases H
  exact x_end ⟨dX7_nameHere_60, rfl, rfl⟩
def f_X7_nameHere_b23 (h : KH) (v0 : Nat) : Option (Int32 × KH) :=
  if kkind v0 = 7 then kb (f_X7_stop h v0 (1 : Int32) (kI h v0 4)) fun r2 =>
  f_X7_nameHere_b56 r2 v0 else none
set_option maxHeartbeats 4000000 in
set_option maxRecDepth 100000 in
theorem s_X7_nameHere_b23 {Z : Nat → (Nat → Nat) → State → Prop} (h : KH) (v0 : Nat) {t : Int32 × KH} (hn : h.1 = 243) (H : f_X7_nameHere_b23 h v0 = some t) : KX Z RX7 cX7_nameHere 2 false 2 (KRi cX7_nameHere t.1 t.2) 23 [(0, .ref v0)] [] h := by
  unfold f_X7_nameHere_b23 at H
  refine x_aload_n (q := 24) dX7_nameHere_23 rfl rfl ?_
  refine x_iconst (q := 25) (v := (1 : Int32)) dX7_nameHere_24 rfl (by decide) ?_
  refine x_aload_n (q := 26) dX7_nameHere_25 rfl rfl ?_
  replace H := kif H; obtain ⟨g1, H⟩ := H
  refine x_getI (q := 29) dX7_nameHere_26 rfl kl_RX7_22 (Or.inl rfl) (k243 g1 (by decide) hn) ?_
  replace H := kbe H; obtain ⟨r2, c3, H⟩ := H
  have m4 := s_X7_stop (Z := Z) h v0 (1 : Int32) (kI h v0 4) hn c3
  refine x_callV (q := 32) (as := [.int (1 : Int32), .int (kI h v0 4)]) (rest := []) dX7_nameHere_29 rfl kc_RX7_96 kh_X7_stop (by decide) (Nat.le_of_ble_eq_true rfl) m4 (ci := 7) (by exact ⟨rfl, by decide⟩) (k243 g1 (by decide) hn) ?_
  have n5 : (r2).1 = 243 := m4.1.full hn
  refine x_goto dX7_nameHere_32 (q := 56) (by decide) ?_
  refine x_sub (ls2 := [(0, .ref v0)]) [0] rfl ?_
  exact s_X7_nameHere_b56 r2 v0 n5 H
def f_X7_nameHere_b35 (h : KH) (v0 : Nat) : Option (Int32 × KH) :=
  if kkind v0 = 7 then if (kI h v0 5) ≤ (6 : Int32) then
  f_X7_nameHere_b56 h v0
  else
  kb (f_X7_stop h v0 (1 : Int32) ((kI h v0 4) + (6 : Int32))) fun r3 =>
  f_X7_nameHere_b56 r3 v0 else none
set_option maxHeartbeats 4000000 in
set_option maxRecDepth 100000 in
theorem s_X7_nameHere_b35 {Z : Nat → (Nat → Nat) → State → Prop} (h : KH) (v0 : Nat) {t : Int32 × KH} (hn : h.1 = 243) (H : f_X7_nameHere_b35 h v0 = some t) : KX Z RX7 cX7_nameHere 2 false 2 (KRi cX7_nameHere t.1 t.2) 35 [(0, .ref v0)] [] h := by
  unfold f_X7_nameHere_b35 at H
  refine x_aload_n (q := 36) dX7_nameHere_35 rfl rfl ?_
  replace H := kif H; obtain ⟨g1, H⟩ := H
  refine x_getI (q := 39) dX7_nameHere_36 rfl kl_RX7_25 (Or.inl rfl) (k243 g1 (by decide) hn) ?_
  refine x_bipush (q := 41) (v := (6 : Int32)) dX7_nameHere_39 rfl (by decide) ?_
  replace H := kite H; rcases H with ⟨g2, H⟩ | ⟨g2, H⟩
  · refine x_icmp_le_t dX7_nameHere_41 (q := 56) (by decide) g2 ?_
    refine x_sub (ls2 := [(0, .ref v0)]) [0] rfl ?_
    exact s_X7_nameHere_b56 h v0 hn H
  · refine x_icmp_le_f (q := 44) dX7_nameHere_41 (t := 56) (by decide) rfl g2 ?_
    refine x_aload_n (q := 45) dX7_nameHere_44 rfl rfl ?_
    refine x_iconst (q := 46) (v := (1 : Int32)) dX7_nameHere_45 rfl (by decide) ?_
    refine x_aload_n (q := 47) dX7_nameHere_46 rfl rfl ?_
    refine x_getI (q := 50) dX7_nameHere_47 rfl kl_RX7_22 (Or.inl rfl) (k243 g1 (by decide) hn) ?_
    refine x_bipush (q := 52) (v := (6 : Int32)) dX7_nameHere_50 rfl (by decide) ?_
    refine x_iadd (q := 53) dX7_nameHere_52 rfl ?_
    replace H := kbe H; obtain ⟨r3, c4, H⟩ := H
    have m5 := s_X7_stop (Z := Z) h v0 (1 : Int32) ((kI h v0 4) + (6 : Int32)) hn c4
    refine x_callV (q := 56) (as := [.int (1 : Int32), .int ((kI h v0 4) + (6 : Int32))]) (rest := []) dX7_nameHere_53 rfl kc_RX7_96 kh_X7_stop (by decide) (Nat.le_of_ble_eq_true rfl) m5 (ci := 7) (by exact ⟨rfl, by decide⟩) (k243 g1 (by decide) hn) ?_
    have n6 : (r3).1 = 243 := m5.1.full hn
    refine x_sub (ls2 := [(0, .ref v0)]) [0] rfl ?_
    exact s_X7_nameHere_b56 r3 v0 n6 H
def f_X7_nameHere (h : KH) (v0 : Nat) : Option (Int32 × KH) :=
  if kkind v0 = 7 then kb (f_X7_wordHere h v0) fun r2 =>
  if (kI h v0 3) = (2 : Int32) then
  if r2 < 0 then
  f_X7_nameHere_b35 h v0
  else
  if (22 : Int32) ≤ r2 then
  f_X7_nameHere_b35 h v0
  else
  f_X7_nameHere_b23 h v0
  else
  f_X7_nameHere_b23 h v0 else none
set_option maxHeartbeats 4000000 in
set_option maxRecDepth 100000 in
theorem s0_X7_nameHere {Z : Nat → (Nat → Nat) → State → Prop} (h : KH) (v0 : Nat) {t : Int32 × KH} (hn : h.1 = 243) (H : f_X7_nameHere h v0 = some t) : KX Z RX7 cX7_nameHere 2 false 2 (KRi cX7_nameHere t.1 t.2) 0 [(0, .ref v0)] [] h := by
  unfold f_X7_nameHere at H
  refine x_aload_n (q := 1) dX7_nameHere_0 rfl rfl ?_
  replace H := kif H; obtain ⟨g1, H⟩ := H
  replace H := kbe H; obtain ⟨r2, c3, H⟩ := H
  have m4 := s_X7_wordHere (Z := Z) h v0 hn c3
  refine x_callV (q := 4) (as := []) (rest := []) dX7_nameHere_1 rfl kc_RX7_103 kh_X7_wordHere (by decide) (Nat.le_of_ble_eq_true rfl) m4 (ci := 7) (by exact ⟨rfl, by decide⟩) (k243 g1 (by decide) hn) ?_
  refine x_istore_n (q := 5) (i := 1) (ls2 := [(1, .int r2), (0, .ref v0)]) dX7_nameHere_4 rfl rfl (by decide) rfl ?_
  refine x_aload_n (q := 6) dX7_nameHere_5 rfl rfl ?_
  refine x_getI (q := 9) dX7_nameHere_6 rfl kl_RX7_19 (Or.inl rfl) (k243 g1 (by decide) hn) ?_
  refine x_iconst (q := 10) (v := (2 : Int32)) dX7_nameHere_9 rfl (by decide) ?_
  replace H := kite H; rcases H with ⟨g5, H⟩ | ⟨g5, H⟩
  · refine x_icmp_ne_f (q := 13) dX7_nameHere_10 (t := 23) (by decide) rfl g5 ?_
    refine x_iload_n (q := 14) dX7_nameHere_13 rfl rfl ?_
    replace H := kite H; rcases H with ⟨g6, H⟩ | ⟨g6, H⟩
    · refine x_if_lt_t dX7_nameHere_14 (q := 35) (by decide) g6 ?_
      refine x_sub (ls2 := [(0, .ref v0)]) [1] rfl ?_
      exact s_X7_nameHere_b35 h v0 hn H
    · refine x_if_lt_f (q := 17) dX7_nameHere_14 (t := 35) (by decide) rfl g6 ?_
      refine x_iload_n (q := 18) dX7_nameHere_17 rfl rfl ?_
      refine x_bipush (q := 20) (v := (22 : Int32)) dX7_nameHere_18 rfl (by decide) ?_
      replace H := kite H; rcases H with ⟨g7, H⟩ | ⟨g7, H⟩
      · refine x_icmp_ge_t dX7_nameHere_20 (q := 35) (by decide) g7 ?_
        refine x_sub (ls2 := [(0, .ref v0)]) [1] rfl ?_
        exact s_X7_nameHere_b35 h v0 hn H
      · refine x_icmp_ge_f (q := 23) dX7_nameHere_20 (t := 35) (by decide) rfl g7 ?_
        refine x_sub (ls2 := [(0, .ref v0)]) [1] rfl ?_
        exact s_X7_nameHere_b23 h v0 hn H
  · refine x_icmp_ne_t dX7_nameHere_10 (q := 23) (by decide) g5 ?_
    refine x_sub (ls2 := [(0, .ref v0)]) [1] rfl ?_
    exact s_X7_nameHere_b23 h v0 hn H
theorem s_X7_nameHere {Z : Nat → (Nat → Nat) → State → Prop} (h : KH) (v0 : Nat) {t : Int32 × KH} (hn : h.1 = 243) (H : f_X7_nameHere h v0 = some t) : KM Z yX7_nameHere cX7_nameHere 2 (some .int) 2 [.ref v0] h (some (.int t.1)) t.2 :=
  kx_i (own := RX7) (ini := false) (by decide +kernel) (by decide +kernel) rfl (Nat.le_of_ble_eq_true rfl) (s0_X7_nameHere h v0 hn H)
theorem dX3_takeNewName_0 : decode cX3_takeNewName 0 = .ok (.aload_n 0, 1) := by decide +kernel
theorem dX3_takeNewName_1 : decode cX3_takeNewName 1 = .ok (.getfield 9, 3) := by decide +kernel
theorem dX3_takeNewName_4 : decode cX3_takeNewName 4 = .ok (.invokevirtual 112, 3) := by decide +kernel
theorem dX3_takeNewName_7 : decode cX3_takeNewName 7 = .ok (.istore_n 2, 1) := by decide +kernel
theorem dX3_takeNewName_8 : decode cX3_takeNewName 8 = .ok (.aload_n 1, 1) := by decide +kernel
theorem dX3_takeNewName_9 : decode cX3_takeNewName 9 = .ok (.iload_n 2, 1) := by decide +kernel
theorem dX3_takeNewName_10 : decode cX3_takeNewName 10 = .ok (.invokevirtual 115, 3) := by decide +kernel
theorem dX3_takeNewName_13 : decode cX3_takeNewName 13 = .ok (.ifCond .eq 18, 3) := by decide +kernel
theorem dX3_takeNewName_16 : decode cX3_takeNewName 16 = .ok (.aload_n 0, 1) := by decide +kernel
theorem dX3_takeNewName_17 : decode cX3_takeNewName 17 = .ok (.getfield 9, 3) := by decide +kernel
theorem dX3_takeNewName_20 : decode cX3_takeNewName 20 = .ok (.iconst 3, 1) := by decide +kernel
theorem dX3_takeNewName_21 : decode cX3_takeNewName 21 = .ok (.aload_n 0, 1) := by decide +kernel
theorem dX3_takeNewName_22 : decode cX3_takeNewName 22 = .ok (.getfield 9, 3) := by decide +kernel
theorem dX3_takeNewName_25 : decode cX3_takeNewName 25 = .ok (.getfield 51, 3) := by decide +kernel
theorem dX3_takeNewName_28 : decode cX3_takeNewName 28 = .ok (.invokevirtual 55, 3) := by decide +kernel
theorem dX3_takeNewName_31 : decode cX3_takeNewName 31 = .ok (.aload_n 0, 1) := by decide +kernel
theorem dX3_takeNewName_32 : decode cX3_takeNewName 32 = .ok (.getfield 9, 3) := by decide +kernel
theorem dX3_takeNewName_35 : decode cX3_takeNewName 35 = .ok (.invokevirtual 59, 3) := by decide +kernel
theorem dX3_takeNewName_38 : decode cX3_takeNewName 38 = .ok (.iload_n 2, 1) := by decide +kernel
theorem dX3_takeNewName_39 : decode cX3_takeNewName 39 = .ok (.ireturn, 1) := by decide +kernel
theorem kl_RX3_9 : KLk RX3 9 3 0 := ⟨RX3, TX3, 2, rfl, by decide, Or.inl (kwm 332 (by decide +kernel) (by decide +kernel))⟩
theorem kc_RX3_112 : Cond.methodLink RX3 112 yX7_nameHere ∈ ktG ∧ (Cond.instanceMethod yX7_nameHere ∈ ktG ∧ Cond.selects yX7_nameHere.cls yX7_nameHere yX7_nameHere ∈ ktG) ∧ Cond.initialized yX7_nameHere.cls ∈ ktG ∧ Cond.code yX7_nameHere cX7_nameHere 2 (some .int) ∈ ktG := ⟨(kwm 664 (by decide +kernel) (by decide +kernel)), ⟨(kwm 665 (by decide +kernel) (by decide +kernel)), (kwm 666 (by decide +kernel) (by decide +kernel))⟩, (kwm 127 (by decide +kernel) (by decide +kernel)), kwm 667 (by decide +kernel) (by decide +kernel)⟩
theorem kh_X7_nameHere : yX7_nameHere.cls ≠ "java/lang/invoke/MethodHandle" ∧ yX7_nameHere.cls ≠ "java/lang/invoke/VarHandle" ∧ (parseMethodDescriptor yX7_nameHere.desc).map (fun d => d.parameters.length) = some 0 := by decide +kernel
theorem kc_RX3_115 : Cond.methodLink RX3 115 yX2_hasName ∈ ktG ∧ (Cond.instanceMethod yX2_hasName ∈ ktG ∧ Cond.selects yX2_hasName.cls yX2_hasName yX2_hasName ∈ ktG) ∧ Cond.initialized yX2_hasName.cls ∈ ktG ∧ Cond.code yX2_hasName cX2_hasName 4 (some .boolean) ∈ ktG := ⟨(kwm 670 (by decide +kernel) (by decide +kernel)), ⟨(kwm 671 (by decide +kernel) (by decide +kernel)), (kwm 672 (by decide +kernel) (by decide +kernel))⟩, (kwm 134 (by decide +kernel) (by decide +kernel)), kwm 673 (by decide +kernel) (by decide +kernel)⟩
theorem kh_X2_hasName : yX2_hasName.cls ≠ "java/lang/invoke/MethodHandle" ∧ yX2_hasName.cls ≠ "java/lang/invoke/VarHandle" ∧ (parseMethodDescriptor yX2_hasName.desc).map (fun d => d.parameters.length) = some 1 := by decide +kernel
theorem kc_RX3_59 : Cond.methodLink RX3 59 yX7_next ∈ ktG ∧ (Cond.instanceMethod yX7_next ∈ ktG ∧ Cond.selects yX7_next.cls yX7_next yX7_next ∈ ktG) ∧ Cond.initialized yX7_next.cls ∈ ktG ∧ Cond.code yX7_next cX7_next 4 none ∈ ktG := ⟨(kwm 659 (by decide +kernel) (by decide +kernel)), ⟨(kwm 619 (by decide +kernel) (by decide +kernel)), (kwm 620 (by decide +kernel) (by decide +kernel))⟩, (kwm 127 (by decide +kernel) (by decide +kernel)), kwm 621 (by decide +kernel) (by decide +kernel)⟩
theorem kh_X7_next : yX7_next.cls ≠ "java/lang/invoke/MethodHandle" ∧ yX7_next.cls ≠ "java/lang/invoke/VarHandle" ∧ (parseMethodDescriptor yX7_next.desc).map (fun d => d.parameters.length) = some 0 := by decide +kernel
theorem kl_RX3_51 : KLk RX3 51 7 4 := ⟨RX7, TX7, 9, rfl, by decide, Or.inr (by decide +kernel)⟩
theorem kc_RX3_55 : Cond.methodLink RX3 55 yX7_stop ∈ ktG ∧ (Cond.instanceMethod yX7_stop ∈ ktG ∧ Cond.selects yX7_stop.cls yX7_stop yX7_stop ∈ ktG) ∧ Cond.initialized yX7_stop.cls ∈ ktG ∧ Cond.code yX7_stop cX7_stop 3 none ∈ ktG := ⟨(kwm 655 (by decide +kernel) (by decide +kernel)), ⟨(kwm 656 (by decide +kernel) (by decide +kernel)), (kwm 657 (by decide +kernel) (by decide +kernel))⟩, (kwm 127 (by decide +kernel) (by decide +kernel)), kwm 658 (by decide +kernel) (by decide +kernel)⟩
def f_X3_takeNewName_b31 (h : KH) (v0 : Nat) (v2 : Int32) : Option (Int32 × KH) :=
  if kkind v0 = 3 then if (kR h v0 0) < 999999 then if kkind (kR h v0 0) = 7 then kb (f_X7_next h (kR h v0 0)) fun r4 =>
  some (v2, r4) else none else none else none
set_option maxHeartbeats 4000000 in
set_option maxRecDepth 100000 in
theorem s_X3_takeNewName_b31 {Z : Nat → (Nat → Nat) → State → Prop} (h : KH) (v0 : Nat) (v2 : Int32) {t : Int32 × KH} (hn : h.1 = 243) (H : f_X3_takeNewName_b31 h v0 v2 = some t) : KX Z RX3 cX3_takeNewName 3 false 4 (KRi cX3_takeNewName t.1 t.2) 31 [(0, .ref v0), (2, .int v2)] [] h := by
  unfold f_X3_takeNewName_b31 at H
  refine x_aload_n (q := 32) dX3_takeNewName_31 rfl rfl ?_
  replace H := kif H; obtain ⟨g1, H⟩ := H
  replace H := kif H; obtain ⟨g2, H⟩ := H
  refine x_getR (q := 35) dX3_takeNewName_32 rfl kl_RX3_9 rfl (k243 g1 (by decide) hn) g2 ?_
  replace H := kif H; obtain ⟨g3, H⟩ := H
  replace H := kbe H; obtain ⟨r4, c5, H⟩ := H
  have m6 := s_X7_next (Z := Z) h (kR h v0 0) hn c5
  refine x_callV (q := 38) (as := []) (rest := []) dX3_takeNewName_35 rfl kc_RX3_59 kh_X7_next (by decide) (Nat.le_of_ble_eq_true rfl) m6 (ci := 7) (by exact ⟨rfl, by decide⟩) (k243 g3 (by decide) hn) ?_
  have n7 : (r4).1 = 243 := m6.1.full hn
  refine x_iload_n (q := 39) dX3_takeNewName_38 rfl rfl ?_
  cases H
  exact x_end ⟨dX3_takeNewName_39, rfl, rfl⟩
def f_X3_takeNewName (h : KH) (v0 : Nat) (v1 : Nat) : Option (Int32 × KH) :=
  if kkind v0 = 3 then if (kR h v0 0) < 999999 then if kkind (kR h v0 0) = 7 then kb (f_X7_nameHere h (kR h v0 0)) fun r4 =>
  if kkind v1 = 2 then kb (f_X2_hasName r4.2 v1 r4.1) fun r9 =>
  if r9 = 0 then
  f_X3_takeNewName_b31 r4.2 v0 r4.1
  else
  if (kR r4.2 v0 0) < 999999 then if kkind (kR r4.2 v0 0) = 7 then kb (f_X7_stop r4.2 (kR r4.2 v0 0) (3 : Int32) (kI r4.2 (kR r4.2 v0 0) 4)) fun r15 =>
  f_X3_takeNewName_b31 r15 v0 r4.1 else none else none else none else none else none else none
set_option maxHeartbeats 4000000 in
set_option maxRecDepth 100000 in
theorem s0_X3_takeNewName {Z : Nat → (Nat → Nat) → State → Prop} (h : KH) (v0 : Nat) (v1 : Nat) {t : Int32 × KH} (hn : h.1 = 243) (H : f_X3_takeNewName h v0 v1 = some t) : KX Z RX3 cX3_takeNewName 3 false 4 (KRi cX3_takeNewName t.1 t.2) 0 [(0, .ref v0), (1, .ref v1)] [] h := by
  unfold f_X3_takeNewName at H
  refine x_aload_n (q := 1) dX3_takeNewName_0 rfl rfl ?_
  replace H := kif H; obtain ⟨g1, H⟩ := H
  replace H := kif H; obtain ⟨g2, H⟩ := H
  refine x_getR (q := 4) dX3_takeNewName_1 rfl kl_RX3_9 rfl (k243 g1 (by decide) hn) g2 ?_
  replace H := kif H; obtain ⟨g3, H⟩ := H
  replace H := kbe H; obtain ⟨r4, c5, H⟩ := H
  have m6 := s_X7_nameHere (Z := Z) h (kR h v0 0) hn c5
  refine x_callV (q := 7) (as := []) (rest := []) dX3_takeNewName_4 rfl kc_RX3_112 kh_X7_nameHere (by decide) (Nat.le_of_ble_eq_true rfl) m6 (ci := 7) (by exact ⟨rfl, by decide⟩) (k243 g3 (by decide) hn) ?_
  have n7 : (r4.2).1 = 243 := m6.1.full hn
  refine x_istore_n (q := 8) (i := 2) (ls2 := [(2, .int r4.1), (0, .ref v0), (1, .ref v1)]) dX3_takeNewName_7 rfl rfl (by decide) rfl ?_
  refine x_aload_n (q := 9) dX3_takeNewName_8 rfl rfl ?_
  refine x_iload_n (q := 10) dX3_takeNewName_9 rfl rfl ?_
  replace H := kif H; obtain ⟨g8, H⟩ := H
  replace H := kbe H; obtain ⟨r9, c10, H⟩ := H
  have m11 := s_X2_hasName (Z := Z) r4.2 v1 r4.1 n7 c10
  refine x_callV (q := 13) (as := [.int r4.1]) (rest := []) dX3_takeNewName_10 rfl kc_RX3_115 kh_X2_hasName (by decide) (Nat.le_of_ble_eq_true rfl) m11 (ci := 2) (by exact ⟨rfl, by decide⟩) (k243 g8 (by decide) n7) ?_
  replace H := kite H; rcases H with ⟨g12, H⟩ | ⟨g12, H⟩
  · refine x_if_eq_t dX3_takeNewName_13 (q := 31) (by decide) g12 ?_
    refine x_sub (ls2 := [(0, .ref v0), (2, .int r4.1)]) [1, 0] rfl ?_
    exact s_X3_takeNewName_b31 r4.2 v0 r4.1 n7 H
  · refine x_if_eq_f (q := 16) dX3_takeNewName_13 (t := 31) (by decide) rfl g12 ?_
    refine x_aload_n (q := 17) dX3_takeNewName_16 rfl rfl ?_
    replace H := kif H; obtain ⟨g13, H⟩ := H
    refine x_getR (q := 20) dX3_takeNewName_17 rfl kl_RX3_9 rfl (k243 g1 (by decide) n7) g13 ?_
    refine x_iconst (q := 21) (v := (3 : Int32)) dX3_takeNewName_20 rfl (by decide) ?_
    refine x_aload_n (q := 22) dX3_takeNewName_21 rfl rfl ?_
    refine x_getR (q := 25) dX3_takeNewName_22 rfl kl_RX3_9 rfl (k243 g1 (by decide) n7) g13 ?_
    replace H := kif H; obtain ⟨g14, H⟩ := H
    refine x_getI (q := 28) dX3_takeNewName_25 rfl kl_RX3_51 (Or.inl rfl) (k243 g14 (by decide) n7) ?_
    replace H := kbe H; obtain ⟨r15, c16, H⟩ := H
    have m17 := s_X7_stop (Z := Z) r4.2 (kR r4.2 v0 0) (3 : Int32) (kI r4.2 (kR r4.2 v0 0) 4) n7 c16
    refine x_callV (q := 31) (as := [.int (3 : Int32), .int (kI r4.2 (kR r4.2 v0 0) 4)]) (rest := []) dX3_takeNewName_28 rfl kc_RX3_55 kh_X7_stop (by decide) (Nat.le_of_ble_eq_true rfl) m17 (ci := 7) (by exact ⟨rfl, by decide⟩) (k243 g14 (by decide) n7) ?_
    have n18 : (r15).1 = 243 := m17.1.full n7
    refine x_sub (ls2 := [(0, .ref v0), (2, .int r4.1)]) [1, 0] rfl ?_
    exact s_X3_takeNewName_b31 r15 v0 r4.1 n18 H
theorem s_X3_takeNewName {Z : Nat → (Nat → Nat) → State → Prop} (h : KH) (v0 : Nat) (v1 : Nat) {t : Int32 × KH} (hn : h.1 = 243) (H : f_X3_takeNewName h v0 v1 = some t) : KM Z yX3_takeNewName cX3_takeNewName 3 (some .int) 4 [.ref v0, .ref v1] h (some (.int t.1)) t.2 :=
  kx_i (own := RX3) (ini := false) (by decide +kernel) (by decide +kernel) rfl (Nat.le_of_ble_eq_true rfl) (s0_X3_takeNewName h v0 v1 hn H)
theorem dX7_isAt_0 : decode cX7_isAt 0 = .ok (.aload_n 0, 1) := by decide +kernel
theorem dX7_isAt_1 : decode cX7_isAt 1 = .ok (.getfield 19, 3) := by decide +kernel
theorem dX7_isAt_4 : decode cX7_isAt 4 = .ok (.iconst 2, 1) := by decide +kernel
theorem dX7_isAt_5 : decode cX7_isAt 5 = .ok (.if_icmp .ne 20, 3) := by decide +kernel
theorem dX7_isAt_8 : decode cX7_isAt 8 = .ok (.aload_n 0, 1) := by decide +kernel
theorem dX7_isAt_9 : decode cX7_isAt 9 = .ok (.getfield 28, 3) := by decide +kernel
theorem dX7_isAt_12 : decode cX7_isAt 12 = .ok (.aload_n 0, 1) := by decide +kernel
theorem dX7_isAt_13 : decode cX7_isAt 13 = .ok (.getfield 9, 3) := by decide +kernel
theorem dX7_isAt_16 : decode cX7_isAt 16 = .ok (.iload_n 1, 1) := by decide +kernel
theorem dX7_isAt_17 : decode cX7_isAt 17 = .ok (.iaload, 1) := by decide +kernel
theorem dX7_isAt_18 : decode cX7_isAt 18 = .ok (.if_icmp .ne 7, 3) := by decide +kernel
theorem dX7_isAt_21 : decode cX7_isAt 21 = .ok (.iconst 1, 1) := by decide +kernel
theorem dX7_isAt_22 : decode cX7_isAt 22 = .ok (.goto 4, 3) := by decide +kernel
theorem dX7_isAt_25 : decode cX7_isAt 25 = .ok (.iconst 0, 1) := by decide +kernel
theorem dX7_isAt_26 : decode cX7_isAt 26 = .ok (.ireturn, 1) := by decide +kernel
def f_X7_isAt (h : KH) (v0 : Nat) (v1 : Int32) : Option (Int32) :=
  if kkind v0 = 7 then if (kI h v0 3) = (2 : Int32) then
  if (kR h v0 1) < 999999 then if kkind (kR h v0 1) = 20 then if (v1 < 0 ∨ klen (kR h v0 1) ≤ (v1).toNatClampNeg) then none else if (kI h v0 6) = (kI h (kR h v0 1) ((v1).toNatClampNeg)) then
  some (1 : Int32)
  else
  some (0 : Int32) else none else none
  else
  some (0 : Int32) else none
set_option maxHeartbeats 4000000 in
set_option maxRecDepth 100000 in
theorem s0_X7_isAt {Z : Nat → (Nat → Nat) → State → Prop} (h : KH) (v0 : Nat) (v1 : Int32) {t : Int32} (hn : h.1 = 243) (H : f_X7_isAt h v0 v1 = some t) : KX Z RX7 cX7_isAt 2 false 1 (KRz cX7_isAt t h) 0 [(0, .ref v0), (1, .int v1)] [] h := by
  unfold f_X7_isAt at H
  refine x_aload_n (q := 1) dX7_isAt_0 rfl rfl ?_
  replace H := kif H; obtain ⟨g1, H⟩ := H
  refine x_getI (q := 4) dX7_isAt_1 rfl kl_RX7_19 (Or.inl rfl) (k243 g1 (by decide) hn) ?_
  refine x_iconst (q := 5) (v := (2 : Int32)) dX7_isAt_4 rfl (by decide) ?_
  replace H := kite H; rcases H with ⟨g2, H⟩ | ⟨g2, H⟩
  · refine x_icmp_ne_f (q := 8) dX7_isAt_5 (t := 25) (by decide) rfl g2 ?_
    refine x_aload_n (q := 9) dX7_isAt_8 rfl rfl ?_
    refine x_getI (q := 12) dX7_isAt_9 rfl kl_RX7_28 (Or.inl rfl) (k243 g1 (by decide) hn) ?_
    refine x_aload_n (q := 13) dX7_isAt_12 rfl rfl ?_
    replace H := kif H; obtain ⟨g3, H⟩ := H
    refine x_getR (q := 16) dX7_isAt_13 rfl kl_RX7_9 rfl (k243 g1 (by decide) hn) g3 ?_
    refine x_iload_n (q := 17) dX7_isAt_16 rfl rfl ?_
    replace H := kif H; obtain ⟨g4, H⟩ := H
    replace H := kifn H; obtain ⟨g5, H⟩ := H
    refine x_iald (q := 18) dX7_isAt_17 rfl (k243 g4 (by decide) hn) g5 ?_
    replace H := kite H; rcases H with ⟨g6, H⟩ | ⟨g6, H⟩
    · refine x_icmp_ne_f (q := 21) dX7_isAt_18 (t := 25) (by decide) rfl g6 ?_
      refine x_iconst (q := 22) (v := (1 : Int32)) dX7_isAt_21 rfl (by decide) ?_
      refine x_goto dX7_isAt_22 (q := 26) (by decide) ?_
      cases H
      exact x_end ⟨(Or.inr rfl), dX7_isAt_26, rfl, rfl⟩
    · refine x_icmp_ne_t dX7_isAt_18 (q := 25) (by decide) g6 ?_
      refine x_iconst (q := 26) (v := (0 : Int32)) dX7_isAt_25 rfl (by decide) ?_
      cases H
      exact x_end ⟨(Or.inl rfl), dX7_isAt_26, rfl, rfl⟩
  · refine x_icmp_ne_t dX7_isAt_5 (q := 25) (by decide) g2 ?_
    refine x_iconst (q := 26) (v := (0 : Int32)) dX7_isAt_25 rfl (by decide) ?_
    cases H
    exact x_end ⟨(Or.inl rfl), dX7_isAt_26, rfl, rfl⟩
theorem s_X7_isAt {Z : Nat → (Nat → Nat) → State → Prop} (h : KH) (v0 : Nat) (v1 : Int32) {t : Int32} (hn : h.1 = 243) (H : f_X7_isAt h v0 v1 = some t) : KM Z yX7_isAt cX7_isAt 2 (some .boolean) 1 [.ref v0, .int v1] h (some (.int t)) h :=
  kx_z (own := RX7) (ini := false) (by decide +kernel) (by decide +kernel) rfl (Nat.le_of_ble_eq_true rfl) (s0_X7_isAt h v0 v1 hn H)
theorem dX7_takeWord_0 : decode cX7_takeWord 0 = .ok (.aload_n 0, 1) := by decide +kernel
theorem dX7_takeWord_1 : decode cX7_takeWord 1 = .ok (.iload_n 1, 1) := by decide +kernel
theorem dX7_takeWord_2 : decode cX7_takeWord 2 = .ok (.invokevirtual 93, 3) := by decide +kernel
theorem dX7_takeWord_5 : decode cX7_takeWord 5 = .ok (.ifCond .eq 10, 3) := by decide +kernel
theorem dX7_takeWord_8 : decode cX7_takeWord 8 = .ok (.aload_n 0, 1) := by decide +kernel
theorem dX7_takeWord_9 : decode cX7_takeWord 9 = .ok (.invokevirtual 67, 3) := by decide +kernel
theorem dX7_takeWord_12 : decode cX7_takeWord 12 = .ok (.goto 12, 3) := by decide +kernel
theorem dX7_takeWord_15 : decode cX7_takeWord 15 = .ok (.aload_n 0, 1) := by decide +kernel
theorem dX7_takeWord_16 : decode cX7_takeWord 16 = .ok (.iconst 1, 1) := by decide +kernel
theorem dX7_takeWord_17 : decode cX7_takeWord 17 = .ok (.aload_n 0, 1) := by decide +kernel
theorem dX7_takeWord_18 : decode cX7_takeWord 18 = .ok (.getfield 22, 3) := by decide +kernel
theorem dX7_takeWord_21 : decode cX7_takeWord 21 = .ok (.invokevirtual 96, 3) := by decide +kernel
theorem dX7_takeWord_24 : decode cX7_takeWord 24 = .ok (.return_, 1) := by decide +kernel
theorem kc_RX7_93 : Cond.methodLink RX7 93 yX7_isAt ∈ ktG ∧ (Cond.instanceMethod yX7_isAt ∈ ktG ∧ Cond.selects yX7_isAt.cls yX7_isAt yX7_isAt ∈ ktG) ∧ Cond.initialized yX7_isAt.cls ∈ ktG ∧ Cond.code yX7_isAt cX7_isAt 2 (some .boolean) ∈ ktG := ⟨(kwm 689 (by decide +kernel) (by decide +kernel)), ⟨(kwm 690 (by decide +kernel) (by decide +kernel)), (kwm 691 (by decide +kernel) (by decide +kernel))⟩, (kwm 127 (by decide +kernel) (by decide +kernel)), kwm 692 (by decide +kernel) (by decide +kernel)⟩
theorem kh_X7_isAt : yX7_isAt.cls ≠ "java/lang/invoke/MethodHandle" ∧ yX7_isAt.cls ≠ "java/lang/invoke/VarHandle" ∧ (parseMethodDescriptor yX7_isAt.desc).map (fun d => d.parameters.length) = some 1 := by decide +kernel
theorem kc_RX7_67 : Cond.methodLink RX7 67 yX7_next ∈ ktG ∧ (Cond.instanceMethod yX7_next ∈ ktG ∧ Cond.selects yX7_next.cls yX7_next yX7_next ∈ ktG) ∧ Cond.initialized yX7_next.cls ∈ ktG ∧ Cond.code yX7_next cX7_next 4 none ∈ ktG := ⟨(kwm 618 (by decide +kernel) (by decide +kernel)), ⟨(kwm 619 (by decide +kernel) (by decide +kernel)), (kwm 620 (by decide +kernel) (by decide +kernel))⟩, (kwm 127 (by decide +kernel) (by decide +kernel)), kwm 621 (by decide +kernel) (by decide +kernel)⟩
def f_X7_takeWord (h : KH) (v0 : Nat) (v1 : Int32) : Option (KH) :=
  if kkind v0 = 7 then kb (f_X7_isAt h v0 v1) fun r2 =>
  if r2 = 0 then
  kb (f_X7_stop h v0 (1 : Int32) (kI h v0 4)) fun r6 =>
  some r6
  else
  kb (f_X7_next h v0) fun r10 =>
  some r10 else none
set_option maxHeartbeats 4000000 in
set_option maxRecDepth 100000 in
theorem s0_X7_takeWord {Z : Nat → (Nat → Nat) → State → Prop} (h : KH) (v0 : Nat) (v1 : Int32) {t : KH} (hn : h.1 = 243) (H : f_X7_takeWord h v0 v1 = some t) : KX Z RX7 cX7_takeWord 2 false 4 (KRv cX7_takeWord t) 0 [(0, .ref v0), (1, .int v1)] [] h := by
  unfold f_X7_takeWord at H
  refine x_aload_n (q := 1) dX7_takeWord_0 rfl rfl ?_
  refine x_iload_n (q := 2) dX7_takeWord_1 rfl rfl ?_
  replace H := kif H; obtain ⟨g1, H⟩ := H
  replace H := kbe H; obtain ⟨r2, c3, H⟩ := H
  have m4 := s_X7_isAt (Z := Z) h v0 v1 hn c3
  refine x_callV (q := 5) (as := [.int v1]) (rest := []) dX7_takeWord_2 rfl kc_RX7_93 kh_X7_isAt (by decide) (Nat.le_of_ble_eq_true rfl) m4 (ci := 7) (by exact ⟨rfl, by decide⟩) (k243 g1 (by decide) hn) ?_
  replace H := kite H; rcases H with ⟨g5, H⟩ | ⟨g5, H⟩
  · refine x_if_eq_t dX7_takeWord_5 (q := 15) (by decide) g5 ?_
    refine x_aload_n (q := 16) dX7_takeWord_15 rfl rfl ?_
    refine x_iconst (q := 17) (v := (1 : Int32)) dX7_takeWord_16 rfl (by decide) ?_
    refine x_aload_n (q := 18) dX7_takeWord_17 rfl rfl ?_
    refine x_getI (q := 21) dX7_takeWord_18 rfl kl_RX7_22 (Or.inl rfl) (k243 g1 (by decide) hn) ?_
    replace H := kbe H; obtain ⟨r6, c7, H⟩ := H
    have m8 := s_X7_stop (Z := Z) h v0 (1 : Int32) (kI h v0 4) hn c7
    refine x_callV (q := 24) (as := [.int (1 : Int32), .int (kI h v0 4)]) (rest := []) dX7_takeWord_21 rfl kc_RX7_96 kh_X7_stop (by decide) (Nat.le_of_ble_eq_true rfl) m8 (ci := 7) (by exact ⟨rfl, by decide⟩) (k243 g1 (by decide) hn) ?_
    have n9 : (r6).1 = 243 := m8.1.full hn
    cases H
    exact x_end ⟨dX7_takeWord_24, rfl, rfl⟩
  · refine x_if_eq_f (q := 8) dX7_takeWord_5 (t := 15) (by decide) rfl g5 ?_
    refine x_aload_n (q := 9) dX7_takeWord_8 rfl rfl ?_
    replace H := kbe H; obtain ⟨r10, c11, H⟩ := H
    have m12 := s_X7_next (Z := Z) h v0 hn c11
    refine x_callV (q := 12) (as := []) (rest := []) dX7_takeWord_9 rfl kc_RX7_67 kh_X7_next (by decide) (Nat.le_of_ble_eq_true rfl) m12 (ci := 7) (by exact ⟨rfl, by decide⟩) (k243 g1 (by decide) hn) ?_
    have n13 : (r10).1 = 243 := m12.1.full hn
    refine x_goto dX7_takeWord_12 (q := 24) (by decide) ?_
    cases H
    exact x_end ⟨dX7_takeWord_24, rfl, rfl⟩
theorem s_X7_takeWord {Z : Nat → (Nat → Nat) → State → Prop} (h : KH) (v0 : Nat) (v1 : Int32) {t : KH} (hn : h.1 = 243) (H : f_X7_takeWord h v0 v1 = some t) : KM Z yX7_takeWord cX7_takeWord 2 none 4 [.ref v0, .int v1] h none t :=
  kx_v (own := RX7) (ini := false) (by decide +kernel) (by decide +kernel) rfl (Nat.le_of_ble_eq_true rfl) (s0_X7_takeWord h v0 v1 hn H)
theorem dX7_takeNumber_0 : decode cX7_takeNumber 0 = .ok (.aload_n 0, 1) := by decide +kernel
theorem dX7_takeNumber_1 : decode cX7_takeNumber 1 = .ok (.getfield 28, 3) := by decide +kernel
theorem dX7_takeNumber_4 : decode cX7_takeNumber 4 = .ok (.istore_n 3, 1) := by decide +kernel
theorem dX7_takeNumber_5 : decode cX7_takeNumber 5 = .ok (.aload_n 0, 1) := by decide +kernel
theorem dX7_takeNumber_6 : decode cX7_takeNumber 6 = .ok (.getfield 19, 3) := by decide +kernel
theorem dX7_takeNumber_9 : decode cX7_takeNumber 9 = .ok (.iconst 3, 1) := by decide +kernel
theorem dX7_takeNumber_10 : decode cX7_takeNumber 10 = .ok (.if_icmp .eq 15, 3) := by decide +kernel
theorem dX7_takeNumber_13 : decode cX7_takeNumber 13 = .ok (.aload_n 0, 1) := by decide +kernel
theorem dX7_takeNumber_14 : decode cX7_takeNumber 14 = .ok (.iconst 1, 1) := by decide +kernel
theorem dX7_takeNumber_15 : decode cX7_takeNumber 15 = .ok (.aload_n 0, 1) := by decide +kernel
theorem dX7_takeNumber_16 : decode cX7_takeNumber 16 = .ok (.getfield 22, 3) := by decide +kernel
theorem dX7_takeNumber_19 : decode cX7_takeNumber 19 = .ok (.invokevirtual 96, 3) := by decide +kernel
theorem dX7_takeNumber_22 : decode cX7_takeNumber 22 = .ok (.goto 51, 3) := by decide +kernel
theorem dX7_takeNumber_25 : decode cX7_takeNumber 25 = .ok (.aload_n 0, 1) := by decide +kernel
theorem dX7_takeNumber_26 : decode cX7_takeNumber 26 = .ok (.getfield 25, 3) := by decide +kernel
theorem dX7_takeNumber_29 : decode cX7_takeNumber 29 = .ok (.iconst 4, 1) := by decide +kernel
theorem dX7_takeNumber_30 : decode cX7_takeNumber 30 = .ok (.if_icmp .le 17, 3) := by decide +kernel
theorem dX7_takeNumber_33 : decode cX7_takeNumber 33 = .ok (.aload_n 0, 1) := by decide +kernel
theorem dX7_takeNumber_34 : decode cX7_takeNumber 34 = .ok (.iconst 1, 1) := by decide +kernel
theorem dX7_takeNumber_35 : decode cX7_takeNumber 35 = .ok (.aload_n 0, 1) := by decide +kernel
theorem dX7_takeNumber_36 : decode cX7_takeNumber 36 = .ok (.getfield 22, 3) := by decide +kernel
theorem dX7_takeNumber_39 : decode cX7_takeNumber 39 = .ok (.iconst 4, 1) := by decide +kernel
theorem dX7_takeNumber_40 : decode cX7_takeNumber 40 = .ok (.iadd, 1) := by decide +kernel
theorem dX7_takeNumber_41 : decode cX7_takeNumber 41 = .ok (.invokevirtual 96, 3) := by decide +kernel
theorem dX7_takeNumber_44 : decode cX7_takeNumber 44 = .ok (.goto 29, 3) := by decide +kernel
theorem dX7_takeNumber_47 : decode cX7_takeNumber 47 = .ok (.iload_n 3, 1) := by decide +kernel
theorem dX7_takeNumber_48 : decode cX7_takeNumber 48 = .ok (.iload_n 1, 1) := by decide +kernel
theorem dX7_takeNumber_49 : decode cX7_takeNumber 49 = .ok (.if_icmp .lt 8, 3) := by decide +kernel
theorem dX7_takeNumber_52 : decode cX7_takeNumber 52 = .ok (.iload_n 3, 1) := by decide +kernel
theorem dX7_takeNumber_53 : decode cX7_takeNumber 53 = .ok (.iload_n 2, 1) := by decide +kernel
theorem dX7_takeNumber_54 : decode cX7_takeNumber 54 = .ok (.if_icmp .le 15, 3) := by decide +kernel
theorem dX7_takeNumber_57 : decode cX7_takeNumber 57 = .ok (.aload_n 0, 1) := by decide +kernel
theorem dX7_takeNumber_58 : decode cX7_takeNumber 58 = .ok (.iconst 2, 1) := by decide +kernel
theorem dX7_takeNumber_59 : decode cX7_takeNumber 59 = .ok (.aload_n 0, 1) := by decide +kernel
theorem dX7_takeNumber_60 : decode cX7_takeNumber 60 = .ok (.getfield 22, 3) := by decide +kernel
theorem dX7_takeNumber_63 : decode cX7_takeNumber 63 = .ok (.invokevirtual 96, 3) := by decide +kernel
theorem dX7_takeNumber_66 : decode cX7_takeNumber 66 = .ok (.goto 7, 3) := by decide +kernel
theorem dX7_takeNumber_69 : decode cX7_takeNumber 69 = .ok (.aload_n 0, 1) := by decide +kernel
theorem dX7_takeNumber_70 : decode cX7_takeNumber 70 = .ok (.invokevirtual 67, 3) := by decide +kernel
theorem dX7_takeNumber_73 : decode cX7_takeNumber 73 = .ok (.iload_n 3, 1) := by decide +kernel
theorem dX7_takeNumber_74 : decode cX7_takeNumber 74 = .ok (.ireturn, 1) := by decide +kernel
def f_X7_takeNumber_b57 (h : KH) (v0 : Nat) (v3 : Int32) : Option (Int32 × KH) :=
  if kkind v0 = 7 then kb (f_X7_stop h v0 (2 : Int32) (kI h v0 4)) fun r2 =>
  some (v3, r2) else none
set_option maxHeartbeats 4000000 in
set_option maxRecDepth 100000 in
theorem s_X7_takeNumber_b57 {Z : Nat → (Nat → Nat) → State → Prop} (h : KH) (v0 : Nat) (v3 : Int32) {t : Int32 × KH} (hn : h.1 = 243) (H : f_X7_takeNumber_b57 h v0 v3 = some t) : KX Z RX7 cX7_takeNumber 4 false 4 (KRi cX7_takeNumber t.1 t.2) 57 [(0, .ref v0), (3, .int v3)] [] h := by
  unfold f_X7_takeNumber_b57 at H
  refine x_aload_n (q := 58) dX7_takeNumber_57 rfl rfl ?_
  refine x_iconst (q := 59) (v := (2 : Int32)) dX7_takeNumber_58 rfl (by decide) ?_
  refine x_aload_n (q := 60) dX7_takeNumber_59 rfl rfl ?_
  replace H := kif H; obtain ⟨g1, H⟩ := H
  refine x_getI (q := 63) dX7_takeNumber_60 rfl kl_RX7_22 (Or.inl rfl) (k243 g1 (by decide) hn) ?_
  replace H := kbe H; obtain ⟨r2, c3, H⟩ := H
  have m4 := s_X7_stop (Z := Z) h v0 (2 : Int32) (kI h v0 4) hn c3
  refine x_callV (q := 66) (as := [.int (2 : Int32), .int (kI h v0 4)]) (rest := []) dX7_takeNumber_63 rfl kc_RX7_96 kh_X7_stop (by decide) (Nat.le_of_ble_eq_true rfl) m4 (ci := 7) (by exact ⟨rfl, by decide⟩) (k243 g1 (by decide) hn) ?_
  have n5 : (r2).1 = 243 := m4.1.full hn
  refine x_goto dX7_takeNumber_66 (q := 73) (by decide) ?_
  refine x_iload_n (q := 74) dX7_takeNumber_73 rfl rfl ?_
  cases H
  exact x_end ⟨dX7_takeNumber_74, rfl, rfl⟩
def f_X7_takeNumber (h : KH) (v0 : Nat) (v1 : Int32) (v2 : Int32) : Option (Int32 × KH) :=
  if kkind v0 = 7 then kl (kI h v0 6) fun x2 =>
  if (kI h v0 3) = (3 : Int32) then
  if (kI h v0 5) ≤ (4 : Int32) then
  if x2 < v1 then
  f_X7_takeNumber_b57 h v0 x2
  else
  if x2 ≤ v2 then
  kb (f_X7_next h v0) fun r8 =>
  some (x2, r8)
  else
  f_X7_takeNumber_b57 h v0 x2
  else
  kb (f_X7_stop h v0 (1 : Int32) ((kI h v0 4) + (4 : Int32))) fun r12 =>
  some (x2, r12)
  else
  kb (f_X7_stop h v0 (1 : Int32) (kI h v0 4)) fun r16 =>
  some (x2, r16) else none
set_option maxHeartbeats 4000000 in
set_option maxRecDepth 100000 in
theorem s0_X7_takeNumber {Z : Nat → (Nat → Nat) → State → Prop} (h : KH) (v0 : Nat) (v1 : Int32) (v2 : Int32) {t : Int32 × KH} (hn : h.1 = 243) (H : f_X7_takeNumber h v0 v1 v2 = some t) : KX Z RX7 cX7_takeNumber 4 false 4 (KRi cX7_takeNumber t.1 t.2) 0 [(0, .ref v0), (1, .int v1), (2, .int v2)] [] h := by
  unfold f_X7_takeNumber at H
  refine x_aload_n (q := 1) dX7_takeNumber_0 rfl rfl ?_
  replace H := kif H; obtain ⟨g1, H⟩ := H
  refine x_getI (q := 4) dX7_takeNumber_1 rfl kl_RX7_28 (Or.inl rfl) (k243 g1 (by decide) hn) ?_
  replace H := kle H; obtain ⟨x2, q3, H⟩ := H
  refine x_nmI q3 ?_
  refine x_istore_n (q := 5) (i := 3) (ls2 := [(3, .int x2), (0, .ref v0), (1, .int v1), (2, .int v2)]) dX7_takeNumber_4 rfl rfl (by decide) rfl ?_
  refine x_aload_n (q := 6) dX7_takeNumber_5 rfl rfl ?_
  refine x_getI (q := 9) dX7_takeNumber_6 rfl kl_RX7_19 (Or.inl rfl) (k243 g1 (by decide) hn) ?_
  refine x_iconst (q := 10) (v := (3 : Int32)) dX7_takeNumber_9 rfl (by decide) ?_
  replace H := kite H; rcases H with ⟨g4, H⟩ | ⟨g4, H⟩
  · refine x_icmp_eq_t dX7_takeNumber_10 (q := 25) (by decide) g4 ?_
    refine x_aload_n (q := 26) dX7_takeNumber_25 rfl rfl ?_
    refine x_getI (q := 29) dX7_takeNumber_26 rfl kl_RX7_25 (Or.inl rfl) (k243 g1 (by decide) hn) ?_
    refine x_iconst (q := 30) (v := (4 : Int32)) dX7_takeNumber_29 rfl (by decide) ?_
    replace H := kite H; rcases H with ⟨g5, H⟩ | ⟨g5, H⟩
    · refine x_icmp_le_t dX7_takeNumber_30 (q := 47) (by decide) g5 ?_
      refine x_iload_n (q := 48) dX7_takeNumber_47 rfl rfl ?_
      refine x_iload_n (q := 49) dX7_takeNumber_48 rfl rfl ?_
      replace H := kite H; rcases H with ⟨g6, H⟩ | ⟨g6, H⟩
      · refine x_icmp_lt_t dX7_takeNumber_49 (q := 57) (by decide) g6 ?_
        refine x_sub (ls2 := [(0, .ref v0), (3, .int x2)]) [1, 0] rfl ?_
        exact s_X7_takeNumber_b57 h v0 x2 hn H
      · refine x_icmp_lt_f (q := 52) dX7_takeNumber_49 (t := 57) (by decide) rfl g6 ?_
        refine x_iload_n (q := 53) dX7_takeNumber_52 rfl rfl ?_
        refine x_iload_n (q := 54) dX7_takeNumber_53 rfl rfl ?_
        replace H := kite H; rcases H with ⟨g7, H⟩ | ⟨g7, H⟩
        · refine x_icmp_le_t dX7_takeNumber_54 (q := 69) (by decide) g7 ?_
          refine x_aload_n (q := 70) dX7_takeNumber_69 rfl rfl ?_
          replace H := kbe H; obtain ⟨r8, c9, H⟩ := H
          have m10 := s_X7_next (Z := Z) h v0 hn c9
          refine x_callV (q := 73) (as := []) (rest := []) dX7_takeNumber_70 rfl kc_RX7_67 kh_X7_next (by decide) (Nat.le_of_ble_eq_true rfl) m10 (ci := 7) (by exact ⟨rfl, by decide⟩) (k243 g1 (by decide) hn) ?_
          have n11 : (r8).1 = 243 := m10.1.full hn
          refine x_iload_n (q := 74) dX7_takeNumber_73 rfl rfl ?_
          cases H
          exact x_end ⟨dX7_takeNumber_74, rfl, rfl⟩
        · refine x_icmp_le_f (q := 57) dX7_takeNumber_54 (t := 69) (by decide) rfl g7 ?_
          refine x_sub (ls2 := [(0, .ref v0), (3, .int x2)]) [1, 0] rfl ?_
          exact s_X7_takeNumber_b57 h v0 x2 hn H
    · refine x_icmp_le_f (q := 33) dX7_takeNumber_30 (t := 47) (by decide) rfl g5 ?_
      refine x_aload_n (q := 34) dX7_takeNumber_33 rfl rfl ?_
      refine x_iconst (q := 35) (v := (1 : Int32)) dX7_takeNumber_34 rfl (by decide) ?_
      refine x_aload_n (q := 36) dX7_takeNumber_35 rfl rfl ?_
      refine x_getI (q := 39) dX7_takeNumber_36 rfl kl_RX7_22 (Or.inl rfl) (k243 g1 (by decide) hn) ?_
      refine x_iconst (q := 40) (v := (4 : Int32)) dX7_takeNumber_39 rfl (by decide) ?_
      refine x_iadd (q := 41) dX7_takeNumber_40 rfl ?_
      replace H := kbe H; obtain ⟨r12, c13, H⟩ := H
      have m14 := s_X7_stop (Z := Z) h v0 (1 : Int32) ((kI h v0 4) + (4 : Int32)) hn c13
      refine x_callV (q := 44) (as := [.int (1 : Int32), .int ((kI h v0 4) + (4 : Int32))]) (rest := []) dX7_takeNumber_41 rfl kc_RX7_96 kh_X7_stop (by decide) (Nat.le_of_ble_eq_true rfl) m14 (ci := 7) (by exact ⟨rfl, by decide⟩) (k243 g1 (by decide) hn) ?_
      have n15 : (r12).1 = 243 := m14.1.full hn
      refine x_goto dX7_takeNumber_44 (q := 73) (by decide) ?_
      refine x_iload_n (q := 74) dX7_takeNumber_73 rfl rfl ?_
      cases H
      exact x_end ⟨dX7_takeNumber_74, rfl, rfl⟩
  · refine x_icmp_eq_f (q := 13) dX7_takeNumber_10 (t := 25) (by decide) rfl g4 ?_
    refine x_aload_n (q := 14) dX7_takeNumber_13 rfl rfl ?_
    refine x_iconst (q := 15) (v := (1 : Int32)) dX7_takeNumber_14 rfl (by decide) ?_
    refine x_aload_n (q := 16) dX7_takeNumber_15 rfl rfl ?_
    refine x_getI (q := 19) dX7_takeNumber_16 rfl kl_RX7_22 (Or.inl rfl) (k243 g1 (by decide) hn) ?_
    replace H := kbe H; obtain ⟨r16, c17, H⟩ := H
    have m18 := s_X7_stop (Z := Z) h v0 (1 : Int32) (kI h v0 4) hn c17
    refine x_callV (q := 22) (as := [.int (1 : Int32), .int (kI h v0 4)]) (rest := []) dX7_takeNumber_19 rfl kc_RX7_96 kh_X7_stop (by decide) (Nat.le_of_ble_eq_true rfl) m18 (ci := 7) (by exact ⟨rfl, by decide⟩) (k243 g1 (by decide) hn) ?_
    have n19 : (r16).1 = 243 := m18.1.full hn
    refine x_goto dX7_takeNumber_22 (q := 73) (by decide) ?_
    refine x_iload_n (q := 74) dX7_takeNumber_73 rfl rfl ?_
    cases H
    exact x_end ⟨dX7_takeNumber_74, rfl, rfl⟩
theorem s_X7_takeNumber {Z : Nat → (Nat → Nat) → State → Prop} (h : KH) (v0 : Nat) (v1 : Int32) (v2 : Int32) {t : Int32 × KH} (hn : h.1 = 243) (H : f_X7_takeNumber h v0 v1 v2 = some t) : KM Z yX7_takeNumber cX7_takeNumber 4 (some .int) 4 [.ref v0, .int v1, .int v2] h (some (.int t.1)) t.2 :=
  kx_i (own := RX7) (ini := false) (by decide +kernel) (by decide +kernel) rfl (Nat.le_of_ble_eq_true rfl) (s0_X7_takeNumber h v0 v1 v2 hn H)
theorem dX3_takeBehind_0 : decode cX3_takeBehind 0 = .ok (.aload_n 0, 1) := by decide +kernel
theorem dX3_takeBehind_1 : decode cX3_takeBehind 1 = .ok (.getfield 9, 3) := by decide +kernel
theorem dX3_takeBehind_4 : decode cX3_takeBehind 4 = .ok (.iload_n 1, 1) := by decide +kernel
theorem dX3_takeBehind_5 : decode cX3_takeBehind 5 = .ok (.invokevirtual 119, 3) := by decide +kernel
theorem dX3_takeBehind_8 : decode cX3_takeBehind 8 = .ok (.aload_n 0, 1) := by decide +kernel
theorem dX3_takeBehind_9 : decode cX3_takeBehind 9 = .ok (.getfield 9, 3) := by decide +kernel
theorem dX3_takeBehind_12 : decode cX3_takeBehind 12 = .ok (.iload_n 2, 1) := by decide +kernel
theorem dX3_takeBehind_13 : decode cX3_takeBehind 13 = .ok (.iload_n 3, 1) := by decide +kernel
theorem dX3_takeBehind_14 : decode cX3_takeBehind 14 = .ok (.invokevirtual 122, 3) := by decide +kernel
theorem dX3_takeBehind_17 : decode cX3_takeBehind 17 = .ok (.ireturn, 1) := by decide +kernel
theorem kc_RX3_119 : Cond.methodLink RX3 119 yX7_takeWord ∈ ktG ∧ (Cond.instanceMethod yX7_takeWord ∈ ktG ∧ Cond.selects yX7_takeWord.cls yX7_takeWord yX7_takeWord ∈ ktG) ∧ Cond.initialized yX7_takeWord.cls ∈ ktG ∧ Cond.code yX7_takeWord cX7_takeWord 2 none ∈ ktG := ⟨(kwm 685 (by decide +kernel) (by decide +kernel)), ⟨(kwm 686 (by decide +kernel) (by decide +kernel)), (kwm 687 (by decide +kernel) (by decide +kernel))⟩, (kwm 127 (by decide +kernel) (by decide +kernel)), kwm 688 (by decide +kernel) (by decide +kernel)⟩
theorem kh_X7_takeWord : yX7_takeWord.cls ≠ "java/lang/invoke/MethodHandle" ∧ yX7_takeWord.cls ≠ "java/lang/invoke/VarHandle" ∧ (parseMethodDescriptor yX7_takeWord.desc).map (fun d => d.parameters.length) = some 1 := by decide +kernel
theorem kc_RX3_122 : Cond.methodLink RX3 122 yX7_takeNumber ∈ ktG ∧ (Cond.instanceMethod yX7_takeNumber ∈ ktG ∧ Cond.selects yX7_takeNumber.cls yX7_takeNumber yX7_takeNumber ∈ ktG) ∧ Cond.initialized yX7_takeNumber.cls ∈ ktG ∧ Cond.code yX7_takeNumber cX7_takeNumber 4 (some .int) ∈ ktG := ⟨(kwm 693 (by decide +kernel) (by decide +kernel)), ⟨(kwm 694 (by decide +kernel) (by decide +kernel)), (kwm 695 (by decide +kernel) (by decide +kernel))⟩, (kwm 127 (by decide +kernel) (by decide +kernel)), kwm 696 (by decide +kernel) (by decide +kernel)⟩
theorem kh_X7_takeNumber : yX7_takeNumber.cls ≠ "java/lang/invoke/MethodHandle" ∧ yX7_takeNumber.cls ≠ "java/lang/invoke/VarHandle" ∧ (parseMethodDescriptor yX7_takeNumber.desc).map (fun d => d.parameters.length) = some 2 := by decide +kernel
def f_X3_takeBehind (h : KH) (v0 : Nat) (v1 : Int32) (v2 : Int32) (v3 : Int32) : Option (Int32 × KH) :=
  if kkind v0 = 3 then if (kR h v0 0) < 999999 then if kkind (kR h v0 0) = 7 then kb (f_X7_takeWord h (kR h v0 0) v1) fun r4 =>
  if (kR r4 v0 0) < 999999 then if kkind (kR r4 v0 0) = 7 then kb (f_X7_takeNumber r4 (kR r4 v0 0) v2 v3) fun r10 =>
  some (r10.1, r10.2) else none else none else none else none else none
set_option maxHeartbeats 4000000 in
set_option maxRecDepth 100000 in
theorem s0_X3_takeBehind {Z : Nat → (Nat → Nat) → State → Prop} (h : KH) (v0 : Nat) (v1 : Int32) (v2 : Int32) (v3 : Int32) {t : Int32 × KH} (hn : h.1 = 243) (H : f_X3_takeBehind h v0 v1 v2 v3 = some t) : KX Z RX3 cX3_takeBehind 4 false 5 (KRi cX3_takeBehind t.1 t.2) 0 [(0, .ref v0), (1, .int v1), (2, .int v2), (3, .int v3)] [] h := by
  unfold f_X3_takeBehind at H
  refine x_aload_n (q := 1) dX3_takeBehind_0 rfl rfl ?_
  replace H := kif H; obtain ⟨g1, H⟩ := H
  replace H := kif H; obtain ⟨g2, H⟩ := H
  refine x_getR (q := 4) dX3_takeBehind_1 rfl kl_RX3_9 rfl (k243 g1 (by decide) hn) g2 ?_
  refine x_iload_n (q := 5) dX3_takeBehind_4 rfl rfl ?_
  replace H := kif H; obtain ⟨g3, H⟩ := H
  replace H := kbe H; obtain ⟨r4, c5, H⟩ := H
  have m6 := s_X7_takeWord (Z := Z) h (kR h v0 0) v1 hn c5
  refine x_callV (q := 8) (as := [.int v1]) (rest := []) dX3_takeBehind_5 rfl kc_RX3_119 kh_X7_takeWord (by decide) (Nat.le_of_ble_eq_true rfl) m6 (ci := 7) (by exact ⟨rfl, by decide⟩) (k243 g3 (by decide) hn) ?_
  have n7 : (r4).1 = 243 := m6.1.full hn
  refine x_aload_n (q := 9) dX3_takeBehind_8 rfl rfl ?_
  replace H := kif H; obtain ⟨g8, H⟩ := H
  refine x_getR (q := 12) dX3_takeBehind_9 rfl kl_RX3_9 rfl (k243 g1 (by decide) n7) g8 ?_
  refine x_iload_n (q := 13) dX3_takeBehind_12 rfl rfl ?_
  refine x_iload_n (q := 14) dX3_takeBehind_13 rfl rfl ?_
  replace H := kif H; obtain ⟨g9, H⟩ := H
  replace H := kbe H; obtain ⟨r10, c11, H⟩ := H
  have m12 := s_X7_takeNumber (Z := Z) r4 (kR r4 v0 0) v2 v3 n7 c11
  refine x_callV (q := 17) (as := [.int v2, .int v3]) (rest := []) dX3_takeBehind_14 rfl kc_RX3_122 kh_X7_takeNumber (by decide) (Nat.le_of_ble_eq_true rfl) m12 (ci := 7) (by exact ⟨rfl, by decide⟩) (k243 g9 (by decide) n7) ?_
  have n13 : (r10.2).1 = 243 := m12.1.full n7
  cases H
  exact x_end ⟨dX3_takeBehind_17, rfl, rfl⟩
theorem s_X3_takeBehind {Z : Nat → (Nat → Nat) → State → Prop} (h : KH) (v0 : Nat) (v1 : Int32) (v2 : Int32) (v3 : Int32) {t : Int32 × KH} (hn : h.1 = 243) (H : f_X3_takeBehind h v0 v1 v2 v3 = some t) : KM Z yX3_takeBehind cX3_takeBehind 4 (some .int) 5 [.ref v0, .int v1, .int v2, .int v3] h (some (.int t.1)) t.2 :=
  kx_i (own := RX3) (ini := false) (by decide +kernel) (by decide +kernel) rfl (Nat.le_of_ble_eq_true rfl) (s0_X3_takeBehind h v0 v1 v2 v3 hn H)
theorem dX3_readKind_0 : decode cX3_readKind 0 = .ok (.aload_n 1, 1) := by decide +kernel
theorem dX3_readKind_1 : decode cX3_readKind 1 = .ok (.getfield 89, 3) := by decide +kernel
theorem dX3_readKind_4 : decode cX3_readKind 4 = .ok (.bipush 6, 2) := by decide +kernel
theorem dX3_readKind_6 : decode cX3_readKind 6 = .ok (.if_icmp .lt 19, 3) := by decide +kernel
theorem dX3_readKind_9 : decode cX3_readKind 9 = .ok (.aload_n 0, 1) := by decide +kernel
theorem dX3_readKind_10 : decode cX3_readKind 10 = .ok (.getfield 9, 3) := by decide +kernel
theorem dX3_readKind_13 : decode cX3_readKind 13 = .ok (.iconst 5, 1) := by decide +kernel
theorem dX3_readKind_14 : decode cX3_readKind 14 = .ok (.aload_n 0, 1) := by decide +kernel
theorem dX3_readKind_15 : decode cX3_readKind 15 = .ok (.getfield 9, 3) := by decide +kernel
theorem dX3_readKind_18 : decode cX3_readKind 18 = .ok (.getfield 51, 3) := by decide +kernel
theorem dX3_readKind_21 : decode cX3_readKind 21 = .ok (.invokevirtual 55, 3) := by decide +kernel
theorem dX3_readKind_24 : decode cX3_readKind 24 = .ok (.return_, 1) := by decide +kernel
theorem dX3_readKind_25 : decode cX3_readKind 25 = .ok (.aload_n 1, 1) := by decide +kernel
theorem dX3_readKind_26 : decode cX3_readKind 26 = .ok (.getfield 92, 3) := by decide +kernel
theorem dX3_readKind_29 : decode cX3_readKind 29 = .ok (.aload_n 1, 1) := by decide +kernel
theorem dX3_readKind_30 : decode cX3_readKind 30 = .ok (.getfield 89, 3) := by decide +kernel
theorem dX3_readKind_33 : decode cX3_readKind 33 = .ok (.aaload, 1) := by decide +kernel
theorem dX3_readKind_34 : decode cX3_readKind 34 = .ok (.astore_n 2, 1) := by decide +kernel
theorem dX3_readKind_35 : decode cX3_readKind 35 = .ok (.aload_n 0, 1) := by decide +kernel
theorem dX3_readKind_36 : decode cX3_readKind 36 = .ok (.getfield 9, 3) := by decide +kernel
theorem dX3_readKind_39 : decode cX3_readKind 39 = .ok (.invokevirtual 59, 3) := by decide +kernel
theorem dX3_readKind_42 : decode cX3_readKind 42 = .ok (.aload_n 2, 1) := by decide +kernel
theorem dX3_readKind_43 : decode cX3_readKind 43 = .ok (.iconst 0, 1) := by decide +kernel
theorem dX3_readKind_44 : decode cX3_readKind 44 = .ok (.aload_n 0, 1) := by decide +kernel
theorem dX3_readKind_45 : decode cX3_readKind 45 = .ok (.aload_n 1, 1) := by decide +kernel
theorem dX3_readKind_46 : decode cX3_readKind 46 = .ok (.invokevirtual 96, 3) := by decide +kernel
theorem dX3_readKind_49 : decode cX3_readKind 49 = .ok (.iastore, 1) := by decide +kernel
theorem dX3_readKind_50 : decode cX3_readKind 50 = .ok (.aload_n 2, 1) := by decide +kernel
theorem dX3_readKind_51 : decode cX3_readKind 51 = .ok (.iconst 1, 1) := by decide +kernel
theorem dX3_readKind_52 : decode cX3_readKind 52 = .ok (.aload_n 0, 1) := by decide +kernel
theorem dX3_readKind_53 : decode cX3_readKind 53 = .ok (.iconst 1, 1) := by decide +kernel
theorem dX3_readKind_54 : decode cX3_readKind 54 = .ok (.iconst 0, 1) := by decide +kernel
theorem dX3_readKind_55 : decode cX3_readKind 55 = .ok (.bipush 99, 2) := by decide +kernel
theorem dX3_readKind_57 : decode cX3_readKind 57 = .ok (.invokevirtual 76, 3) := by decide +kernel
theorem dX3_readKind_60 : decode cX3_readKind 60 = .ok (.iastore, 1) := by decide +kernel
theorem dX3_readKind_61 : decode cX3_readKind 61 = .ok (.aload_n 2, 1) := by decide +kernel
theorem dX3_readKind_62 : decode cX3_readKind 62 = .ok (.iconst 2, 1) := by decide +kernel
theorem dX3_readKind_63 : decode cX3_readKind 63 = .ok (.aload_n 0, 1) := by decide +kernel
theorem dX3_readKind_64 : decode cX3_readKind 64 = .ok (.iconst 2, 1) := by decide +kernel
theorem dX3_readKind_65 : decode cX3_readKind 65 = .ok (.iconst 0, 1) := by decide +kernel
theorem dX3_readKind_66 : decode cX3_readKind 66 = .ok (.bipush 99, 2) := by decide +kernel
theorem dX3_readKind_68 : decode cX3_readKind 68 = .ok (.invokevirtual 76, 3) := by decide +kernel
theorem dX3_readKind_71 : decode cX3_readKind 71 = .ok (.iastore, 1) := by decide +kernel
theorem dX3_readKind_72 : decode cX3_readKind 72 = .ok (.aload_n 2, 1) := by decide +kernel
theorem dX3_readKind_73 : decode cX3_readKind 73 = .ok (.iconst 3, 1) := by decide +kernel
theorem dX3_readKind_74 : decode cX3_readKind 74 = .ok (.aload_n 0, 1) := by decide +kernel
theorem dX3_readKind_75 : decode cX3_readKind 75 = .ok (.iconst 3, 1) := by decide +kernel
theorem dX3_readKind_76 : decode cX3_readKind 76 = .ok (.iconst 0, 1) := by decide +kernel
theorem dX3_readKind_77 : decode cX3_readKind 77 = .ok (.bipush 9, 2) := by decide +kernel
theorem dX3_readKind_79 : decode cX3_readKind 79 = .ok (.invokevirtual 76, 3) := by decide +kernel
theorem dX3_readKind_82 : decode cX3_readKind 82 = .ok (.iastore, 1) := by decide +kernel
theorem dX3_readKind_83 : decode cX3_readKind 83 = .ok (.aload_n 2, 1) := by decide +kernel
theorem dX3_readKind_84 : decode cX3_readKind 84 = .ok (.iconst 4, 1) := by decide +kernel
theorem dX3_readKind_85 : decode cX3_readKind 85 = .ok (.aload_n 0, 1) := by decide +kernel
theorem dX3_readKind_86 : decode cX3_readKind 86 = .ok (.iconst 4, 1) := by decide +kernel
theorem dX3_readKind_87 : decode cX3_readKind 87 = .ok (.iconst 0, 1) := by decide +kernel
theorem dX3_readKind_88 : decode cX3_readKind 88 = .ok (.bipush 9, 2) := by decide +kernel
theorem dX3_readKind_90 : decode cX3_readKind 90 = .ok (.invokevirtual 76, 3) := by decide +kernel
theorem dX3_readKind_93 : decode cX3_readKind 93 = .ok (.iastore, 1) := by decide +kernel
theorem dX3_readKind_94 : decode cX3_readKind 94 = .ok (.aload_n 1, 1) := by decide +kernel
theorem dX3_readKind_95 : decode cX3_readKind 95 = .ok (.dup, 1) := by decide +kernel
theorem dX3_readKind_96 : decode cX3_readKind 96 = .ok (.getfield 89, 3) := by decide +kernel
theorem dX3_readKind_99 : decode cX3_readKind 99 = .ok (.iconst 1, 1) := by decide +kernel
theorem dX3_readKind_100 : decode cX3_readKind 100 = .ok (.iadd, 1) := by decide +kernel
theorem dX3_readKind_101 : decode cX3_readKind 101 = .ok (.putfield 89, 3) := by decide +kernel
theorem dX3_readKind_104 : decode cX3_readKind 104 = .ok (.return_, 1) := by decide +kernel
theorem kl_RX3_89 : KLk RX3 89 2 3 := ⟨RX2, TX2, 12, rfl, by decide, Or.inr (by decide +kernel)⟩
theorem kl_RX3_92 : KLk RX3 92 2 0 := ⟨RX2, TX2, 12, rfl, by decide, Or.inr (by decide +kernel)⟩
theorem kc_RX3_96 : Cond.methodLink RX3 96 yX3_takeNewName ∈ ktG ∧ (Cond.instanceMethod yX3_takeNewName ∈ ktG ∧ Cond.selects yX3_takeNewName.cls yX3_takeNewName yX3_takeNewName ∈ ktG) ∧ Cond.initialized yX3_takeNewName.cls ∈ ktG ∧ Cond.code yX3_takeNewName cX3_takeNewName 3 (some .int) ∈ ktG := ⟨(kwm 660 (by decide +kernel) (by decide +kernel)), ⟨(kwm 662 (by decide +kernel) (by decide +kernel)), (kwm 5 (by decide +kernel) (by decide +kernel))⟩, (kwm 133 (by decide +kernel) (by decide +kernel)), kwm 663 (by decide +kernel) (by decide +kernel)⟩
theorem kh_X3_takeNewName : yX3_takeNewName.cls ≠ "java/lang/invoke/MethodHandle" ∧ yX3_takeNewName.cls ≠ "java/lang/invoke/VarHandle" ∧ (parseMethodDescriptor yX3_takeNewName.desc).map (fun d => d.parameters.length) = some 1 := by decide +kernel
theorem kc_RX3_76 : Cond.methodLink RX3 76 yX3_takeBehind ∈ ktG ∧ (Cond.instanceMethod yX3_takeBehind ∈ ktG ∧ Cond.selects yX3_takeBehind.cls yX3_takeBehind yX3_takeBehind ∈ ktG) ∧ Cond.initialized yX3_takeBehind.cls ∈ ktG ∧ Cond.code yX3_takeBehind cX3_takeBehind 4 (some .int) ∈ ktG := ⟨(kwm 681 (by decide +kernel) (by decide +kernel)), ⟨(kwm 683 (by decide +kernel) (by decide +kernel)), (kwm 6 (by decide +kernel) (by decide +kernel))⟩, (kwm 133 (by decide +kernel) (by decide +kernel)), kwm 684 (by decide +kernel) (by decide +kernel)⟩
theorem kh_X3_takeBehind : yX3_takeBehind.cls ≠ "java/lang/invoke/MethodHandle" ∧ yX3_takeBehind.cls ≠ "java/lang/invoke/VarHandle" ∧ (parseMethodDescriptor yX3_takeBehind.desc).map (fun d => d.parameters.length) = some 3 := by decide +kernel
def f_X3_readKind (h : KH) (v0 : Nat) (v1 : Nat) : Option (KH) :=
  if kkind v1 = 2 then if (kI h v1 3) < (6 : Int32) then
  if (kR h v1 0) < 999999 then if kkind (kR h v1 0) = 24 then if ((kI h v1 3) < 0 ∨ klen (kR h v1 0) ≤ ((kI h v1 3)).toNatClampNeg) then none else if (kR h (kR h v1 0) (((kI h v1 3)).toNatClampNeg)) < 999999 then kl (kR h (kR h v1 0) (((kI h v1 3)).toNatClampNeg)) fun x7 =>
  if kkind v0 = 3 then if (kR h v0 0) < 999999 then if kkind (kR h v0 0) = 7 then kb (f_X7_next h (kR h v0 0)) fun r12 =>
  kb (f_X3_takeNewName r12 v0 v1) fun r16 =>
  if kkind x7 = 20 then if klen x7 ≤ 0 then none else kl (ksI r16.2 x7 0 r16.1) fun h22 =>
  kb (f_X3_takeBehind h22 v0 (1 : Int32) (0 : Int32) (99 : Int32)) fun r25 =>
  if klen x7 ≤ 1 then none else kl (ksI r25.2 x7 1 r25.1) fun h30 =>
  kb (f_X3_takeBehind h30 v0 (2 : Int32) (0 : Int32) (99 : Int32)) fun r33 =>
  if klen x7 ≤ 2 then none else kl (ksI r33.2 x7 2 r33.1) fun h38 =>
  kb (f_X3_takeBehind h38 v0 (3 : Int32) (0 : Int32) (9 : Int32)) fun r41 =>
  if klen x7 ≤ 3 then none else kl (ksI r41.2 x7 3 r41.1) fun h46 =>
  kb (f_X3_takeBehind h46 v0 (4 : Int32) (0 : Int32) (9 : Int32)) fun r49 =>
  if klen x7 ≤ 4 then none else kl (ksI r49.2 x7 4 r49.1) fun h54 =>
  kl (ksI h54 v1 3 ((kI h54 v1 3) + (1 : Int32))) fun h57 =>
  some h57 else none else none else none else none else none else none else none
  else
  if kkind v0 = 3 then if (kR h v0 0) < 999999 then if kkind (kR h v0 0) = 7 then kb (f_X7_stop h (kR h v0 0) (5 : Int32) (kI h (kR h v0 0) 4)) fun r63 =>
  some r63 else none else none else none else none
set_option maxHeartbeats 4000000 in
set_option maxRecDepth 100000 in
theorem s0_X3_readKind {Z : Nat → (Nat → Nat) → State → Prop} (h : KH) (v0 : Nat) (v1 : Nat) {t : KH} (hn : h.1 = 243) (H : f_X3_readKind h v0 v1 = some t) : KX Z RX3 cX3_readKind 3 false 6 (KRv cX3_readKind t) 0 [(0, .ref v0), (1, .ref v1)] [] h := by
  unfold f_X3_readKind at H
  refine x_aload_n (q := 1) dX3_readKind_0 rfl rfl ?_
  replace H := kif H; obtain ⟨g1, H⟩ := H
  refine x_getI (q := 4) dX3_readKind_1 rfl kl_RX3_89 (Or.inl rfl) (k243 g1 (by decide) hn) ?_
  refine x_bipush (q := 6) (v := (6 : Int32)) dX3_readKind_4 rfl (by decide) ?_
  replace H := kite H; rcases H with ⟨g2, H⟩ | ⟨g2, H⟩
  · refine x_icmp_lt_t dX3_readKind_6 (q := 25) (by decide) g2 ?_
    refine x_aload_n (q := 26) dX3_readKind_25 rfl rfl ?_
    replace H := kif H; obtain ⟨g3, H⟩ := H
    refine x_getR (q := 29) dX3_readKind_26 rfl kl_RX3_92 rfl (k243 g1 (by decide) hn) g3 ?_
    refine x_aload_n (q := 30) dX3_readKind_29 rfl rfl ?_
    refine x_getI (q := 33) dX3_readKind_30 rfl kl_RX3_89 (Or.inl rfl) (k243 g1 (by decide) hn) ?_
    replace H := kif H; obtain ⟨g4, H⟩ := H
    replace H := kifn H; obtain ⟨g5, H⟩ := H
    replace H := kif H; obtain ⟨g6, H⟩ := H
    refine x_aald (q := 34) dX3_readKind_33 rfl (Or.inl rfl) (k243 g4 (by decide) hn) g5 g6 ?_
    replace H := kle H; obtain ⟨x7, q8, H⟩ := H
    refine x_nmR q8 ?_
    refine x_astore_n (q := 35) (i := 2) (ls2 := [(2, .ref x7), (0, .ref v0), (1, .ref v1)]) dX3_readKind_34 rfl rfl (by decide) rfl ?_
    refine x_aload_n (q := 36) dX3_readKind_35 rfl rfl ?_
    replace H := kif H; obtain ⟨g9, H⟩ := H
    replace H := kif H; obtain ⟨g10, H⟩ := H
    refine x_getR (q := 39) dX3_readKind_36 rfl kl_RX3_9 rfl (k243 g9 (by decide) hn) g10 ?_
    replace H := kif H; obtain ⟨g11, H⟩ := H
    replace H := kbe H; obtain ⟨r12, c13, H⟩ := H
    have m14 := s_X7_next (Z := Z) h (kR h v0 0) hn c13
    refine x_callV (q := 42) (as := []) (rest := []) dX3_readKind_39 rfl kc_RX3_59 kh_X7_next (by decide) (Nat.le_of_ble_eq_true rfl) m14 (ci := 7) (by exact ⟨rfl, by decide⟩) (k243 g11 (by decide) hn) ?_
    have n15 : (r12).1 = 243 := m14.1.full hn
    refine x_aload_n (q := 43) dX3_readKind_42 rfl rfl ?_
    refine x_iconst (q := 44) (v := (0 : Int32)) dX3_readKind_43 rfl (by decide) ?_
    refine x_aload_n (q := 45) dX3_readKind_44 rfl rfl ?_
    refine x_aload_n (q := 46) dX3_readKind_45 rfl rfl ?_
    replace H := kbe H; obtain ⟨r16, c17, H⟩ := H
    have m18 := s_X3_takeNewName (Z := Z) r12 v0 v1 n15 c17
    refine x_callV (q := 49) (as := [.ref v1]) (rest := [.int (0 : Int32), .ref x7]) dX3_readKind_46 rfl kc_RX3_96 kh_X3_takeNewName (by decide) (Nat.le_of_ble_eq_true rfl) m18 (ci := 3) (by exact ⟨rfl, by decide⟩) (k243 g9 (by decide) n15) ?_
    have n19 : (r16.2).1 = 243 := m18.1.full n15
    replace H := kif H; obtain ⟨g20, H⟩ := H
    replace H := kifn H; obtain ⟨g21, H⟩ := H
    replace H := kle H; obtain ⟨h22, q23, H⟩ := H
    refine x_iast (q := 50) dX3_readKind_49 rfl (k243 g20 (by decide) n19) (fun z => z.elim (by decide) g21) ?_
    refine x_nmH q23 ?_
    have n24 : h22.1 = 243 := by rw [q23]; exact n19
    refine x_aload_n (q := 51) dX3_readKind_50 rfl rfl ?_
    refine x_iconst (q := 52) (v := (1 : Int32)) dX3_readKind_51 rfl (by decide) ?_
    refine x_aload_n (q := 53) dX3_readKind_52 rfl rfl ?_
    refine x_iconst (q := 54) (v := (1 : Int32)) dX3_readKind_53 rfl (by decide) ?_
    refine x_iconst (q := 55) (v := (0 : Int32)) dX3_readKind_54 rfl (by decide) ?_
    refine x_bipush (q := 57) (v := (99 : Int32)) dX3_readKind_55 rfl (by decide) ?_
    replace H := kbe H; obtain ⟨r25, c26, H⟩ := H
    have m27 := s_X3_takeBehind (Z := Z) h22 v0 (1 : Int32) (0 : Int32) (99 : Int32) n24 c26
    refine x_callV (q := 60) (as := [.int (1 : Int32), .int (0 : Int32), .int (99 : Int32)]) (rest := [.int (1 : Int32), .ref x7]) dX3_readKind_57 rfl kc_RX3_76 kh_X3_takeBehind (by decide) (Nat.le_of_ble_eq_true rfl) m27 (ci := 3) (by exact ⟨rfl, by decide⟩) (k243 g9 (by decide) n24) ?_
    have n28 : (r25.2).1 = 243 := m27.1.full n24
    replace H := kifn H; obtain ⟨g29, H⟩ := H
    replace H := kle H; obtain ⟨h30, q31, H⟩ := H
    refine x_iast (q := 61) dX3_readKind_60 rfl (k243 g20 (by decide) n28) (fun z => z.elim (by decide) g29) ?_
    refine x_nmH q31 ?_
    have n32 : h30.1 = 243 := by rw [q31]; exact n28
    refine x_aload_n (q := 62) dX3_readKind_61 rfl rfl ?_
    refine x_iconst (q := 63) (v := (2 : Int32)) dX3_readKind_62 rfl (by decide) ?_
    refine x_aload_n (q := 64) dX3_readKind_63 rfl rfl ?_
    refine x_iconst (q := 65) (v := (2 : Int32)) dX3_readKind_64 rfl (by decide) ?_
    refine x_iconst (q := 66) (v := (0 : Int32)) dX3_readKind_65 rfl (by decide) ?_
    refine x_bipush (q := 68) (v := (99 : Int32)) dX3_readKind_66 rfl (by decide) ?_
    replace H := kbe H; obtain ⟨r33, c34, H⟩ := H
    have m35 := s_X3_takeBehind (Z := Z) h30 v0 (2 : Int32) (0 : Int32) (99 : Int32) n32 c34
    refine x_callV (q := 71) (as := [.int (2 : Int32), .int (0 : Int32), .int (99 : Int32)]) (rest := [.int (2 : Int32), .ref x7]) dX3_readKind_68 rfl kc_RX3_76 kh_X3_takeBehind (by decide) (Nat.le_of_ble_eq_true rfl) m35 (ci := 3) (by exact ⟨rfl, by decide⟩) (k243 g9 (by decide) n32) ?_
    have n36 : (r33.2).1 = 243 := m35.1.full n32
    replace H := kifn H; obtain ⟨g37, H⟩ := H
    replace H := kle H; obtain ⟨h38, q39, H⟩ := H
    refine x_iast (q := 72) dX3_readKind_71 rfl (k243 g20 (by decide) n36) (fun z => z.elim (by decide) g37) ?_
    refine x_nmH q39 ?_
    have n40 : h38.1 = 243 := by rw [q39]; exact n36
    refine x_aload_n (q := 73) dX3_readKind_72 rfl rfl ?_
    refine x_iconst (q := 74) (v := (3 : Int32)) dX3_readKind_73 rfl (by decide) ?_
    refine x_aload_n (q := 75) dX3_readKind_74 rfl rfl ?_
    refine x_iconst (q := 76) (v := (3 : Int32)) dX3_readKind_75 rfl (by decide) ?_
    refine x_iconst (q := 77) (v := (0 : Int32)) dX3_readKind_76 rfl (by decide) ?_
    refine x_bipush (q := 79) (v := (9 : Int32)) dX3_readKind_77 rfl (by decide) ?_
    replace H := kbe H; obtain ⟨r41, c42, H⟩ := H
    have m43 := s_X3_takeBehind (Z := Z) h38 v0 (3 : Int32) (0 : Int32) (9 : Int32) n40 c42
    refine x_callV (q := 82) (as := [.int (3 : Int32), .int (0 : Int32), .int (9 : Int32)]) (rest := [.int (3 : Int32), .ref x7]) dX3_readKind_79 rfl kc_RX3_76 kh_X3_takeBehind (by decide) (Nat.le_of_ble_eq_true rfl) m43 (ci := 3) (by exact ⟨rfl, by decide⟩) (k243 g9 (by decide) n40) ?_
    have n44 : (r41.2).1 = 243 := m43.1.full n40
    replace H := kifn H; obtain ⟨g45, H⟩ := H
    replace H := kle H; obtain ⟨h46, q47, H⟩ := H
    refine x_iast (q := 83) dX3_readKind_82 rfl (k243 g20 (by decide) n44) (fun z => z.elim (by decide) g45) ?_
    refine x_nmH q47 ?_
    have n48 : h46.1 = 243 := by rw [q47]; exact n44
    refine x_aload_n (q := 84) dX3_readKind_83 rfl rfl ?_
    refine x_iconst (q := 85) (v := (4 : Int32)) dX3_readKind_84 rfl (by decide) ?_
    refine x_aload_n (q := 86) dX3_readKind_85 rfl rfl ?_
    refine x_iconst (q := 87) (v := (4 : Int32)) dX3_readKind_86 rfl (by decide) ?_
    refine x_iconst (q := 88) (v := (0 : Int32)) dX3_readKind_87 rfl (by decide) ?_
    refine x_bipush (q := 90) (v := (9 : Int32)) dX3_readKind_88 rfl (by decide) ?_
    replace H := kbe H; obtain ⟨r49, c50, H⟩ := H
    have m51 := s_X3_takeBehind (Z := Z) h46 v0 (4 : Int32) (0 : Int32) (9 : Int32) n48 c50
    refine x_callV (q := 93) (as := [.int (4 : Int32), .int (0 : Int32), .int (9 : Int32)]) (rest := [.int (4 : Int32), .ref x7]) dX3_readKind_90 rfl kc_RX3_76 kh_X3_takeBehind (by decide) (Nat.le_of_ble_eq_true rfl) m51 (ci := 3) (by exact ⟨rfl, by decide⟩) (k243 g9 (by decide) n48) ?_
    have n52 : (r49.2).1 = 243 := m51.1.full n48
    replace H := kifn H; obtain ⟨g53, H⟩ := H
    replace H := kle H; obtain ⟨h54, q55, H⟩ := H
    refine x_iast (q := 94) dX3_readKind_93 rfl (k243 g20 (by decide) n52) (fun z => z.elim (by decide) g53) ?_
    refine x_nmH q55 ?_
    have n56 : h54.1 = 243 := by rw [q55]; exact n52
    refine x_aload_n (q := 95) dX3_readKind_94 rfl rfl ?_
    refine x_dup (q := 96) dX3_readKind_95 rfl rfl ?_
    refine x_getI (q := 99) dX3_readKind_96 rfl kl_RX3_89 (Or.inl rfl) (k243 g1 (by decide) n56) ?_
    refine x_iconst (q := 100) (v := (1 : Int32)) dX3_readKind_99 rfl (by decide) ?_
    refine x_iadd (q := 101) dX3_readKind_100 rfl ?_
    replace H := kle H; obtain ⟨h57, q58, H⟩ := H
    refine x_putI (q := 104) dX3_readKind_101 rfl kl_RX3_89 (Or.inl rfl) rfl (k243 g1 (by decide) n56) ?_
    refine x_nmH q58 ?_
    have n59 : h57.1 = 243 := by rw [q58]; exact n56
    cases H
    exact x_end ⟨dX3_readKind_104, rfl, rfl⟩
  · refine x_icmp_lt_f (q := 9) dX3_readKind_6 (t := 25) (by decide) rfl g2 ?_
    refine x_aload_n (q := 10) dX3_readKind_9 rfl rfl ?_
    replace H := kif H; obtain ⟨g60, H⟩ := H
    replace H := kif H; obtain ⟨g61, H⟩ := H
    refine x_getR (q := 13) dX3_readKind_10 rfl kl_RX3_9 rfl (k243 g60 (by decide) hn) g61 ?_
    refine x_iconst (q := 14) (v := (5 : Int32)) dX3_readKind_13 rfl (by decide) ?_
    refine x_aload_n (q := 15) dX3_readKind_14 rfl rfl ?_
    refine x_getR (q := 18) dX3_readKind_15 rfl kl_RX3_9 rfl (k243 g60 (by decide) hn) g61 ?_
    replace H := kif H; obtain ⟨g62, H⟩ := H
    refine x_getI (q := 21) dX3_readKind_18 rfl kl_RX3_51 (Or.inl rfl) (k243 g62 (by decide) hn) ?_
    replace H := kbe H; obtain ⟨r63, c64, H⟩ := H
    have m65 := s_X7_stop (Z := Z) h (kR h v0 0) (5 : Int32) (kI h (kR h v0 0) 4) hn c64
    refine x_callV (q := 24) (as := [.int (5 : Int32), .int (kI h (kR h v0 0) 4)]) (rest := []) dX3_readKind_21 rfl kc_RX3_55 kh_X7_stop (by decide) (Nat.le_of_ble_eq_true rfl) m65 (ci := 7) (by exact ⟨rfl, by decide⟩) (k243 g62 (by decide) hn) ?_
    have n66 : (r63).1 = 243 := m65.1.full hn
    cases H
    exact x_end ⟨dX3_readKind_24, rfl, rfl⟩
theorem s_X3_readKind {Z : Nat → (Nat → Nat) → State → Prop} (h : KH) (v0 : Nat) (v1 : Nat) {t : KH} (hn : h.1 = 243) (H : f_X3_readKind h v0 v1 = some t) : KM Z yX3_readKind cX3_readKind 3 none 6 [.ref v0, .ref v1] h none t :=
  kx_v (own := RX3) (ini := false) (by decide +kernel) (by decide +kernel) rfl (Nat.le_of_ble_eq_true rfl) (s0_X3_readKind h v0 v1 hn H)
theorem dX3_readTrial_0 : decode cX3_readTrial 0 = .ok (.aload_n 1, 1) := by decide +kernel
theorem dX3_readTrial_1 : decode cX3_readTrial 1 = .ok (.getfield 100, 3) := by decide +kernel
theorem dX3_readTrial_4 : decode cX3_readTrial 4 = .ok (.bipush 6, 2) := by decide +kernel
theorem dX3_readTrial_6 : decode cX3_readTrial 6 = .ok (.if_icmp .lt 19, 3) := by decide +kernel
theorem dX3_readTrial_9 : decode cX3_readTrial 9 = .ok (.aload_n 0, 1) := by decide +kernel
theorem dX3_readTrial_10 : decode cX3_readTrial 10 = .ok (.getfield 9, 3) := by decide +kernel
theorem dX3_readTrial_13 : decode cX3_readTrial 13 = .ok (.iconst 5, 1) := by decide +kernel
theorem dX3_readTrial_14 : decode cX3_readTrial 14 = .ok (.aload_n 0, 1) := by decide +kernel
theorem dX3_readTrial_15 : decode cX3_readTrial 15 = .ok (.getfield 9, 3) := by decide +kernel
theorem dX3_readTrial_18 : decode cX3_readTrial 18 = .ok (.getfield 51, 3) := by decide +kernel
theorem dX3_readTrial_21 : decode cX3_readTrial 21 = .ok (.invokevirtual 55, 3) := by decide +kernel
theorem dX3_readTrial_24 : decode cX3_readTrial 24 = .ok (.return_, 1) := by decide +kernel
theorem dX3_readTrial_25 : decode cX3_readTrial 25 = .ok (.aload_n 1, 1) := by decide +kernel
theorem dX3_readTrial_26 : decode cX3_readTrial 26 = .ok (.getfield 103, 3) := by decide +kernel
theorem dX3_readTrial_29 : decode cX3_readTrial 29 = .ok (.aload_n 1, 1) := by decide +kernel
theorem dX3_readTrial_30 : decode cX3_readTrial 30 = .ok (.getfield 100, 3) := by decide +kernel
theorem dX3_readTrial_33 : decode cX3_readTrial 33 = .ok (.aaload, 1) := by decide +kernel
theorem dX3_readTrial_34 : decode cX3_readTrial 34 = .ok (.astore_n 2, 1) := by decide +kernel
theorem dX3_readTrial_35 : decode cX3_readTrial 35 = .ok (.aload_n 0, 1) := by decide +kernel
theorem dX3_readTrial_36 : decode cX3_readTrial 36 = .ok (.getfield 9, 3) := by decide +kernel
theorem dX3_readTrial_39 : decode cX3_readTrial 39 = .ok (.invokevirtual 59, 3) := by decide +kernel
theorem dX3_readTrial_42 : decode cX3_readTrial 42 = .ok (.aload_n 2, 1) := by decide +kernel
theorem dX3_readTrial_43 : decode cX3_readTrial 43 = .ok (.iconst 0, 1) := by decide +kernel
theorem dX3_readTrial_44 : decode cX3_readTrial 44 = .ok (.aload_n 0, 1) := by decide +kernel
theorem dX3_readTrial_45 : decode cX3_readTrial 45 = .ok (.aload_n 1, 1) := by decide +kernel
theorem dX3_readTrial_46 : decode cX3_readTrial 46 = .ok (.invokevirtual 96, 3) := by decide +kernel
theorem dX3_readTrial_49 : decode cX3_readTrial 49 = .ok (.iastore, 1) := by decide +kernel
theorem dX3_readTrial_50 : decode cX3_readTrial 50 = .ok (.aload_n 2, 1) := by decide +kernel
theorem dX3_readTrial_51 : decode cX3_readTrial 51 = .ok (.iconst 1, 1) := by decide +kernel
theorem dX3_readTrial_52 : decode cX3_readTrial 52 = .ok (.aload_n 0, 1) := by decide +kernel
theorem dX3_readTrial_53 : decode cX3_readTrial 53 = .ok (.bipush 6, 2) := by decide +kernel
theorem dX3_readTrial_55 : decode cX3_readTrial 55 = .ok (.iconst 0, 1) := by decide +kernel
theorem dX3_readTrial_56 : decode cX3_readTrial 56 = .ok (.bipush 99, 2) := by decide +kernel
theorem dX3_readTrial_58 : decode cX3_readTrial 58 = .ok (.invokevirtual 76, 3) := by decide +kernel
theorem dX3_readTrial_61 : decode cX3_readTrial 61 = .ok (.iastore, 1) := by decide +kernel
theorem dX3_readTrial_62 : decode cX3_readTrial 62 = .ok (.aload_n 1, 1) := by decide +kernel
theorem dX3_readTrial_63 : decode cX3_readTrial 63 = .ok (.dup, 1) := by decide +kernel
theorem dX3_readTrial_64 : decode cX3_readTrial 64 = .ok (.getfield 100, 3) := by decide +kernel
theorem dX3_readTrial_67 : decode cX3_readTrial 67 = .ok (.iconst 1, 1) := by decide +kernel
theorem dX3_readTrial_68 : decode cX3_readTrial 68 = .ok (.iadd, 1) := by decide +kernel
theorem dX3_readTrial_69 : decode cX3_readTrial 69 = .ok (.putfield 100, 3) := by decide +kernel
theorem dX3_readTrial_72 : decode cX3_readTrial 72 = .ok (.return_, 1) := by decide +kernel
theorem kl_RX3_100 : KLk RX3 100 2 4 := ⟨RX2, TX2, 12, rfl, by decide, Or.inr (by decide +kernel)⟩
theorem kl_RX3_103 : KLk RX3 103 2 1 := ⟨RX2, TX2, 12, rfl, by decide, Or.inr (by decide +kernel)⟩
def f_X3_readTrial (h : KH) (v0 : Nat) (v1 : Nat) : Option (KH) :=
  if kkind v1 = 2 then if (kI h v1 4) < (6 : Int32) then
  if (kR h v1 1) < 999999 then if kkind (kR h v1 1) = 24 then if ((kI h v1 4) < 0 ∨ klen (kR h v1 1) ≤ ((kI h v1 4)).toNatClampNeg) then none else if (kR h (kR h v1 1) (((kI h v1 4)).toNatClampNeg)) < 999999 then kl (kR h (kR h v1 1) (((kI h v1 4)).toNatClampNeg)) fun x7 =>
  if kkind v0 = 3 then if (kR h v0 0) < 999999 then if kkind (kR h v0 0) = 7 then kb (f_X7_next h (kR h v0 0)) fun r12 =>
  kb (f_X3_takeNewName r12 v0 v1) fun r16 =>
  if kkind x7 = 20 then if klen x7 ≤ 0 then none else kl (ksI r16.2 x7 0 r16.1) fun h22 =>
  kb (f_X3_takeBehind h22 v0 (6 : Int32) (0 : Int32) (99 : Int32)) fun r25 =>
  if klen x7 ≤ 1 then none else kl (ksI r25.2 x7 1 r25.1) fun h30 =>
  kl (ksI h30 v1 4 ((kI h30 v1 4) + (1 : Int32))) fun h33 =>
  some h33 else none else none else none else none else none else none else none
  else
  if kkind v0 = 3 then if (kR h v0 0) < 999999 then if kkind (kR h v0 0) = 7 then kb (f_X7_stop h (kR h v0 0) (5 : Int32) (kI h (kR h v0 0) 4)) fun r39 =>
  some r39 else none else none else none else none
set_option maxHeartbeats 4000000 in
set_option maxRecDepth 100000 in
theorem s0_X3_readTrial {Z : Nat → (Nat → Nat) → State → Prop} (h : KH) (v0 : Nat) (v1 : Nat) {t : KH} (hn : h.1 = 243) (H : f_X3_readTrial h v0 v1 = some t) : KX Z RX3 cX3_readTrial 3 false 6 (KRv cX3_readTrial t) 0 [(0, .ref v0), (1, .ref v1)] [] h := by
  unfold f_X3_readTrial at H
  refine x_aload_n (q := 1) dX3_readTrial_0 rfl rfl ?_
  replace H := kif H; obtain ⟨g1, H⟩ := H
  refine x_getI (q := 4) dX3_readTrial_1 rfl kl_RX3_100 (Or.inl rfl) (k243 g1 (by decide) hn) ?_
  refine x_bipush (q := 6) (v := (6 : Int32)) dX3_readTrial_4 rfl (by decide) ?_
  replace H := kite H; rcases H with ⟨g2, H⟩ | ⟨g2, H⟩
  · refine x_icmp_lt_t dX3_readTrial_6 (q := 25) (by decide) g2 ?_
    refine x_aload_n (q := 26) dX3_readTrial_25 rfl rfl ?_
    replace H := kif H; obtain ⟨g3, H⟩ := H
    refine x_getR (q := 29) dX3_readTrial_26 rfl kl_RX3_103 rfl (k243 g1 (by decide) hn) g3 ?_
    refine x_aload_n (q := 30) dX3_readTrial_29 rfl rfl ?_
    refine x_getI (q := 33) dX3_readTrial_30 rfl kl_RX3_100 (Or.inl rfl) (k243 g1 (by decide) hn) ?_
    replace H := kif H; obtain ⟨g4, H⟩ := H
    replace H := kifn H; obtain ⟨g5, H⟩ := H
    replace H := kif H; obtain ⟨g6, H⟩ := H
    refine x_aald (q := 34) dX3_readTrial_33 rfl (Or.inl rfl) (k243 g4 (by decide) hn) g5 g6 ?_
    replace H := kle H; obtain ⟨x7, q8, H⟩ := H
    refine x_nmR q8 ?_
    refine x_astore_n (q := 35) (i := 2) (ls2 := [(2, .ref x7), (0, .ref v0), (1, .ref v1)]) dX3_readTrial_34 rfl rfl (by decide) rfl ?_
    refine x_aload_n (q := 36) dX3_readTrial_35 rfl rfl ?_
    replace H := kif H; obtain ⟨g9, H⟩ := H
    replace H := kif H; obtain ⟨g10, H⟩ := H
    refine x_getR (q := 39) dX3_readTrial_36 rfl kl_RX3_9 rfl (k243 g9 (by decide) hn) g10 ?_
    replace H := kif H; obtain ⟨g11, H⟩ := H
    replace H := kbe H; obtain ⟨r12, c13, H⟩ := H
    have m14 := s_X7_next (Z := Z) h (kR h v0 0) hn c13
    refine x_callV (q := 42) (as := []) (rest := []) dX3_readTrial_39 rfl kc_RX3_59 kh_X7_next (by decide) (Nat.le_of_ble_eq_true rfl) m14 (ci := 7) (by exact ⟨rfl, by decide⟩) (k243 g11 (by decide) hn) ?_
    have n15 : (r12).1 = 243 := m14.1.full hn
    refine x_aload_n (q := 43) dX3_readTrial_42 rfl rfl ?_
    refine x_iconst (q := 44) (v := (0 : Int32)) dX3_readTrial_43 rfl (by decide) ?_
    refine x_aload_n (q := 45) dX3_readTrial_44 rfl rfl ?_
    refine x_aload_n (q := 46) dX3_readTrial_45 rfl rfl ?_
    replace H := kbe H; obtain ⟨r16, c17, H⟩ := H
    have m18 := s_X3_takeNewName (Z := Z) r12 v0 v1 n15 c17
    refine x_callV (q := 49) (as := [.ref v1]) (rest := [.int (0 : Int32), .ref x7]) dX3_readTrial_46 rfl kc_RX3_96 kh_X3_takeNewName (by decide) (Nat.le_of_ble_eq_true rfl) m18 (ci := 3) (by exact ⟨rfl, by decide⟩) (k243 g9 (by decide) n15) ?_
    have n19 : (r16.2).1 = 243 := m18.1.full n15
    replace H := kif H; obtain ⟨g20, H⟩ := H
    replace H := kifn H; obtain ⟨g21, H⟩ := H
    replace H := kle H; obtain ⟨h22, q23, H⟩ := H
    refine x_iast (q := 50) dX3_readTrial_49 rfl (k243 g20 (by decide) n19) (fun z => z.elim (by decide) g21) ?_
    refine x_nmH q23 ?_
    have n24 : h22.1 = 243 := by rw [q23]; exact n19
    refine x_aload_n (q := 51) dX3_readTrial_50 rfl rfl ?_
    refine x_iconst (q := 52) (v := (1 : Int32)) dX3_readTrial_51 rfl (by decide) ?_
    refine x_aload_n (q := 53) dX3_readTrial_52 rfl rfl ?_
    refine x_bipush (q := 55) (v := (6 : Int32)) dX3_readTrial_53 rfl (by decide) ?_
    refine x_iconst (q := 56) (v := (0 : Int32)) dX3_readTrial_55 rfl (by decide) ?_
    refine x_bipush (q := 58) (v := (99 : Int32)) dX3_readTrial_56 rfl (by decide) ?_
    replace H := kbe H; obtain ⟨r25, c26, H⟩ := H
    have m27 := s_X3_takeBehind (Z := Z) h22 v0 (6 : Int32) (0 : Int32) (99 : Int32) n24 c26
    refine x_callV (q := 61) (as := [.int (6 : Int32), .int (0 : Int32), .int (99 : Int32)]) (rest := [.int (1 : Int32), .ref x7]) dX3_readTrial_58 rfl kc_RX3_76 kh_X3_takeBehind (by decide) (Nat.le_of_ble_eq_true rfl) m27 (ci := 3) (by exact ⟨rfl, by decide⟩) (k243 g9 (by decide) n24) ?_
    have n28 : (r25.2).1 = 243 := m27.1.full n24
    replace H := kifn H; obtain ⟨g29, H⟩ := H
    replace H := kle H; obtain ⟨h30, q31, H⟩ := H
    refine x_iast (q := 62) dX3_readTrial_61 rfl (k243 g20 (by decide) n28) (fun z => z.elim (by decide) g29) ?_
    refine x_nmH q31 ?_
    have n32 : h30.1 = 243 := by rw [q31]; exact n28
    refine x_aload_n (q := 63) dX3_readTrial_62 rfl rfl ?_
    refine x_dup (q := 64) dX3_readTrial_63 rfl rfl ?_
    refine x_getI (q := 67) dX3_readTrial_64 rfl kl_RX3_100 (Or.inl rfl) (k243 g1 (by decide) n32) ?_
    refine x_iconst (q := 68) (v := (1 : Int32)) dX3_readTrial_67 rfl (by decide) ?_
    refine x_iadd (q := 69) dX3_readTrial_68 rfl ?_
    replace H := kle H; obtain ⟨h33, q34, H⟩ := H
    refine x_putI (q := 72) dX3_readTrial_69 rfl kl_RX3_100 (Or.inl rfl) rfl (k243 g1 (by decide) n32) ?_
    refine x_nmH q34 ?_
    have n35 : h33.1 = 243 := by rw [q34]; exact n32
    cases H
    exact x_end ⟨dX3_readTrial_72, rfl, rfl⟩
  · refine x_icmp_lt_f (q := 9) dX3_readTrial_6 (t := 25) (by decide) rfl g2 ?_
    refine x_aload_n (q := 10) dX3_readTrial_9 rfl rfl ?_
    replace H := kif H; obtain ⟨g36, H⟩ := H
    replace H := kif H; obtain ⟨g37, H⟩ := H
    refine x_getR (q := 13) dX3_readTrial_10 rfl kl_RX3_9 rfl (k243 g36 (by decide) hn) g37 ?_
    refine x_iconst (q := 14) (v := (5 : Int32)) dX3_readTrial_13 rfl (by decide) ?_
    refine x_aload_n (q := 15) dX3_readTrial_14 rfl rfl ?_
    refine x_getR (q := 18) dX3_readTrial_15 rfl kl_RX3_9 rfl (k243 g36 (by decide) hn) g37 ?_
    replace H := kif H; obtain ⟨g38, H⟩ := H
    refine x_getI (q := 21) dX3_readTrial_18 rfl kl_RX3_51 (Or.inl rfl) (k243 g38 (by decide) hn) ?_
    replace H := kbe H; obtain ⟨r39, c40, H⟩ := H
    have m41 := s_X7_stop (Z := Z) h (kR h v0 0) (5 : Int32) (kI h (kR h v0 0) 4) hn c40
    refine x_callV (q := 24) (as := [.int (5 : Int32), .int (kI h (kR h v0 0) 4)]) (rest := []) dX3_readTrial_21 rfl kc_RX3_55 kh_X7_stop (by decide) (Nat.le_of_ble_eq_true rfl) m41 (ci := 7) (by exact ⟨rfl, by decide⟩) (k243 g38 (by decide) hn) ?_
    have n42 : (r39).1 = 243 := m41.1.full hn
    cases H
    exact x_end ⟨dX3_readTrial_24, rfl, rfl⟩
theorem s_X3_readTrial {Z : Nat → (Nat → Nat) → State → Prop} (h : KH) (v0 : Nat) (v1 : Nat) {t : KH} (hn : h.1 = 243) (H : f_X3_readTrial h v0 v1 = some t) : KM Z yX3_readTrial cX3_readTrial 3 none 6 [.ref v0, .ref v1] h none t :=
  kx_v (own := RX3) (ini := false) (by decide +kernel) (by decide +kernel) rfl (Nat.le_of_ble_eq_true rfl) (s0_X3_readTrial h v0 v1 hn H)
theorem dX3_readMark_0 : decode cX3_readMark 0 = .ok (.aload_n 1, 1) := by decide +kernel
theorem dX3_readMark_1 : decode cX3_readMark 1 = .ok (.getfield 106, 3) := by decide +kernel
theorem dX3_readMark_4 : decode cX3_readMark 4 = .ok (.iconst 5, 1) := by decide +kernel
theorem dX3_readMark_5 : decode cX3_readMark 5 = .ok (.if_icmp .lt 19, 3) := by decide +kernel
theorem dX3_readMark_8 : decode cX3_readMark 8 = .ok (.aload_n 0, 1) := by decide +kernel
theorem dX3_readMark_9 : decode cX3_readMark 9 = .ok (.getfield 9, 3) := by decide +kernel
theorem dX3_readMark_12 : decode cX3_readMark 12 = .ok (.iconst 5, 1) := by decide +kernel
theorem dX3_readMark_13 : decode cX3_readMark 13 = .ok (.aload_n 0, 1) := by decide +kernel
theorem dX3_readMark_14 : decode cX3_readMark 14 = .ok (.getfield 9, 3) := by decide +kernel
theorem dX3_readMark_17 : decode cX3_readMark 17 = .ok (.getfield 51, 3) := by decide +kernel
theorem dX3_readMark_20 : decode cX3_readMark 20 = .ok (.invokevirtual 55, 3) := by decide +kernel
theorem dX3_readMark_23 : decode cX3_readMark 23 = .ok (.return_, 1) := by decide +kernel
theorem dX3_readMark_24 : decode cX3_readMark 24 = .ok (.aload_n 1, 1) := by decide +kernel
theorem dX3_readMark_25 : decode cX3_readMark 25 = .ok (.getfield 109, 3) := by decide +kernel
theorem dX3_readMark_28 : decode cX3_readMark 28 = .ok (.aload_n 1, 1) := by decide +kernel
theorem dX3_readMark_29 : decode cX3_readMark 29 = .ok (.getfield 106, 3) := by decide +kernel
theorem dX3_readMark_32 : decode cX3_readMark 32 = .ok (.aaload, 1) := by decide +kernel
theorem dX3_readMark_33 : decode cX3_readMark 33 = .ok (.astore_n 2, 1) := by decide +kernel
theorem dX3_readMark_34 : decode cX3_readMark 34 = .ok (.aload_n 0, 1) := by decide +kernel
theorem dX3_readMark_35 : decode cX3_readMark 35 = .ok (.getfield 9, 3) := by decide +kernel
theorem dX3_readMark_38 : decode cX3_readMark 38 = .ok (.invokevirtual 59, 3) := by decide +kernel
theorem dX3_readMark_41 : decode cX3_readMark 41 = .ok (.aload_n 2, 1) := by decide +kernel
theorem dX3_readMark_42 : decode cX3_readMark 42 = .ok (.iconst 0, 1) := by decide +kernel
theorem dX3_readMark_43 : decode cX3_readMark 43 = .ok (.aload_n 0, 1) := by decide +kernel
theorem dX3_readMark_44 : decode cX3_readMark 44 = .ok (.aload_n 1, 1) := by decide +kernel
theorem dX3_readMark_45 : decode cX3_readMark 45 = .ok (.invokevirtual 96, 3) := by decide +kernel
theorem dX3_readMark_48 : decode cX3_readMark 48 = .ok (.iastore, 1) := by decide +kernel
theorem dX3_readMark_49 : decode cX3_readMark 49 = .ok (.aload_n 2, 1) := by decide +kernel
theorem dX3_readMark_50 : decode cX3_readMark 50 = .ok (.iconst 1, 1) := by decide +kernel
theorem dX3_readMark_51 : decode cX3_readMark 51 = .ok (.aload_n 0, 1) := by decide +kernel
theorem dX3_readMark_52 : decode cX3_readMark 52 = .ok (.iconst 3, 1) := by decide +kernel
theorem dX3_readMark_53 : decode cX3_readMark 53 = .ok (.iconst 1, 1) := by decide +kernel
theorem dX3_readMark_54 : decode cX3_readMark 54 = .ok (.bipush 9, 2) := by decide +kernel
theorem dX3_readMark_56 : decode cX3_readMark 56 = .ok (.invokevirtual 76, 3) := by decide +kernel
theorem dX3_readMark_59 : decode cX3_readMark 59 = .ok (.iastore, 1) := by decide +kernel
theorem dX3_readMark_60 : decode cX3_readMark 60 = .ok (.aload_n 2, 1) := by decide +kernel
theorem dX3_readMark_61 : decode cX3_readMark 61 = .ok (.iconst 2, 1) := by decide +kernel
theorem dX3_readMark_62 : decode cX3_readMark 62 = .ok (.aload_n 0, 1) := by decide +kernel
theorem dX3_readMark_63 : decode cX3_readMark 63 = .ok (.iconst 4, 1) := by decide +kernel
theorem dX3_readMark_64 : decode cX3_readMark 64 = .ok (.iconst 1, 1) := by decide +kernel
theorem dX3_readMark_65 : decode cX3_readMark 65 = .ok (.bipush 9, 2) := by decide +kernel
theorem dX3_readMark_67 : decode cX3_readMark 67 = .ok (.invokevirtual 76, 3) := by decide +kernel
theorem dX3_readMark_70 : decode cX3_readMark 70 = .ok (.iastore, 1) := by decide +kernel
theorem dX3_readMark_71 : decode cX3_readMark 71 = .ok (.aload_n 1, 1) := by decide +kernel
theorem dX3_readMark_72 : decode cX3_readMark 72 = .ok (.dup, 1) := by decide +kernel
theorem dX3_readMark_73 : decode cX3_readMark 73 = .ok (.getfield 106, 3) := by decide +kernel
theorem dX3_readMark_76 : decode cX3_readMark 76 = .ok (.iconst 1, 1) := by decide +kernel
theorem dX3_readMark_77 : decode cX3_readMark 77 = .ok (.iadd, 1) := by decide +kernel
theorem dX3_readMark_78 : decode cX3_readMark 78 = .ok (.putfield 106, 3) := by decide +kernel
theorem dX3_readMark_81 : decode cX3_readMark 81 = .ok (.return_, 1) := by decide +kernel
theorem kl_RX3_106 : KLk RX3 106 2 5 := ⟨RX2, TX2, 12, rfl, by decide, Or.inr (by decide +kernel)⟩
theorem kl_RX3_109 : KLk RX3 109 2 2 := ⟨RX2, TX2, 12, rfl, by decide, Or.inr (by decide +kernel)⟩
def f_X3_readMark (h : KH) (v0 : Nat) (v1 : Nat) : Option (KH) :=
  if kkind v1 = 2 then if (kI h v1 5) < (5 : Int32) then
  if (kR h v1 2) < 999999 then if kkind (kR h v1 2) = 24 then if ((kI h v1 5) < 0 ∨ klen (kR h v1 2) ≤ ((kI h v1 5)).toNatClampNeg) then none else if (kR h (kR h v1 2) (((kI h v1 5)).toNatClampNeg)) < 999999 then kl (kR h (kR h v1 2) (((kI h v1 5)).toNatClampNeg)) fun x7 =>
  if kkind v0 = 3 then if (kR h v0 0) < 999999 then if kkind (kR h v0 0) = 7 then kb (f_X7_next h (kR h v0 0)) fun r12 =>
  kb (f_X3_takeNewName r12 v0 v1) fun r16 =>
  if kkind x7 = 20 then if klen x7 ≤ 0 then none else kl (ksI r16.2 x7 0 r16.1) fun h22 =>
  kb (f_X3_takeBehind h22 v0 (3 : Int32) (1 : Int32) (9 : Int32)) fun r25 =>
  if klen x7 ≤ 1 then none else kl (ksI r25.2 x7 1 r25.1) fun h30 =>
  kb (f_X3_takeBehind h30 v0 (4 : Int32) (1 : Int32) (9 : Int32)) fun r33 =>
  if klen x7 ≤ 2 then none else kl (ksI r33.2 x7 2 r33.1) fun h38 =>
  kl (ksI h38 v1 5 ((kI h38 v1 5) + (1 : Int32))) fun h41 =>
  some h41 else none else none else none else none else none else none else none
  else
  if kkind v0 = 3 then if (kR h v0 0) < 999999 then if kkind (kR h v0 0) = 7 then kb (f_X7_stop h (kR h v0 0) (5 : Int32) (kI h (kR h v0 0) 4)) fun r47 =>
  some r47 else none else none else none else none
set_option maxHeartbeats 4000000 in
set_option maxRecDepth 100000 in
theorem s0_X3_readMark {Z : Nat → (Nat → Nat) → State → Prop} (h : KH) (v0 : Nat) (v1 : Nat) {t : KH} (hn : h.1 = 243) (H : f_X3_readMark h v0 v1 = some t) : KX Z RX3 cX3_readMark 3 false 6 (KRv cX3_readMark t) 0 [(0, .ref v0), (1, .ref v1)] [] h := by
  unfold f_X3_readMark at H
  refine x_aload_n (q := 1) dX3_readMark_0 rfl rfl ?_
  replace H := kif H; obtain ⟨g1, H⟩ := H
  refine x_getI (q := 4) dX3_readMark_1 rfl kl_RX3_106 (Or.inl rfl) (k243 g1 (by decide) hn) ?_
  refine x_iconst (q := 5) (v := (5 : Int32)) dX3_readMark_4 rfl (by decide) ?_
  replace H := kite H; rcases H with ⟨g2, H⟩ | ⟨g2, H⟩
  · refine x_icmp_lt_t dX3_readMark_5 (q := 24) (by decide) g2 ?_
    refine x_aload_n (q := 25) dX3_readMark_24 rfl rfl ?_
    replace H := kif H; obtain ⟨g3, H⟩ := H
    refine x_getR (q := 28) dX3_readMark_25 rfl kl_RX3_109 rfl (k243 g1 (by decide) hn) g3 ?_
    refine x_aload_n (q := 29) dX3_readMark_28 rfl rfl ?_
    refine x_getI (q := 32) dX3_readMark_29 rfl kl_RX3_106 (Or.inl rfl) (k243 g1 (by decide) hn) ?_
    replace H := kif H; obtain ⟨g4, H⟩ := H
    replace H := kifn H; obtain ⟨g5, H⟩ := H
    replace H := kif H; obtain ⟨g6, H⟩ := H
    refine x_aald (q := 33) dX3_readMark_32 rfl (Or.inl rfl) (k243 g4 (by decide) hn) g5 g6 ?_
    replace H := kle H; obtain ⟨x7, q8, H⟩ := H
    refine x_nmR q8 ?_
    refine x_astore_n (q := 34) (i := 2) (ls2 := [(2, .ref x7), (0, .ref v0), (1, .ref v1)]) dX3_readMark_33 rfl rfl (by decide) rfl ?_
    refine x_aload_n (q := 35) dX3_readMark_34 rfl rfl ?_
    replace H := kif H; obtain ⟨g9, H⟩ := H
    replace H := kif H; obtain ⟨g10, H⟩ := H
    refine x_getR (q := 38) dX3_readMark_35 rfl kl_RX3_9 rfl (k243 g9 (by decide) hn) g10 ?_
    replace H := kif H; obtain ⟨g11, H⟩ := H
    replace H := kbe H; obtain ⟨r12, c13, H⟩ := H
    have m14 := s_X7_next (Z := Z) h (kR h v0 0) hn c13
    refine x_callV (q := 41) (as := []) (rest := []) dX3_readMark_38 rfl kc_RX3_59 kh_X7_next (by decide) (Nat.le_of_ble_eq_true rfl) m14 (ci := 7) (by exact ⟨rfl, by decide⟩) (k243 g11 (by decide) hn) ?_
    have n15 : (r12).1 = 243 := m14.1.full hn
    refine x_aload_n (q := 42) dX3_readMark_41 rfl rfl ?_
    refine x_iconst (q := 43) (v := (0 : Int32)) dX3_readMark_42 rfl (by decide) ?_
    refine x_aload_n (q := 44) dX3_readMark_43 rfl rfl ?_
    refine x_aload_n (q := 45) dX3_readMark_44 rfl rfl ?_
    replace H := kbe H; obtain ⟨r16, c17, H⟩ := H
    have m18 := s_X3_takeNewName (Z := Z) r12 v0 v1 n15 c17
    refine x_callV (q := 48) (as := [.ref v1]) (rest := [.int (0 : Int32), .ref x7]) dX3_readMark_45 rfl kc_RX3_96 kh_X3_takeNewName (by decide) (Nat.le_of_ble_eq_true rfl) m18 (ci := 3) (by exact ⟨rfl, by decide⟩) (k243 g9 (by decide) n15) ?_
    have n19 : (r16.2).1 = 243 := m18.1.full n15
    replace H := kif H; obtain ⟨g20, H⟩ := H
    replace H := kifn H; obtain ⟨g21, H⟩ := H
    replace H := kle H; obtain ⟨h22, q23, H⟩ := H
    refine x_iast (q := 49) dX3_readMark_48 rfl (k243 g20 (by decide) n19) (fun z => z.elim (by decide) g21) ?_
    refine x_nmH q23 ?_
    have n24 : h22.1 = 243 := by rw [q23]; exact n19
    refine x_aload_n (q := 50) dX3_readMark_49 rfl rfl ?_
    refine x_iconst (q := 51) (v := (1 : Int32)) dX3_readMark_50 rfl (by decide) ?_
    refine x_aload_n (q := 52) dX3_readMark_51 rfl rfl ?_
    refine x_iconst (q := 53) (v := (3 : Int32)) dX3_readMark_52 rfl (by decide) ?_
    refine x_iconst (q := 54) (v := (1 : Int32)) dX3_readMark_53 rfl (by decide) ?_
    refine x_bipush (q := 56) (v := (9 : Int32)) dX3_readMark_54 rfl (by decide) ?_
    replace H := kbe H; obtain ⟨r25, c26, H⟩ := H
    have m27 := s_X3_takeBehind (Z := Z) h22 v0 (3 : Int32) (1 : Int32) (9 : Int32) n24 c26
    refine x_callV (q := 59) (as := [.int (3 : Int32), .int (1 : Int32), .int (9 : Int32)]) (rest := [.int (1 : Int32), .ref x7]) dX3_readMark_56 rfl kc_RX3_76 kh_X3_takeBehind (by decide) (Nat.le_of_ble_eq_true rfl) m27 (ci := 3) (by exact ⟨rfl, by decide⟩) (k243 g9 (by decide) n24) ?_
    have n28 : (r25.2).1 = 243 := m27.1.full n24
    replace H := kifn H; obtain ⟨g29, H⟩ := H
    replace H := kle H; obtain ⟨h30, q31, H⟩ := H
    refine x_iast (q := 60) dX3_readMark_59 rfl (k243 g20 (by decide) n28) (fun z => z.elim (by decide) g29) ?_
    refine x_nmH q31 ?_
    have n32 : h30.1 = 243 := by rw [q31]; exact n28
    refine x_aload_n (q := 61) dX3_readMark_60 rfl rfl ?_
    refine x_iconst (q := 62) (v := (2 : Int32)) dX3_readMark_61 rfl (by decide) ?_
    refine x_aload_n (q := 63) dX3_readMark_62 rfl rfl ?_
    refine x_iconst (q := 64) (v := (4 : Int32)) dX3_readMark_63 rfl (by decide) ?_
    refine x_iconst (q := 65) (v := (1 : Int32)) dX3_readMark_64 rfl (by decide) ?_
    refine x_bipush (q := 67) (v := (9 : Int32)) dX3_readMark_65 rfl (by decide) ?_
    replace H := kbe H; obtain ⟨r33, c34, H⟩ := H
    have m35 := s_X3_takeBehind (Z := Z) h30 v0 (4 : Int32) (1 : Int32) (9 : Int32) n32 c34
    refine x_callV (q := 70) (as := [.int (4 : Int32), .int (1 : Int32), .int (9 : Int32)]) (rest := [.int (2 : Int32), .ref x7]) dX3_readMark_67 rfl kc_RX3_76 kh_X3_takeBehind (by decide) (Nat.le_of_ble_eq_true rfl) m35 (ci := 3) (by exact ⟨rfl, by decide⟩) (k243 g9 (by decide) n32) ?_
    have n36 : (r33.2).1 = 243 := m35.1.full n32
    replace H := kifn H; obtain ⟨g37, H⟩ := H
    replace H := kle H; obtain ⟨h38, q39, H⟩ := H
    refine x_iast (q := 71) dX3_readMark_70 rfl (k243 g20 (by decide) n36) (fun z => z.elim (by decide) g37) ?_
    refine x_nmH q39 ?_
    have n40 : h38.1 = 243 := by rw [q39]; exact n36
    refine x_aload_n (q := 72) dX3_readMark_71 rfl rfl ?_
    refine x_dup (q := 73) dX3_readMark_72 rfl rfl ?_
    refine x_getI (q := 76) dX3_readMark_73 rfl kl_RX3_106 (Or.inl rfl) (k243 g1 (by decide) n40) ?_
    refine x_iconst (q := 77) (v := (1 : Int32)) dX3_readMark_76 rfl (by decide) ?_
    refine x_iadd (q := 78) dX3_readMark_77 rfl ?_
    replace H := kle H; obtain ⟨h41, q42, H⟩ := H
    refine x_putI (q := 81) dX3_readMark_78 rfl kl_RX3_106 (Or.inl rfl) rfl (k243 g1 (by decide) n40) ?_
    refine x_nmH q42 ?_
    have n43 : h41.1 = 243 := by rw [q42]; exact n40
    cases H
    exact x_end ⟨dX3_readMark_81, rfl, rfl⟩
  · refine x_icmp_lt_f (q := 8) dX3_readMark_5 (t := 24) (by decide) rfl g2 ?_
    refine x_aload_n (q := 9) dX3_readMark_8 rfl rfl ?_
    replace H := kif H; obtain ⟨g44, H⟩ := H
    replace H := kif H; obtain ⟨g45, H⟩ := H
    refine x_getR (q := 12) dX3_readMark_9 rfl kl_RX3_9 rfl (k243 g44 (by decide) hn) g45 ?_
    refine x_iconst (q := 13) (v := (5 : Int32)) dX3_readMark_12 rfl (by decide) ?_
    refine x_aload_n (q := 14) dX3_readMark_13 rfl rfl ?_
    refine x_getR (q := 17) dX3_readMark_14 rfl kl_RX3_9 rfl (k243 g44 (by decide) hn) g45 ?_
    replace H := kif H; obtain ⟨g46, H⟩ := H
    refine x_getI (q := 20) dX3_readMark_17 rfl kl_RX3_51 (Or.inl rfl) (k243 g46 (by decide) hn) ?_
    replace H := kbe H; obtain ⟨r47, c48, H⟩ := H
    have m49 := s_X7_stop (Z := Z) h (kR h v0 0) (5 : Int32) (kI h (kR h v0 0) 4) hn c48
    refine x_callV (q := 23) (as := [.int (5 : Int32), .int (kI h (kR h v0 0) 4)]) (rest := []) dX3_readMark_20 rfl kc_RX3_55 kh_X7_stop (by decide) (Nat.le_of_ble_eq_true rfl) m49 (ci := 7) (by exact ⟨rfl, by decide⟩) (k243 g46 (by decide) hn) ?_
    have n50 : (r47).1 = 243 := m49.1.full hn
    cases H
    exact x_end ⟨dX3_readMark_23, rfl, rfl⟩
theorem s_X3_readMark {Z : Nat → (Nat → Nat) → State → Prop} (h : KH) (v0 : Nat) (v1 : Nat) {t : KH} (hn : h.1 = 243) (H : f_X3_readMark h v0 v1 = some t) : KM Z yX3_readMark cX3_readMark 3 none 6 [.ref v0, .ref v1] h none t :=
  kx_v (own := RX3) (ini := false) (by decide +kernel) (by decide +kernel) rfl (Nat.le_of_ble_eq_true rfl) (s0_X3_readMark h v0 v1 hn H)
theorem dX4_writeTo_0 : decode cX4_writeTo 0 = .ok (.aload_n 0, 1) := by decide +kernel
theorem dX4_writeTo_1 : decode cX4_writeTo 1 = .ok (.aload_n 1, 1) := by decide +kernel
theorem dX4_writeTo_2 : decode cX4_writeTo 2 = .ok (.putfield 19, 3) := by decide +kernel
theorem dX4_writeTo_5 : decode cX4_writeTo 5 = .ok (.aload_n 0, 1) := by decide +kernel
theorem dX4_writeTo_6 : decode cX4_writeTo 6 = .ok (.getfield 19, 3) := by decide +kernel
theorem dX4_writeTo_9 : decode cX4_writeTo 9 = .ok (.iconst 0, 1) := by decide +kernel
theorem dX4_writeTo_10 : decode cX4_writeTo 10 = .ok (.putfield 23, 3) := by decide +kernel
theorem dX4_writeTo_13 : decode cX4_writeTo 13 = .ok (.aload_n 0, 1) := by decide +kernel
theorem dX4_writeTo_14 : decode cX4_writeTo 14 = .ok (.iload_n 2, 1) := by decide +kernel
theorem dX4_writeTo_15 : decode cX4_writeTo 15 = .ok (.putfield 9, 3) := by decide +kernel
theorem dX4_writeTo_18 : decode cX4_writeTo 18 = .ok (.return_, 1) := by decide +kernel
theorem kl_RX4_19 : KLk RX4 19 4 1 := ⟨RX4, TX4, 3, rfl, by decide, Or.inl (kwm 317 (by decide +kernel) (by decide +kernel))⟩
theorem kl_RX4_23 : KLk RX4 23 1 2 := ⟨RX1, TX1, 3, rfl, by decide, Or.inr (by decide +kernel)⟩
theorem kl_RX4_9 : KLk RX4 9 4 2 := ⟨RX4, TX4, 3, rfl, by decide, Or.inl (kwm 318 (by decide +kernel) (by decide +kernel))⟩
def f_X4_writeTo (h : KH) (v0 : Nat) (v1 : Nat) (v2 : Int32) : Option (KH) :=
  if kkind v0 = 4 then if v1 < 999999 then kl (ksR h v0 1 v1) fun h3 =>
  if (kR h3 v0 1) < 999999 then if kkind (kR h3 v0 1) = 1 then kl (ksI h3 (kR h3 v0 1) 2 (0 : Int32)) fun h8 =>
  if (v2 = 0 ∨ v2 = 1) then kl (ksI h8 v0 2 v2) fun h12 =>
  some h12 else none else none else none else none else none
set_option maxHeartbeats 4000000 in
set_option maxRecDepth 100000 in
theorem s0_X4_writeTo {Z : Nat → (Nat → Nat) → State → Prop} (h : KH) (v0 : Nat) (v1 : Nat) (v2 : Int32) {t : KH} (hn : h.1 = 243) (H : f_X4_writeTo h v0 v1 v2 = some t) : KX Z RX4 cX4_writeTo 3 false 1 (KRv cX4_writeTo t) 0 [(0, .ref v0), (1, .ref v1), (2, .int v2)] [] h := by
  unfold f_X4_writeTo at H
  refine x_aload_n (q := 1) dX4_writeTo_0 rfl rfl ?_
  refine x_aload_n (q := 2) dX4_writeTo_1 rfl rfl ?_
  replace H := kif H; obtain ⟨g1, H⟩ := H
  replace H := kif H; obtain ⟨g2, H⟩ := H
  replace H := kle H; obtain ⟨h3, q4, H⟩ := H
  refine x_putR (q := 5) dX4_writeTo_2 rfl kl_RX4_19 (Or.inl rfl) rfl g2 (k243 g1 (by decide) hn) ?_
  refine x_nmH q4 ?_
  have n5 : h3.1 = 243 := by rw [q4]; exact hn
  refine x_aload_n (q := 6) dX4_writeTo_5 rfl rfl ?_
  replace H := kif H; obtain ⟨g6, H⟩ := H
  refine x_getR (q := 9) dX4_writeTo_6 rfl kl_RX4_19 rfl (k243 g1 (by decide) n5) g6 ?_
  refine x_iconst (q := 10) (v := (0 : Int32)) dX4_writeTo_9 rfl (by decide) ?_
  replace H := kif H; obtain ⟨g7, H⟩ := H
  replace H := kle H; obtain ⟨h8, q9, H⟩ := H
  refine x_putI (q := 13) dX4_writeTo_10 rfl kl_RX4_23 (Or.inl rfl) rfl (k243 g7 (by decide) n5) ?_
  refine x_nmH q9 ?_
  have n10 : h8.1 = 243 := by rw [q9]; exact n5
  refine x_aload_n (q := 14) dX4_writeTo_13 rfl rfl ?_
  refine x_iload_n (q := 15) dX4_writeTo_14 rfl rfl ?_
  replace H := kif H; obtain ⟨g11, H⟩ := H
  replace H := kle H; obtain ⟨h12, q13, H⟩ := H
  refine x_putZ (q := 18) dX4_writeTo_15 rfl kl_RX4_9 (Or.inl rfl) rfl g11 (k243 g1 (by decide) n10) ?_
  refine x_nmH q13 ?_
  have n14 : h12.1 = 243 := by rw [q13]; exact n10
  cases H
  exact x_end ⟨dX4_writeTo_18, rfl, rfl⟩
theorem s_X4_writeTo {Z : Nat → (Nat → Nat) → State → Prop} (h : KH) (v0 : Nat) (v1 : Nat) (v2 : Int32) {t : KH} (hn : h.1 = 243) (H : f_X4_writeTo h v0 v1 v2 = some t) : KM Z yX4_writeTo cX4_writeTo 3 none 1 [.ref v0, .ref v1, .int v2] h none t :=
  kx_v (own := RX4) (ini := false) (by decide +kernel) (by decide +kernel) rfl (Nat.le_of_ble_eq_true rfl) (s0_X4_writeTo h v0 v1 v2 hn H)
theorem dX4_opens_0 : decode cX4_opens 0 = .ok (.iload_n 1, 1) := by decide +kernel
theorem dX4_opens_1 : decode cX4_opens 1 = .ok (.bipush 6, 2) := by decide +kernel
theorem dX4_opens_3 : decode cX4_opens 3 = .ok (.if_icmp .lt 20, 3) := by decide +kernel
theorem dX4_opens_6 : decode cX4_opens 6 = .ok (.aload_n 0, 1) := by decide +kernel
theorem dX4_opens_7 : decode cX4_opens 7 = .ok (.getfield 15, 3) := by decide +kernel
theorem dX4_opens_10 : decode cX4_opens 10 = .ok (.iconst 4, 1) := by decide +kernel
theorem dX4_opens_11 : decode cX4_opens 11 = .ok (.aload_n 0, 1) := by decide +kernel
theorem dX4_opens_12 : decode cX4_opens 12 = .ok (.getfield 15, 3) := by decide +kernel
theorem dX4_opens_15 : decode cX4_opens 15 = .ok (.getfield 52, 3) := by decide +kernel
theorem dX4_opens_18 : decode cX4_opens 18 = .ok (.invokevirtual 55, 3) := by decide +kernel
theorem dX4_opens_21 : decode cX4_opens 21 = .ok (.iconst 0, 1) := by decide +kernel
theorem dX4_opens_22 : decode cX4_opens 22 = .ok (.ireturn, 1) := by decide +kernel
theorem dX4_opens_23 : decode cX4_opens 23 = .ok (.aload_n 0, 1) := by decide +kernel
theorem dX4_opens_24 : decode cX4_opens 24 = .ok (.getfield 15, 3) := by decide +kernel
theorem dX4_opens_27 : decode cX4_opens 27 = .ok (.invokevirtual 42, 3) := by decide +kernel
theorem dX4_opens_30 : decode cX4_opens 30 = .ok (.iconst 1, 1) := by decide +kernel
theorem dX4_opens_31 : decode cX4_opens 31 = .ok (.ireturn, 1) := by decide +kernel
theorem kl_RX4_15 : KLk RX4 15 4 0 := ⟨RX4, TX4, 3, rfl, by decide, Or.inl (kwm 316 (by decide +kernel) (by decide +kernel))⟩
theorem kc_RX4_42 : Cond.methodLink RX4 42 yX7_next ∈ ktG ∧ (Cond.instanceMethod yX7_next ∈ ktG ∧ Cond.selects yX7_next.cls yX7_next yX7_next ∈ ktG) ∧ Cond.initialized yX7_next.cls ∈ ktG ∧ Cond.code yX7_next cX7_next 4 none ∈ ktG := ⟨(kwm 727 (by decide +kernel) (by decide +kernel)), ⟨(kwm 619 (by decide +kernel) (by decide +kernel)), (kwm 620 (by decide +kernel) (by decide +kernel))⟩, (kwm 127 (by decide +kernel) (by decide +kernel)), kwm 621 (by decide +kernel) (by decide +kernel)⟩
theorem kl_RX4_52 : KLk RX4 52 7 4 := ⟨RX7, TX7, 9, rfl, by decide, Or.inr (by decide +kernel)⟩
theorem kc_RX4_55 : Cond.methodLink RX4 55 yX7_stop ∈ ktG ∧ (Cond.instanceMethod yX7_stop ∈ ktG ∧ Cond.selects yX7_stop.cls yX7_stop yX7_stop ∈ ktG) ∧ Cond.initialized yX7_stop.cls ∈ ktG ∧ Cond.code yX7_stop cX7_stop 3 none ∈ ktG := ⟨(kwm 726 (by decide +kernel) (by decide +kernel)), ⟨(kwm 656 (by decide +kernel) (by decide +kernel)), (kwm 657 (by decide +kernel) (by decide +kernel))⟩, (kwm 127 (by decide +kernel) (by decide +kernel)), kwm 658 (by decide +kernel) (by decide +kernel)⟩
def f_X4_opens (h : KH) (v0 : Nat) (v1 : Int32) : Option (Int32 × KH) :=
  if v1 < (6 : Int32) then
  if kkind v0 = 4 then if (kR h v0 0) < 999999 then if kkind (kR h v0 0) = 7 then kb (f_X7_next h (kR h v0 0)) fun r5 =>
  some ((1 : Int32), r5) else none else none else none
  else
  if kkind v0 = 4 then if (kR h v0 0) < 999999 then if kkind (kR h v0 0) = 7 then kb (f_X7_stop h (kR h v0 0) (4 : Int32) (kI h (kR h v0 0) 4)) fun r12 =>
  some ((0 : Int32), r12) else none else none else none
set_option maxHeartbeats 4000000 in
set_option maxRecDepth 100000 in
theorem s0_X4_opens {Z : Nat → (Nat → Nat) → State → Prop} (h : KH) (v0 : Nat) (v1 : Int32) {t : Int32 × KH} (hn : h.1 = 243) (H : f_X4_opens h v0 v1 = some t) : KX Z RX4 cX4_opens 2 false 4 (KRz cX4_opens t.1 t.2) 0 [(0, .ref v0), (1, .int v1)] [] h := by
  unfold f_X4_opens at H
  refine x_iload_n (q := 1) dX4_opens_0 rfl rfl ?_
  refine x_bipush (q := 3) (v := (6 : Int32)) dX4_opens_1 rfl (by decide) ?_
  replace H := kite H; rcases H with ⟨g1, H⟩ | ⟨g1, H⟩
  · refine x_icmp_lt_t dX4_opens_3 (q := 23) (by decide) g1 ?_
    refine x_aload_n (q := 24) dX4_opens_23 rfl rfl ?_
    replace H := kif H; obtain ⟨g2, H⟩ := H
    replace H := kif H; obtain ⟨g3, H⟩ := H
    refine x_getR (q := 27) dX4_opens_24 rfl kl_RX4_15 rfl (k243 g2 (by decide) hn) g3 ?_
    replace H := kif H; obtain ⟨g4, H⟩ := H
    replace H := kbe H; obtain ⟨r5, c6, H⟩ := H
    have m7 := s_X7_next (Z := Z) h (kR h v0 0) hn c6
    refine x_callV (q := 30) (as := []) (rest := []) dX4_opens_27 rfl kc_RX4_42 kh_X7_next (by decide) (Nat.le_of_ble_eq_true rfl) m7 (ci := 7) (by exact ⟨rfl, by decide⟩) (k243 g4 (by decide) hn) ?_
    have n8 : (r5).1 = 243 := m7.1.full hn
    refine x_iconst (q := 31) (v := (1 : Int32)) dX4_opens_30 rfl (by decide) ?_
    cases H
    exact x_end ⟨(Or.inr rfl), dX4_opens_31, rfl, rfl⟩
  · refine x_icmp_lt_f (q := 6) dX4_opens_3 (t := 23) (by decide) rfl g1 ?_
    refine x_aload_n (q := 7) dX4_opens_6 rfl rfl ?_
    replace H := kif H; obtain ⟨g9, H⟩ := H
    replace H := kif H; obtain ⟨g10, H⟩ := H
    refine x_getR (q := 10) dX4_opens_7 rfl kl_RX4_15 rfl (k243 g9 (by decide) hn) g10 ?_
    refine x_iconst (q := 11) (v := (4 : Int32)) dX4_opens_10 rfl (by decide) ?_
    refine x_aload_n (q := 12) dX4_opens_11 rfl rfl ?_
    refine x_getR (q := 15) dX4_opens_12 rfl kl_RX4_15 rfl (k243 g9 (by decide) hn) g10 ?_
    replace H := kif H; obtain ⟨g11, H⟩ := H
    refine x_getI (q := 18) dX4_opens_15 rfl kl_RX4_52 (Or.inl rfl) (k243 g11 (by decide) hn) ?_
    replace H := kbe H; obtain ⟨r12, c13, H⟩ := H
    have m14 := s_X7_stop (Z := Z) h (kR h v0 0) (4 : Int32) (kI h (kR h v0 0) 4) hn c13
    refine x_callV (q := 21) (as := [.int (4 : Int32), .int (kI h (kR h v0 0) 4)]) (rest := []) dX4_opens_18 rfl kc_RX4_55 kh_X7_stop (by decide) (Nat.le_of_ble_eq_true rfl) m14 (ci := 7) (by exact ⟨rfl, by decide⟩) (k243 g11 (by decide) hn) ?_
    have n15 : (r12).1 = 243 := m14.1.full hn
    refine x_iconst (q := 22) (v := (0 : Int32)) dX4_opens_21 rfl (by decide) ?_
    cases H
    exact x_end ⟨(Or.inl rfl), dX4_opens_22, rfl, rfl⟩
theorem s_X4_opens {Z : Nat → (Nat → Nat) → State → Prop} (h : KH) (v0 : Nat) (v1 : Int32) {t : Int32 × KH} (hn : h.1 = 243) (H : f_X4_opens h v0 v1 = some t) : KM Z yX4_opens cX4_opens 2 (some .boolean) 4 [.ref v0, .int v1] h (some (.int t.1)) t.2 :=
  kx_z (own := RX4) (ini := false) (by decide +kernel) (by decide +kernel) rfl (Nat.le_of_ble_eq_true rfl) (s0_X4_opens h v0 v1 hn H)
theorem dX4_isValue_0 : decode cX4_isValue 0 = .ok (.iload_n 1, 1) := by decide +kernel
theorem dX4_isValue_1 : decode cX4_isValue 1 = .ok (.bipush 6, 2) := by decide +kernel
theorem dX4_isValue_3 : decode cX4_isValue 3 = .ok (.if_icmp .eq 9, 3) := by decide +kernel
theorem dX4_isValue_6 : decode cX4_isValue 6 = .ok (.iload_n 1, 1) := by decide +kernel
theorem dX4_isValue_7 : decode cX4_isValue 7 = .ok (.bipush 11, 2) := by decide +kernel
theorem dX4_isValue_9 : decode cX4_isValue 9 = .ok (.if_icmp .ne 5, 3) := by decide +kernel
theorem dX4_isValue_12 : decode cX4_isValue 12 = .ok (.iconst 1, 1) := by decide +kernel
theorem dX4_isValue_13 : decode cX4_isValue 13 = .ok (.ireturn, 1) := by decide +kernel
theorem dX4_isValue_14 : decode cX4_isValue 14 = .ok (.aload_n 0, 1) := by decide +kernel
theorem dX4_isValue_15 : decode cX4_isValue 15 = .ok (.getfield 9, 3) := by decide +kernel
theorem dX4_isValue_18 : decode cX4_isValue 18 = .ok (.ifCond .eq 27, 3) := by decide +kernel
theorem dX4_isValue_21 : decode cX4_isValue 21 = .ok (.iload_n 1, 1) := by decide +kernel
theorem dX4_isValue_22 : decode cX4_isValue 22 = .ok (.bipush 13, 2) := by decide +kernel
theorem dX4_isValue_24 : decode cX4_isValue 24 = .ok (.if_icmp .eq 15, 3) := by decide +kernel
theorem dX4_isValue_27 : decode cX4_isValue 27 = .ok (.iload_n 1, 1) := by decide +kernel
theorem dX4_isValue_28 : decode cX4_isValue 28 = .ok (.bipush 14, 2) := by decide +kernel
theorem dX4_isValue_30 : decode cX4_isValue 30 = .ok (.if_icmp .eq 9, 3) := by decide +kernel
theorem dX4_isValue_33 : decode cX4_isValue 33 = .ok (.iload_n 1, 1) := by decide +kernel
theorem dX4_isValue_34 : decode cX4_isValue 34 = .ok (.bipush 15, 2) := by decide +kernel
theorem dX4_isValue_36 : decode cX4_isValue 36 = .ok (.if_icmp .ne 7, 3) := by decide +kernel
theorem dX4_isValue_39 : decode cX4_isValue 39 = .ok (.iconst 1, 1) := by decide +kernel
theorem dX4_isValue_40 : decode cX4_isValue 40 = .ok (.goto 4, 3) := by decide +kernel
theorem dX4_isValue_43 : decode cX4_isValue 43 = .ok (.iconst 0, 1) := by decide +kernel
theorem dX4_isValue_44 : decode cX4_isValue 44 = .ok (.ireturn, 1) := by decide +kernel
theorem dX4_isValue_45 : decode cX4_isValue 45 = .ok (.iload_n 1, 1) := by decide +kernel
theorem dX4_isValue_46 : decode cX4_isValue 46 = .ok (.iconst 1, 1) := by decide +kernel
theorem dX4_isValue_47 : decode cX4_isValue 47 = .ok (.if_icmp .eq 14, 3) := by decide +kernel
theorem dX4_isValue_50 : decode cX4_isValue 50 = .ok (.iload_n 1, 1) := by decide +kernel
theorem dX4_isValue_51 : decode cX4_isValue 51 = .ok (.iconst 2, 1) := by decide +kernel
theorem dX4_isValue_52 : decode cX4_isValue 52 = .ok (.if_icmp .eq 9, 3) := by decide +kernel
theorem dX4_isValue_55 : decode cX4_isValue 55 = .ok (.iload_n 1, 1) := by decide +kernel
theorem dX4_isValue_56 : decode cX4_isValue 56 = .ok (.bipush 12, 2) := by decide +kernel
theorem dX4_isValue_58 : decode cX4_isValue 58 = .ok (.if_icmp .ne 7, 3) := by decide +kernel
theorem dX4_isValue_61 : decode cX4_isValue 61 = .ok (.iconst 1, 1) := by decide +kernel
theorem dX4_isValue_62 : decode cX4_isValue 62 = .ok (.goto 4, 3) := by decide +kernel
theorem dX4_isValue_65 : decode cX4_isValue 65 = .ok (.iconst 0, 1) := by decide +kernel
theorem dX4_isValue_66 : decode cX4_isValue 66 = .ok (.ireturn, 1) := by decide +kernel
def f_X4_isValue_b61 (h : KH) : Option (Int32) :=
  some (1 : Int32)
set_option maxHeartbeats 4000000 in
set_option maxRecDepth 100000 in
theorem s_X4_isValue_b61 {Z : Nat → (Nat → Nat) → State → Prop} (h : KH) {t : Int32} (hn : h.1 = 243) (H : f_X4_isValue_b61 h = some t) : KX Z RX4 cX4_isValue 2 false 1 (KRz cX4_isValue t h) 61 [] [] h := by
  unfold f_X4_isValue_b61 at H
  refine x_iconst (q := 62) (v := (1 : Int32)) dX4_isValue_61 rfl (by decide) ?_
  refine x_goto dX4_isValue_62 (q := 66) (by decide) ?_
  cases H
  exact x_end ⟨(Or.inr rfl), dX4_isValue_66, rfl, rfl⟩
def f_X4_isValue_b39 (h : KH) : Option (Int32) :=
  some (1 : Int32)
set_option maxHeartbeats 4000000 in
set_option maxRecDepth 100000 in
theorem s_X4_isValue_b39 {Z : Nat → (Nat → Nat) → State → Prop} (h : KH) {t : Int32} (hn : h.1 = 243) (H : f_X4_isValue_b39 h = some t) : KX Z RX4 cX4_isValue 2 false 1 (KRz cX4_isValue t h) 39 [] [] h := by
  unfold f_X4_isValue_b39 at H
  refine x_iconst (q := 40) (v := (1 : Int32)) dX4_isValue_39 rfl (by decide) ?_
  refine x_goto dX4_isValue_40 (q := 44) (by decide) ?_
  cases H
  exact x_end ⟨(Or.inr rfl), dX4_isValue_44, rfl, rfl⟩
def f_X4_isValue (h : KH) (v0 : Nat) (v1 : Int32) : Option (Int32) :=
  if v1 = (6 : Int32) then
  some (1 : Int32)
  else
  if v1 = (11 : Int32) then
  some (1 : Int32)
  else
  if kkind v0 = 4 then if (kI h v0 2) = 0 then
  if v1 = (1 : Int32) then
  f_X4_isValue_b61 h
  else
  if v1 = (2 : Int32) then
  f_X4_isValue_b61 h
  else
  if v1 = (12 : Int32) then
  f_X4_isValue_b61 h
  else
  some (0 : Int32)
  else
  if v1 = (13 : Int32) then
  f_X4_isValue_b39 h
  else
  if v1 = (14 : Int32) then
  f_X4_isValue_b39 h
  else
  if v1 = (15 : Int32) then
  f_X4_isValue_b39 h
  else
  some (0 : Int32) else none
set_option maxHeartbeats 4000000 in
set_option maxRecDepth 100000 in
theorem s0_X4_isValue {Z : Nat → (Nat → Nat) → State → Prop} (h : KH) (v0 : Nat) (v1 : Int32) {t : Int32} (hn : h.1 = 243) (H : f_X4_isValue h v0 v1 = some t) : KX Z RX4 cX4_isValue 2 false 1 (KRz cX4_isValue t h) 0 [(0, .ref v0), (1, .int v1)] [] h := by
  unfold f_X4_isValue at H
  refine x_iload_n (q := 1) dX4_isValue_0 rfl rfl ?_
  refine x_bipush (q := 3) (v := (6 : Int32)) dX4_isValue_1 rfl (by decide) ?_
  replace H := kite H; rcases H with ⟨g1, H⟩ | ⟨g1, H⟩
  · refine x_icmp_eq_t dX4_isValue_3 (q := 12) (by decide) g1 ?_
    refine x_iconst (q := 13) (v := (1 : Int32)) dX4_isValue_12 rfl (by decide) ?_
    cases H
    exact x_end ⟨(Or.inr rfl), dX4_isValue_13, rfl, rfl⟩
  · refine x_icmp_eq_f (q := 6) dX4_isValue_3 (t := 12) (by decide) rfl g1 ?_
    refine x_iload_n (q := 7) dX4_isValue_6 rfl rfl ?_
    refine x_bipush (q := 9) (v := (11 : Int32)) dX4_isValue_7 rfl (by decide) ?_
    replace H := kite H; rcases H with ⟨g2, H⟩ | ⟨g2, H⟩
    · refine x_icmp_ne_f (q := 12) dX4_isValue_9 (t := 14) (by decide) rfl g2 ?_
      refine x_iconst (q := 13) (v := (1 : Int32)) dX4_isValue_12 rfl (by decide) ?_
      cases H
      exact x_end ⟨(Or.inr rfl), dX4_isValue_13, rfl, rfl⟩
    · refine x_icmp_ne_t dX4_isValue_9 (q := 14) (by decide) g2 ?_
      refine x_aload_n (q := 15) dX4_isValue_14 rfl rfl ?_
      replace H := kif H; obtain ⟨g3, H⟩ := H
      refine x_getI (q := 18) dX4_isValue_15 rfl kl_RX4_9 (Or.inr rfl) (k243 g3 (by decide) hn) ?_
      replace H := kite H; rcases H with ⟨g4, H⟩ | ⟨g4, H⟩
      · refine x_if_eq_t dX4_isValue_18 (q := 45) (by decide) g4 ?_
        refine x_iload_n (q := 46) dX4_isValue_45 rfl rfl ?_
        refine x_iconst (q := 47) (v := (1 : Int32)) dX4_isValue_46 rfl (by decide) ?_
        replace H := kite H; rcases H with ⟨g5, H⟩ | ⟨g5, H⟩
        · refine x_icmp_eq_t dX4_isValue_47 (q := 61) (by decide) g5 ?_
          refine x_sub (ls2 := []) [] rfl ?_
          exact s_X4_isValue_b61 h hn H
        · refine x_icmp_eq_f (q := 50) dX4_isValue_47 (t := 61) (by decide) rfl g5 ?_
          refine x_iload_n (q := 51) dX4_isValue_50 rfl rfl ?_
          refine x_iconst (q := 52) (v := (2 : Int32)) dX4_isValue_51 rfl (by decide) ?_
          replace H := kite H; rcases H with ⟨g6, H⟩ | ⟨g6, H⟩
          · refine x_icmp_eq_t dX4_isValue_52 (q := 61) (by decide) g6 ?_
            refine x_sub (ls2 := []) [] rfl ?_
            exact s_X4_isValue_b61 h hn H
          · refine x_icmp_eq_f (q := 55) dX4_isValue_52 (t := 61) (by decide) rfl g6 ?_
            refine x_iload_n (q := 56) dX4_isValue_55 rfl rfl ?_
            refine x_bipush (q := 58) (v := (12 : Int32)) dX4_isValue_56 rfl (by decide) ?_
            replace H := kite H; rcases H with ⟨g7, H⟩ | ⟨g7, H⟩
            · refine x_icmp_ne_f (q := 61) dX4_isValue_58 (t := 65) (by decide) rfl g7 ?_
              refine x_sub (ls2 := []) [] rfl ?_
              exact s_X4_isValue_b61 h hn H
            · refine x_icmp_ne_t dX4_isValue_58 (q := 65) (by decide) g7 ?_
              refine x_iconst (q := 66) (v := (0 : Int32)) dX4_isValue_65 rfl (by decide) ?_
              cases H
              exact x_end ⟨(Or.inl rfl), dX4_isValue_66, rfl, rfl⟩
      · refine x_if_eq_f (q := 21) dX4_isValue_18 (t := 45) (by decide) rfl g4 ?_
        refine x_iload_n (q := 22) dX4_isValue_21 rfl rfl ?_
        refine x_bipush (q := 24) (v := (13 : Int32)) dX4_isValue_22 rfl (by decide) ?_
        replace H := kite H; rcases H with ⟨g8, H⟩ | ⟨g8, H⟩
        · refine x_icmp_eq_t dX4_isValue_24 (q := 39) (by decide) g8 ?_
          refine x_sub (ls2 := []) [] rfl ?_
          exact s_X4_isValue_b39 h hn H
        · refine x_icmp_eq_f (q := 27) dX4_isValue_24 (t := 39) (by decide) rfl g8 ?_
          refine x_iload_n (q := 28) dX4_isValue_27 rfl rfl ?_
          refine x_bipush (q := 30) (v := (14 : Int32)) dX4_isValue_28 rfl (by decide) ?_
          replace H := kite H; rcases H with ⟨g9, H⟩ | ⟨g9, H⟩
          · refine x_icmp_eq_t dX4_isValue_30 (q := 39) (by decide) g9 ?_
            refine x_sub (ls2 := []) [] rfl ?_
            exact s_X4_isValue_b39 h hn H
          · refine x_icmp_eq_f (q := 33) dX4_isValue_30 (t := 39) (by decide) rfl g9 ?_
            refine x_iload_n (q := 34) dX4_isValue_33 rfl rfl ?_
            refine x_bipush (q := 36) (v := (15 : Int32)) dX4_isValue_34 rfl (by decide) ?_
            replace H := kite H; rcases H with ⟨g10, H⟩ | ⟨g10, H⟩
            · refine x_icmp_ne_f (q := 39) dX4_isValue_36 (t := 43) (by decide) rfl g10 ?_
              refine x_sub (ls2 := []) [] rfl ?_
              exact s_X4_isValue_b39 h hn H
            · refine x_icmp_ne_t dX4_isValue_36 (q := 43) (by decide) g10 ?_
              refine x_iconst (q := 44) (v := (0 : Int32)) dX4_isValue_43 rfl (by decide) ?_
              cases H
              exact x_end ⟨(Or.inl rfl), dX4_isValue_44, rfl, rfl⟩
theorem s_X4_isValue {Z : Nat → (Nat → Nat) → State → Prop} (h : KH) (v0 : Nat) (v1 : Int32) {t : Int32} (hn : h.1 = 243) (H : f_X4_isValue h v0 v1 = some t) : KM Z yX4_isValue cX4_isValue 2 (some .boolean) 1 [.ref v0, .int v1] h (some (.int t)) h :=
  kx_z (own := RX4) (ini := false) (by decide +kernel) (by decide +kernel) rfl (Nat.le_of_ble_eq_true rfl) (s0_X4_isValue h v0 v1 hn H)
theorem dX8_copyFrom_0 : decode cX8_copyFrom 0 = .ok (.aload_n 0, 1) := by decide +kernel
theorem dX8_copyFrom_1 : decode cX8_copyFrom 1 = .ok (.aload_n 1, 1) := by decide +kernel
theorem dX8_copyFrom_2 : decode cX8_copyFrom 2 = .ok (.getfield 9, 3) := by decide +kernel
theorem dX8_copyFrom_5 : decode cX8_copyFrom 5 = .ok (.putfield 9, 3) := by decide +kernel
theorem dX8_copyFrom_8 : decode cX8_copyFrom 8 = .ok (.aload_n 0, 1) := by decide +kernel
theorem dX8_copyFrom_9 : decode cX8_copyFrom 9 = .ok (.aload_n 1, 1) := by decide +kernel
theorem dX8_copyFrom_10 : decode cX8_copyFrom 10 = .ok (.getfield 15, 3) := by decide +kernel
theorem dX8_copyFrom_13 : decode cX8_copyFrom 13 = .ok (.putfield 15, 3) := by decide +kernel
theorem dX8_copyFrom_16 : decode cX8_copyFrom 16 = .ok (.aload_n 0, 1) := by decide +kernel
theorem dX8_copyFrom_17 : decode cX8_copyFrom 17 = .ok (.aload_n 1, 1) := by decide +kernel
theorem dX8_copyFrom_18 : decode cX8_copyFrom 18 = .ok (.getfield 18, 3) := by decide +kernel
theorem dX8_copyFrom_21 : decode cX8_copyFrom 21 = .ok (.putfield 18, 3) := by decide +kernel
theorem dX8_copyFrom_24 : decode cX8_copyFrom 24 = .ok (.aload_n 1, 1) := by decide +kernel
theorem dX8_copyFrom_25 : decode cX8_copyFrom 25 = .ok (.getfield 21, 3) := by decide +kernel
theorem dX8_copyFrom_28 : decode cX8_copyFrom 28 = .ok (.iconst 0, 1) := by decide +kernel
theorem dX8_copyFrom_29 : decode cX8_copyFrom 29 = .ok (.aload_n 0, 1) := by decide +kernel
theorem dX8_copyFrom_30 : decode cX8_copyFrom 30 = .ok (.getfield 21, 3) := by decide +kernel
theorem dX8_copyFrom_33 : decode cX8_copyFrom 33 = .ok (.iconst 0, 1) := by decide +kernel
theorem dX8_copyFrom_34 : decode cX8_copyFrom 34 = .ok (.bipush 6, 2) := by decide +kernel
theorem dX8_copyFrom_36 : decode cX8_copyFrom 36 = .ok (.invokestatic 40, 3) := by decide +kernel
theorem dX8_copyFrom_39 : decode cX8_copyFrom 39 = .ok (.aload_n 1, 1) := by decide +kernel
theorem dX8_copyFrom_40 : decode cX8_copyFrom 40 = .ok (.getfield 25, 3) := by decide +kernel
theorem dX8_copyFrom_43 : decode cX8_copyFrom 43 = .ok (.iconst 0, 1) := by decide +kernel
theorem dX8_copyFrom_44 : decode cX8_copyFrom 44 = .ok (.aload_n 0, 1) := by decide +kernel
theorem dX8_copyFrom_45 : decode cX8_copyFrom 45 = .ok (.getfield 25, 3) := by decide +kernel
theorem dX8_copyFrom_48 : decode cX8_copyFrom 48 = .ok (.iconst 0, 1) := by decide +kernel
theorem dX8_copyFrom_49 : decode cX8_copyFrom 49 = .ok (.bipush 6, 2) := by decide +kernel
theorem dX8_copyFrom_51 : decode cX8_copyFrom 51 = .ok (.invokestatic 40, 3) := by decide +kernel
theorem dX8_copyFrom_54 : decode cX8_copyFrom 54 = .ok (.aload_n 1, 1) := by decide +kernel
theorem dX8_copyFrom_55 : decode cX8_copyFrom 55 = .ok (.getfield 28, 3) := by decide +kernel
theorem dX8_copyFrom_58 : decode cX8_copyFrom 58 = .ok (.iconst 0, 1) := by decide +kernel
theorem dX8_copyFrom_59 : decode cX8_copyFrom 59 = .ok (.aload_n 0, 1) := by decide +kernel
theorem dX8_copyFrom_60 : decode cX8_copyFrom 60 = .ok (.getfield 28, 3) := by decide +kernel
theorem dX8_copyFrom_63 : decode cX8_copyFrom 63 = .ok (.iconst 0, 1) := by decide +kernel
theorem dX8_copyFrom_64 : decode cX8_copyFrom 64 = .ok (.bipush 10, 2) := by decide +kernel
theorem dX8_copyFrom_66 : decode cX8_copyFrom 66 = .ok (.invokestatic 40, 3) := by decide +kernel
theorem dX8_copyFrom_69 : decode cX8_copyFrom 69 = .ok (.return_, 1) := by decide +kernel
theorem kl_RX8_9 : KLk RX8 9 8 0 := ⟨RX8, TX8, 6, rfl, by decide, Or.inl (kwm 418 (by decide +kernel) (by decide +kernel))⟩
theorem kl_RX8_15 : KLk RX8 15 8 1 := ⟨RX8, TX8, 6, rfl, by decide, Or.inl (kwm 420 (by decide +kernel) (by decide +kernel))⟩
theorem kl_RX8_18 : KLk RX8 18 8 2 := ⟨RX8, TX8, 6, rfl, by decide, Or.inl (kwm 422 (by decide +kernel) (by decide +kernel))⟩
theorem kl_RX8_21 : KLk RX8 21 8 3 := ⟨RX8, TX8, 6, rfl, by decide, Or.inl (kwm 424 (by decide +kernel) (by decide +kernel))⟩
theorem kc_RX8_40 : Cond.methodLink RX8 40 arraycopyName ∈ ktG ∧ Cond.native arraycopyName ∈ ktG ∧ Cond.static arraycopyName ∈ ktG ∧ Cond.initialized "java/lang/System" ∈ ktG := ⟨kwm 1024 (by decide +kernel) (by decide +kernel), kwm 1026 (by decide +kernel) (by decide +kernel), kwm 1025 (by decide +kernel) (by decide +kernel), kwm 143 (by decide +kernel) (by decide +kernel)⟩
theorem kl_RX8_25 : KLk RX8 25 8 4 := ⟨RX8, TX8, 6, rfl, by decide, Or.inl (kwm 428 (by decide +kernel) (by decide +kernel))⟩
theorem kl_RX8_28 : KLk RX8 28 8 5 := ⟨RX8, TX8, 6, rfl, by decide, Or.inl (kwm 432 (by decide +kernel) (by decide +kernel))⟩
def f_X8_copyFrom (h : KH) (v0 : Nat) (v1 : Nat) : Option (KH) :=
  if kkind v1 = 8 then if kkind v0 = 8 then kl (ksI h v0 0 (kI h v1 0)) fun h3 =>
  kl (ksI h3 v0 1 (kI h3 v1 1)) fun h6 =>
  kl (ksI h6 v0 2 (kI h6 v1 2)) fun h9 =>
  if (kR h9 v1 3) < 999999 then if (kR h9 v0 3) < 999999 then if kkind (kR h9 v1 3) = 20 then if kkind (kR h9 v0 3) = 20 then if (¬ (0 : Int32) < 0 ∧ ¬ (0 : Int32) < 0 ∧ ¬ (6 : Int32) < 0 ∧ (0 : Int32).toNatClampNeg + (6 : Int32).toNatClampNeg ≤ klen (kR h9 v1 3) ∧ (0 : Int32).toNatClampNeg + (6 : Int32).toNatClampNeg ≤ klen (kR h9 v0 3)) then kl (kcp h9 (kR h9 v1 3) 0 (kR h9 v0 3) 0 6) fun h17 =>
  if (kR h17 v1 4) < 999999 then if (kR h17 v0 4) < 999999 then if kkind (kR h17 v1 4) = 20 then if kkind (kR h17 v0 4) = 20 then if (¬ (0 : Int32) < 0 ∧ ¬ (0 : Int32) < 0 ∧ ¬ (6 : Int32) < 0 ∧ (0 : Int32).toNatClampNeg + (6 : Int32).toNatClampNeg ≤ klen (kR h17 v1 4) ∧ (0 : Int32).toNatClampNeg + (6 : Int32).toNatClampNeg ≤ klen (kR h17 v0 4)) then kl (kcp h17 (kR h17 v1 4) 0 (kR h17 v0 4) 0 6) fun h25 =>
  if (kR h25 v1 5) < 999999 then if (kR h25 v0 5) < 999999 then if kkind (kR h25 v1 5) = 20 then if kkind (kR h25 v0 5) = 20 then if (¬ (0 : Int32) < 0 ∧ ¬ (0 : Int32) < 0 ∧ ¬ (10 : Int32) < 0 ∧ (0 : Int32).toNatClampNeg + (10 : Int32).toNatClampNeg ≤ klen (kR h25 v1 5) ∧ (0 : Int32).toNatClampNeg + (10 : Int32).toNatClampNeg ≤ klen (kR h25 v0 5)) then kl (kcp h25 (kR h25 v1 5) 0 (kR h25 v0 5) 0 10) fun h33 =>
  some h33 else none else none else none else none else none else none else none else none else none else none else none else none else none else none else none else none else none
set_option maxHeartbeats 4000000 in
set_option maxRecDepth 100000 in
theorem s0_X8_copyFrom {Z : Nat → (Nat → Nat) → State → Prop} (h : KH) (v0 : Nat) (v1 : Nat) {t : KH} (hn : h.1 = 243) (H : f_X8_copyFrom h v0 v1 = some t) : KX Z RX8 cX8_copyFrom 2 false 2 (KRv cX8_copyFrom t) 0 [(0, .ref v0), (1, .ref v1)] [] h := by
  unfold f_X8_copyFrom at H
  refine x_aload_n (q := 1) dX8_copyFrom_0 rfl rfl ?_
  refine x_aload_n (q := 2) dX8_copyFrom_1 rfl rfl ?_
  replace H := kif H; obtain ⟨g1, H⟩ := H
  refine x_getI (q := 5) dX8_copyFrom_2 rfl kl_RX8_9 (Or.inl rfl) (k243 g1 (by decide) hn) ?_
  replace H := kif H; obtain ⟨g2, H⟩ := H
  replace H := kle H; obtain ⟨h3, q4, H⟩ := H
  refine x_putI (q := 8) dX8_copyFrom_5 rfl kl_RX8_9 (Or.inl rfl) rfl (k243 g2 (by decide) hn) ?_
  refine x_nmH q4 ?_
  have n5 : h3.1 = 243 := by rw [q4]; exact hn
  refine x_aload_n (q := 9) dX8_copyFrom_8 rfl rfl ?_
  refine x_aload_n (q := 10) dX8_copyFrom_9 rfl rfl ?_
  refine x_getI (q := 13) dX8_copyFrom_10 rfl kl_RX8_15 (Or.inl rfl) (k243 g1 (by decide) n5) ?_
  replace H := kle H; obtain ⟨h6, q7, H⟩ := H
  refine x_putI (q := 16) dX8_copyFrom_13 rfl kl_RX8_15 (Or.inl rfl) rfl (k243 g2 (by decide) n5) ?_
  refine x_nmH q7 ?_
  have n8 : h6.1 = 243 := by rw [q7]; exact n5
  refine x_aload_n (q := 17) dX8_copyFrom_16 rfl rfl ?_
  refine x_aload_n (q := 18) dX8_copyFrom_17 rfl rfl ?_
  refine x_getI (q := 21) dX8_copyFrom_18 rfl kl_RX8_18 (Or.inl rfl) (k243 g1 (by decide) n8) ?_
  replace H := kle H; obtain ⟨h9, q10, H⟩ := H
  refine x_putI (q := 24) dX8_copyFrom_21 rfl kl_RX8_18 (Or.inl rfl) rfl (k243 g2 (by decide) n8) ?_
  refine x_nmH q10 ?_
  have n11 : h9.1 = 243 := by rw [q10]; exact n8
  refine x_aload_n (q := 25) dX8_copyFrom_24 rfl rfl ?_
  replace H := kif H; obtain ⟨g12, H⟩ := H
  refine x_getR (q := 28) dX8_copyFrom_25 rfl kl_RX8_21 rfl (k243 g1 (by decide) n11) g12 ?_
  refine x_iconst (q := 29) (v := (0 : Int32)) dX8_copyFrom_28 rfl (by decide) ?_
  refine x_aload_n (q := 30) dX8_copyFrom_29 rfl rfl ?_
  replace H := kif H; obtain ⟨g13, H⟩ := H
  refine x_getR (q := 33) dX8_copyFrom_30 rfl kl_RX8_21 rfl (k243 g2 (by decide) n11) g13 ?_
  refine x_iconst (q := 34) (v := (0 : Int32)) dX8_copyFrom_33 rfl (by decide) ?_
  refine x_bipush (q := 36) (v := (6 : Int32)) dX8_copyFrom_34 rfl (by decide) ?_
  replace H := kif H; obtain ⟨g14, H⟩ := H
  replace H := kif H; obtain ⟨g15, H⟩ := H
  replace H := kif H; obtain ⟨g16, H⟩ := H
  replace H := kle H; obtain ⟨h17, q18, H⟩ := H
  refine x_copy (q := 39) dX8_copyFrom_36 rfl kc_RX8_40 (by decide) (Nat.le_of_ble_eq_true rfl) (k243 g14 (by decide) n11) (k243 g15 (by decide) n11) g16 ?_
  refine x_nmH q18 ?_
  have n19 : h17.1 = 243 := by rw [q18]; exact n11
  refine x_aload_n (q := 40) dX8_copyFrom_39 rfl rfl ?_
  replace H := kif H; obtain ⟨g20, H⟩ := H
  refine x_getR (q := 43) dX8_copyFrom_40 rfl kl_RX8_25 rfl (k243 g1 (by decide) n19) g20 ?_
  refine x_iconst (q := 44) (v := (0 : Int32)) dX8_copyFrom_43 rfl (by decide) ?_
  refine x_aload_n (q := 45) dX8_copyFrom_44 rfl rfl ?_
  replace H := kif H; obtain ⟨g21, H⟩ := H
  refine x_getR (q := 48) dX8_copyFrom_45 rfl kl_RX8_25 rfl (k243 g2 (by decide) n19) g21 ?_
  refine x_iconst (q := 49) (v := (0 : Int32)) dX8_copyFrom_48 rfl (by decide) ?_
  refine x_bipush (q := 51) (v := (6 : Int32)) dX8_copyFrom_49 rfl (by decide) ?_
  replace H := kif H; obtain ⟨g22, H⟩ := H
  replace H := kif H; obtain ⟨g23, H⟩ := H
  replace H := kif H; obtain ⟨g24, H⟩ := H
  replace H := kle H; obtain ⟨h25, q26, H⟩ := H
  refine x_copy (q := 54) dX8_copyFrom_51 rfl kc_RX8_40 (by decide) (Nat.le_of_ble_eq_true rfl) (k243 g22 (by decide) n19) (k243 g23 (by decide) n19) g24 ?_
  refine x_nmH q26 ?_
  have n27 : h25.1 = 243 := by rw [q26]; exact n19
  refine x_aload_n (q := 55) dX8_copyFrom_54 rfl rfl ?_
  replace H := kif H; obtain ⟨g28, H⟩ := H
  refine x_getR (q := 58) dX8_copyFrom_55 rfl kl_RX8_28 rfl (k243 g1 (by decide) n27) g28 ?_
  refine x_iconst (q := 59) (v := (0 : Int32)) dX8_copyFrom_58 rfl (by decide) ?_
  refine x_aload_n (q := 60) dX8_copyFrom_59 rfl rfl ?_
  replace H := kif H; obtain ⟨g29, H⟩ := H
  refine x_getR (q := 63) dX8_copyFrom_60 rfl kl_RX8_28 rfl (k243 g2 (by decide) n27) g29 ?_
  refine x_iconst (q := 64) (v := (0 : Int32)) dX8_copyFrom_63 rfl (by decide) ?_
  refine x_bipush (q := 66) (v := (10 : Int32)) dX8_copyFrom_64 rfl (by decide) ?_
  replace H := kif H; obtain ⟨g30, H⟩ := H
  replace H := kif H; obtain ⟨g31, H⟩ := H
  replace H := kif H; obtain ⟨g32, H⟩ := H
  replace H := kle H; obtain ⟨h33, q34, H⟩ := H
  refine x_copy (q := 69) dX8_copyFrom_66 rfl kc_RX8_40 (by decide) (Nat.le_of_ble_eq_true rfl) (k243 g30 (by decide) n27) (k243 g31 (by decide) n27) g32 ?_
  refine x_nmH q34 ?_
  have n35 : h33.1 = 243 := by rw [q34]; exact n27
  cases H
  exact x_end ⟨dX8_copyFrom_69, rfl, rfl⟩
theorem s_X8_copyFrom {Z : Nat → (Nat → Nat) → State → Prop} (h : KH) (v0 : Nat) (v1 : Nat) {t : KH} (hn : h.1 = 243) (H : f_X8_copyFrom h v0 v1 = some t) : KM Z yX8_copyFrom cX8_copyFrom 2 none 2 [.ref v0, .ref v1] h none t :=
  kx_v (own := RX8) (ini := false) (by decide +kernel) (by decide +kernel) rfl (Nat.le_of_ble_eq_true rfl) (s0_X8_copyFrom h v0 v1 hn H)
theorem dX5_keep_0 : decode cX5_keep 0 = .ok (.aload_n 0, 1) := by decide +kernel
theorem dX5_keep_1 : decode cX5_keep 1 = .ok (.getfield 11, 3) := by decide +kernel
theorem dX5_keep_4 : decode cX5_keep 4 = .ok (.aload_n 0, 1) := by decide +kernel
theorem dX5_keep_5 : decode cX5_keep 5 = .ok (.getfield 21, 3) := by decide +kernel
theorem dX5_keep_8 : decode cX5_keep 8 = .ok (.aaload, 1) := by decide +kernel
theorem dX5_keep_9 : decode cX5_keep 9 = .ok (.aload_n 1, 1) := by decide +kernel
theorem dX5_keep_10 : decode cX5_keep 10 = .ok (.invokevirtual 29, 3) := by decide +kernel
theorem dX5_keep_13 : decode cX5_keep 13 = .ok (.aload_n 0, 1) := by decide +kernel
theorem dX5_keep_14 : decode cX5_keep 14 = .ok (.aload_n 0, 1) := by decide +kernel
theorem dX5_keep_15 : decode cX5_keep 15 = .ok (.getfield 21, 3) := by decide +kernel
theorem dX5_keep_18 : decode cX5_keep 18 = .ok (.iconst 1, 1) := by decide +kernel
theorem dX5_keep_19 : decode cX5_keep 19 = .ok (.iadd, 1) := by decide +kernel
theorem dX5_keep_20 : decode cX5_keep 20 = .ok (.bipush 20, 2) := by decide +kernel
theorem dX5_keep_22 : decode cX5_keep 22 = .ok (.irem, 1) := by decide +kernel
theorem dX5_keep_23 : decode cX5_keep 23 = .ok (.putfield 21, 3) := by decide +kernel
theorem dX5_keep_26 : decode cX5_keep 26 = .ok (.aload_n 0, 1) := by decide +kernel
theorem dX5_keep_27 : decode cX5_keep 27 = .ok (.bipush 20, 2) := by decide +kernel
theorem dX5_keep_29 : decode cX5_keep 29 = .ok (.aload_n 0, 1) := by decide +kernel
theorem dX5_keep_30 : decode cX5_keep 30 = .ok (.getfield 25, 3) := by decide +kernel
theorem dX5_keep_33 : decode cX5_keep 33 = .ok (.iconst 1, 1) := by decide +kernel
theorem dX5_keep_34 : decode cX5_keep 34 = .ok (.iadd, 1) := by decide +kernel
theorem dX5_keep_35 : decode cX5_keep 35 = .ok (.invokestatic 33, 3) := by decide +kernel
theorem dX5_keep_38 : decode cX5_keep 38 = .ok (.putfield 25, 3) := by decide +kernel
theorem dX5_keep_41 : decode cX5_keep 41 = .ok (.return_, 1) := by decide +kernel
theorem kl_RX5_11 : KLk RX5 11 5 0 := ⟨RX5, TX5, 4, rfl, by decide, Or.inl (kwm 457 (by decide +kernel) (by decide +kernel))⟩
theorem kl_RX5_21 : KLk RX5 21 5 2 := ⟨RX5, TX5, 4, rfl, by decide, Or.inl (kwm 459 (by decide +kernel) (by decide +kernel))⟩
theorem kc_RX5_29 : Cond.methodLink RX5 29 yX8_copyFrom ∈ ktG ∧ (Cond.instanceMethod yX8_copyFrom ∈ ktG ∧ Cond.selects yX8_copyFrom.cls yX8_copyFrom yX8_copyFrom ∈ ktG) ∧ Cond.initialized yX8_copyFrom.cls ∈ ktG ∧ Cond.code yX8_copyFrom cX8_copyFrom 2 none ∈ ktG := ⟨(kwm 1071 (by decide +kernel) (by decide +kernel)), ⟨(kwm 1021 (by decide +kernel) (by decide +kernel)), (kwm 1022 (by decide +kernel) (by decide +kernel))⟩, (kwm 135 (by decide +kernel) (by decide +kernel)), kwm 1023 (by decide +kernel) (by decide +kernel)⟩
theorem kh_X8_copyFrom : yX8_copyFrom.cls ≠ "java/lang/invoke/MethodHandle" ∧ yX8_copyFrom.cls ≠ "java/lang/invoke/VarHandle" ∧ (parseMethodDescriptor yX8_copyFrom.desc).map (fun d => d.parameters.length) = some 1 := by decide +kernel
theorem kl_RX5_25 : KLk RX5 25 5 3 := ⟨RX5, TX5, 4, rfl, by decide, Or.inl (kwm 460 (by decide +kernel) (by decide +kernel))⟩
theorem kc_RX5_33 : Cond.methodLink RX5 33 yJ9_min_7cf53 ∈ ktG ∧ Cond.static yJ9_min_7cf53 ∈ ktG ∧ Cond.initialized yJ9_min_7cf53.cls ∈ ktG ∧ Cond.code yJ9_min_7cf53 cJ9_min_7cf53 2 (some .int) ∈ ktG := ⟨(kwm 1072 (by decide +kernel) (by decide +kernel)), (kwm 810 (by decide +kernel) (by decide +kernel)), (kwm 142 (by decide +kernel) (by decide +kernel)), kwm 811 (by decide +kernel) (by decide +kernel)⟩
def f_X5_keep (h : KH) (v0 : Nat) (v1 : Nat) : Option (KH) :=
  if kkind v0 = 5 then if (kR h v0 0) < 999999 then if kkind (kR h v0 0) = 25 then if ((kI h v0 2) < 0 ∨ klen (kR h v0 0) ≤ ((kI h v0 2)).toNatClampNeg) then none else if (kR h (kR h v0 0) (((kI h v0 2)).toNatClampNeg)) < 999999 then if kkind (kR h (kR h v0 0) (((kI h v0 2)).toNatClampNeg)) = 8 then kb (f_X8_copyFrom h (kR h (kR h v0 0) (((kI h v0 2)).toNatClampNeg)) v1) fun r7 =>
  kl (ksI r7 v0 2 (((kI r7 v0 2) + (1 : Int32)) - ((kI r7 v0 2) + (1 : Int32)) / (20 : Int32) * (20 : Int32))) fun h11 =>
  kb (f_J9_min_7cf53 h11 (20 : Int32) ((kI h11 v0 3) + (1 : Int32))) fun r14 =>
  kl (ksI h11 v0 3 r14) fun h17 =>
  some h17 else none else none else none else none else none
set_option maxHeartbeats 4000000 in
set_option maxRecDepth 100000 in
theorem s0_X5_keep {Z : Nat → (Nat → Nat) → State → Prop} (h : KH) (v0 : Nat) (v1 : Nat) {t : KH} (hn : h.1 = 243) (H : f_X5_keep h v0 v1 = some t) : KX Z RX5 cX5_keep 2 false 3 (KRv cX5_keep t) 0 [(0, .ref v0), (1, .ref v1)] [] h := by
  unfold f_X5_keep at H
  refine x_aload_n (q := 1) dX5_keep_0 rfl rfl ?_
  replace H := kif H; obtain ⟨g1, H⟩ := H
  replace H := kif H; obtain ⟨g2, H⟩ := H
  refine x_getR (q := 4) dX5_keep_1 rfl kl_RX5_11 rfl (k243 g1 (by decide) hn) g2 ?_
  refine x_aload_n (q := 5) dX5_keep_4 rfl rfl ?_
  refine x_getI (q := 8) dX5_keep_5 rfl kl_RX5_21 (Or.inl rfl) (k243 g1 (by decide) hn) ?_
  replace H := kif H; obtain ⟨g3, H⟩ := H
  replace H := kifn H; obtain ⟨g4, H⟩ := H
  replace H := kif H; obtain ⟨g5, H⟩ := H
  refine x_aald (q := 9) dX5_keep_8 rfl (Or.inr rfl) (k243 g3 (by decide) hn) g4 g5 ?_
  refine x_aload_n (q := 10) dX5_keep_9 rfl rfl ?_
  replace H := kif H; obtain ⟨g6, H⟩ := H
  replace H := kbe H; obtain ⟨r7, c8, H⟩ := H
  have m9 := s_X8_copyFrom (Z := Z) h (kR h (kR h v0 0) (((kI h v0 2)).toNatClampNeg)) v1 hn c8
  refine x_callV (q := 13) (as := [.ref v1]) (rest := []) dX5_keep_10 rfl kc_RX5_29 kh_X8_copyFrom (by decide) (Nat.le_of_ble_eq_true rfl) m9 (ci := 8) (by exact ⟨rfl, by decide⟩) (k243 g6 (by decide) hn) ?_
  have n10 : (r7).1 = 243 := m9.1.full hn
  refine x_aload_n (q := 14) dX5_keep_13 rfl rfl ?_
  refine x_aload_n (q := 15) dX5_keep_14 rfl rfl ?_
  refine x_getI (q := 18) dX5_keep_15 rfl kl_RX5_21 (Or.inl rfl) (k243 g1 (by decide) n10) ?_
  refine x_iconst (q := 19) (v := (1 : Int32)) dX5_keep_18 rfl (by decide) ?_
  refine x_iadd (q := 20) dX5_keep_19 rfl ?_
  refine x_bipush (q := 22) (v := (20 : Int32)) dX5_keep_20 rfl (by decide) ?_
  refine x_irem (q := 23) dX5_keep_22 rfl (by decide) ?_
  replace H := kle H; obtain ⟨h11, q12, H⟩ := H
  refine x_putI (q := 26) dX5_keep_23 rfl kl_RX5_21 (Or.inl rfl) rfl (k243 g1 (by decide) n10) ?_
  refine x_nmH q12 ?_
  have n13 : h11.1 = 243 := by rw [q12]; exact n10
  refine x_aload_n (q := 27) dX5_keep_26 rfl rfl ?_
  refine x_bipush (q := 29) (v := (20 : Int32)) dX5_keep_27 rfl (by decide) ?_
  refine x_aload_n (q := 30) dX5_keep_29 rfl rfl ?_
  refine x_getI (q := 33) dX5_keep_30 rfl kl_RX5_25 (Or.inl rfl) (k243 g1 (by decide) n13) ?_
  refine x_iconst (q := 34) (v := (1 : Int32)) dX5_keep_33 rfl (by decide) ?_
  refine x_iadd (q := 35) dX5_keep_34 rfl ?_
  replace H := kbe H; obtain ⟨r14, c15, H⟩ := H
  have m16 := s_J9_min_7cf53 (Z := Z) h11 (20 : Int32) ((kI h11 v0 3) + (1 : Int32)) n13 c15
  refine x_callS (q := 38) (as := [.int (20 : Int32), .int ((kI h11 v0 3) + (1 : Int32))]) (rest := [.ref v0]) dX5_keep_35 rfl kc_RX5_33 kh_J9_min_7cf53 (by decide) (Nat.le_of_ble_eq_true rfl) m16 ?_
  replace H := kle H; obtain ⟨h17, q18, H⟩ := H
  refine x_putI (q := 41) dX5_keep_38 rfl kl_RX5_25 (Or.inl rfl) rfl (k243 g1 (by decide) n13) ?_
  refine x_nmH q18 ?_
  have n19 : h17.1 = 243 := by rw [q18]; exact n13
  cases H
  exact x_end ⟨dX5_keep_41, rfl, rfl⟩
theorem s_X5_keep {Z : Nat → (Nat → Nat) → State → Prop} (h : KH) (v0 : Nat) (v1 : Nat) {t : KH} (hn : h.1 = 243) (H : f_X5_keep h v0 v1 = some t) : KM Z yX5_keep cX5_keep 2 none 3 [.ref v0, .ref v1] h none t :=
  kx_v (own := RX5) (ini := false) (by decide +kernel) (by decide +kernel) rfl (Nat.le_of_ble_eq_true rfl) (s0_X5_keep h v0 v1 hn H)
theorem dX5_giveBack_0 : decode cX5_giveBack 0 = .ok (.aload_n 0, 1) := by decide +kernel
theorem dX5_giveBack_1 : decode cX5_giveBack 1 = .ok (.aload_n 0, 1) := by decide +kernel
theorem dX5_giveBack_2 : decode cX5_giveBack 2 = .ok (.getfield 21, 3) := by decide +kernel
theorem dX5_giveBack_5 : decode cX5_giveBack 5 = .ok (.bipush 20, 2) := by decide +kernel
theorem dX5_giveBack_7 : decode cX5_giveBack 7 = .ok (.iadd, 1) := by decide +kernel
theorem dX5_giveBack_8 : decode cX5_giveBack 8 = .ok (.iconst 1, 1) := by decide +kernel
theorem dX5_giveBack_9 : decode cX5_giveBack 9 = .ok (.isub, 1) := by decide +kernel
theorem dX5_giveBack_10 : decode cX5_giveBack 10 = .ok (.bipush 20, 2) := by decide +kernel
theorem dX5_giveBack_12 : decode cX5_giveBack 12 = .ok (.irem, 1) := by decide +kernel
theorem dX5_giveBack_13 : decode cX5_giveBack 13 = .ok (.putfield 21, 3) := by decide +kernel
theorem dX5_giveBack_16 : decode cX5_giveBack 16 = .ok (.aload_n 0, 1) := by decide +kernel
theorem dX5_giveBack_17 : decode cX5_giveBack 17 = .ok (.dup, 1) := by decide +kernel
theorem dX5_giveBack_18 : decode cX5_giveBack 18 = .ok (.getfield 25, 3) := by decide +kernel
theorem dX5_giveBack_21 : decode cX5_giveBack 21 = .ok (.iconst 1, 1) := by decide +kernel
theorem dX5_giveBack_22 : decode cX5_giveBack 22 = .ok (.isub, 1) := by decide +kernel
theorem dX5_giveBack_23 : decode cX5_giveBack 23 = .ok (.putfield 25, 3) := by decide +kernel
theorem dX5_giveBack_26 : decode cX5_giveBack 26 = .ok (.aload_n 1, 1) := by decide +kernel
theorem dX5_giveBack_27 : decode cX5_giveBack 27 = .ok (.aload_n 0, 1) := by decide +kernel
theorem dX5_giveBack_28 : decode cX5_giveBack 28 = .ok (.getfield 11, 3) := by decide +kernel
theorem dX5_giveBack_31 : decode cX5_giveBack 31 = .ok (.aload_n 0, 1) := by decide +kernel
theorem dX5_giveBack_32 : decode cX5_giveBack 32 = .ok (.getfield 21, 3) := by decide +kernel
theorem dX5_giveBack_35 : decode cX5_giveBack 35 = .ok (.aaload, 1) := by decide +kernel
theorem dX5_giveBack_36 : decode cX5_giveBack 36 = .ok (.invokevirtual 29, 3) := by decide +kernel
theorem dX5_giveBack_39 : decode cX5_giveBack 39 = .ok (.return_, 1) := by decide +kernel
def f_X5_giveBack (h : KH) (v0 : Nat) (v1 : Nat) : Option (KH) :=
  if kkind v0 = 5 then kl (ksI h v0 2 ((((kI h v0 2) + (20 : Int32)) - (1 : Int32)) - (((kI h v0 2) + (20 : Int32)) - (1 : Int32)) / (20 : Int32) * (20 : Int32))) fun h2 =>
  kl (ksI h2 v0 3 ((kI h2 v0 3) - (1 : Int32))) fun h5 =>
  if (kR h5 v0 0) < 999999 then if kkind (kR h5 v0 0) = 25 then if ((kI h5 v0 2) < 0 ∨ klen (kR h5 v0 0) ≤ ((kI h5 v0 2)).toNatClampNeg) then none else if (kR h5 (kR h5 v0 0) (((kI h5 v0 2)).toNatClampNeg)) < 999999 then if kkind v1 = 8 then kb (f_X8_copyFrom h5 v1 (kR h5 (kR h5 v0 0) (((kI h5 v0 2)).toNatClampNeg))) fun r13 =>
  some r13 else none else none else none else none else none
set_option maxHeartbeats 4000000 in
set_option maxRecDepth 100000 in
theorem s0_X5_giveBack {Z : Nat → (Nat → Nat) → State → Prop} (h : KH) (v0 : Nat) (v1 : Nat) {t : KH} (hn : h.1 = 243) (H : f_X5_giveBack h v0 v1 = some t) : KX Z RX5 cX5_giveBack 2 false 3 (KRv cX5_giveBack t) 0 [(0, .ref v0), (1, .ref v1)] [] h := by
  unfold f_X5_giveBack at H
  refine x_aload_n (q := 1) dX5_giveBack_0 rfl rfl ?_
  refine x_aload_n (q := 2) dX5_giveBack_1 rfl rfl ?_
  replace H := kif H; obtain ⟨g1, H⟩ := H
  refine x_getI (q := 5) dX5_giveBack_2 rfl kl_RX5_21 (Or.inl rfl) (k243 g1 (by decide) hn) ?_
  refine x_bipush (q := 7) (v := (20 : Int32)) dX5_giveBack_5 rfl (by decide) ?_
  refine x_iadd (q := 8) dX5_giveBack_7 rfl ?_
  refine x_iconst (q := 9) (v := (1 : Int32)) dX5_giveBack_8 rfl (by decide) ?_
  refine x_isub (q := 10) dX5_giveBack_9 rfl ?_
  refine x_bipush (q := 12) (v := (20 : Int32)) dX5_giveBack_10 rfl (by decide) ?_
  refine x_irem (q := 13) dX5_giveBack_12 rfl (by decide) ?_
  replace H := kle H; obtain ⟨h2, q3, H⟩ := H
  refine x_putI (q := 16) dX5_giveBack_13 rfl kl_RX5_21 (Or.inl rfl) rfl (k243 g1 (by decide) hn) ?_
  refine x_nmH q3 ?_
  have n4 : h2.1 = 243 := by rw [q3]; exact hn
  refine x_aload_n (q := 17) dX5_giveBack_16 rfl rfl ?_
  refine x_dup (q := 18) dX5_giveBack_17 rfl rfl ?_
  refine x_getI (q := 21) dX5_giveBack_18 rfl kl_RX5_25 (Or.inl rfl) (k243 g1 (by decide) n4) ?_
  refine x_iconst (q := 22) (v := (1 : Int32)) dX5_giveBack_21 rfl (by decide) ?_
  refine x_isub (q := 23) dX5_giveBack_22 rfl ?_
  replace H := kle H; obtain ⟨h5, q6, H⟩ := H
  refine x_putI (q := 26) dX5_giveBack_23 rfl kl_RX5_25 (Or.inl rfl) rfl (k243 g1 (by decide) n4) ?_
  refine x_nmH q6 ?_
  have n7 : h5.1 = 243 := by rw [q6]; exact n4
  refine x_aload_n (q := 27) dX5_giveBack_26 rfl rfl ?_
  refine x_aload_n (q := 28) dX5_giveBack_27 rfl rfl ?_
  replace H := kif H; obtain ⟨g8, H⟩ := H
  refine x_getR (q := 31) dX5_giveBack_28 rfl kl_RX5_11 rfl (k243 g1 (by decide) n7) g8 ?_
  refine x_aload_n (q := 32) dX5_giveBack_31 rfl rfl ?_
  refine x_getI (q := 35) dX5_giveBack_32 rfl kl_RX5_21 (Or.inl rfl) (k243 g1 (by decide) n7) ?_
  replace H := kif H; obtain ⟨g9, H⟩ := H
  replace H := kifn H; obtain ⟨g10, H⟩ := H
  replace H := kif H; obtain ⟨g11, H⟩ := H
  refine x_aald (q := 36) dX5_giveBack_35 rfl (Or.inr rfl) (k243 g9 (by decide) n7) g10 g11 ?_
  replace H := kif H; obtain ⟨g12, H⟩ := H
  replace H := kbe H; obtain ⟨r13, c14, H⟩ := H
  have m15 := s_X8_copyFrom (Z := Z) h5 v1 (kR h5 (kR h5 v0 0) (((kI h5 v0 2)).toNatClampNeg)) n7 c14
  refine x_callV (q := 39) (as := [.ref (kR h5 (kR h5 v0 0) (((kI h5 v0 2)).toNatClampNeg))]) (rest := []) dX5_giveBack_36 rfl kc_RX5_29 kh_X8_copyFrom (by decide) (Nat.le_of_ble_eq_true rfl) m15 (ci := 8) (by exact ⟨rfl, by decide⟩) (k243 g12 (by decide) n7) ?_
  have n16 : (r13).1 = 243 := m15.1.full n7
  cases H
  exact x_end ⟨dX5_giveBack_39, rfl, rfl⟩
theorem s_X5_giveBack {Z : Nat → (Nat → Nat) → State → Prop} (h : KH) (v0 : Nat) (v1 : Nat) {t : KH} (hn : h.1 = 243) (H : f_X5_giveBack h v0 v1 = some t) : KM Z yX5_giveBack cX5_giveBack 2 none 3 [.ref v0, .ref v1] h none t :=
  kx_v (own := RX5) (ini := false) (by decide +kernel) (by decide +kernel) rfl (Nat.le_of_ble_eq_true rfl) (s0_X5_giveBack h v0 v1 hn H)
theorem dJ9_floorMod_7cf53_0 : decode cJ9_floorMod_7cf53 0 = .ok (.iload_n 0, 1) := by decide +kernel
theorem dJ9_floorMod_7cf53_1 : decode cJ9_floorMod_7cf53 1 = .ok (.iload_n 1, 1) := by decide +kernel
theorem dJ9_floorMod_7cf53_2 : decode cJ9_floorMod_7cf53 2 = .ok (.irem, 1) := by decide +kernel
theorem dJ9_floorMod_7cf53_3 : decode cJ9_floorMod_7cf53 3 = .ok (.istore_n 2, 1) := by decide +kernel
theorem dJ9_floorMod_7cf53_4 : decode cJ9_floorMod_7cf53 4 = .ok (.iload_n 0, 1) := by decide +kernel
theorem dJ9_floorMod_7cf53_5 : decode cJ9_floorMod_7cf53 5 = .ok (.iload_n 1, 1) := by decide +kernel
theorem dJ9_floorMod_7cf53_6 : decode cJ9_floorMod_7cf53 6 = .ok (.ixor, 1) := by decide +kernel
theorem dJ9_floorMod_7cf53_7 : decode cJ9_floorMod_7cf53 7 = .ok (.ifCond .ge 11, 3) := by decide +kernel
theorem dJ9_floorMod_7cf53_10 : decode cJ9_floorMod_7cf53 10 = .ok (.iload_n 2, 1) := by decide +kernel
theorem dJ9_floorMod_7cf53_11 : decode cJ9_floorMod_7cf53 11 = .ok (.ifCond .eq 7, 3) := by decide +kernel
theorem dJ9_floorMod_7cf53_14 : decode cJ9_floorMod_7cf53 14 = .ok (.iload_n 2, 1) := by decide +kernel
theorem dJ9_floorMod_7cf53_15 : decode cJ9_floorMod_7cf53 15 = .ok (.iload_n 1, 1) := by decide +kernel
theorem dJ9_floorMod_7cf53_16 : decode cJ9_floorMod_7cf53 16 = .ok (.iadd, 1) := by decide +kernel
theorem dJ9_floorMod_7cf53_17 : decode cJ9_floorMod_7cf53 17 = .ok (.ireturn, 1) := by decide +kernel
theorem dJ9_floorMod_7cf53_18 : decode cJ9_floorMod_7cf53 18 = .ok (.iload_n 2, 1) := by decide +kernel
theorem dJ9_floorMod_7cf53_19 : decode cJ9_floorMod_7cf53 19 = .ok (.ireturn, 1) := by decide +kernel
def f_J9_floorMod_7cf53 (h : KH) (v0 : Int32) (v1 : Int32) : Option (Int32) :=
  if v1 = 0 then none else kl (v0 - v0 / v1 * v1) fun x2 =>
  if 0 ≤ (v0 ^^^ v1) then
  some x2
  else
  if x2 = 0 then
  some x2
  else
  some (x2 + v1)
set_option maxHeartbeats 4000000 in
set_option maxRecDepth 100000 in
theorem s0_J9_floorMod_7cf53 {Z : Nat → (Nat → Nat) → State → Prop} (h : KH) (v0 : Int32) (v1 : Int32) {t : Int32} (hn : h.1 = 243) (H : f_J9_floorMod_7cf53 h v0 v1 = some t) : KX Z RJ9 cJ9_floorMod_7cf53 3 false 1 (KRi cJ9_floorMod_7cf53 t h) 0 [(0, .int v0), (1, .int v1)] [] h := by
  unfold f_J9_floorMod_7cf53 at H
  refine x_iload_n (q := 1) dJ9_floorMod_7cf53_0 rfl rfl ?_
  refine x_iload_n (q := 2) dJ9_floorMod_7cf53_1 rfl rfl ?_
  replace H := kifn H; obtain ⟨g1, H⟩ := H
  refine x_irem (q := 3) dJ9_floorMod_7cf53_2 rfl g1 ?_
  replace H := kle H; obtain ⟨x2, q3, H⟩ := H
  refine x_nmI q3 ?_
  refine x_istore_n (q := 4) (i := 2) (ls2 := [(2, .int x2), (0, .int v0), (1, .int v1)]) dJ9_floorMod_7cf53_3 rfl rfl (by decide) rfl ?_
  refine x_iload_n (q := 5) dJ9_floorMod_7cf53_4 rfl rfl ?_
  refine x_iload_n (q := 6) dJ9_floorMod_7cf53_5 rfl rfl ?_
  refine x_ixor (q := 7) dJ9_floorMod_7cf53_6 rfl ?_
  replace H := kite H; rcases H with ⟨g4, H⟩ | ⟨g4, H⟩
  · refine x_if_ge_t dJ9_floorMod_7cf53_7 (q := 18) (by decide) g4 ?_
    refine x_iload_n (q := 19) dJ9_floorMod_7cf53_18 rfl rfl ?_
    cases H
    exact x_end ⟨dJ9_floorMod_7cf53_19, rfl, rfl⟩
  · refine x_if_ge_f (q := 10) dJ9_floorMod_7cf53_7 (t := 18) (by decide) rfl g4 ?_
    refine x_iload_n (q := 11) dJ9_floorMod_7cf53_10 rfl rfl ?_
    replace H := kite H; rcases H with ⟨g5, H⟩ | ⟨g5, H⟩
    · refine x_if_eq_t dJ9_floorMod_7cf53_11 (q := 18) (by decide) g5 ?_
      refine x_iload_n (q := 19) dJ9_floorMod_7cf53_18 rfl rfl ?_
      cases H
      exact x_end ⟨dJ9_floorMod_7cf53_19, rfl, rfl⟩
    · refine x_if_eq_f (q := 14) dJ9_floorMod_7cf53_11 (t := 18) (by decide) rfl g5 ?_
      refine x_iload_n (q := 15) dJ9_floorMod_7cf53_14 rfl rfl ?_
      refine x_iload_n (q := 16) dJ9_floorMod_7cf53_15 rfl rfl ?_
      refine x_iadd (q := 17) dJ9_floorMod_7cf53_16 rfl ?_
      cases H
      exact x_end ⟨dJ9_floorMod_7cf53_17, rfl, rfl⟩
theorem s_J9_floorMod_7cf53 {Z : Nat → (Nat → Nat) → State → Prop} (h : KH) (v0 : Int32) (v1 : Int32) {t : Int32} (hn : h.1 = 243) (H : f_J9_floorMod_7cf53 h v0 v1 = some t) : KM Z yJ9_floorMod_7cf53 cJ9_floorMod_7cf53 3 (some .int) 1 [.int v0, .int v1] h (some (.int t)) h :=
  kx_i (own := RJ9) (ini := false) (by decide +kernel) (by decide +kernel) rfl (Nat.le_of_ble_eq_true rfl) (s0_J9_floorMod_7cf53 h v0 v1 hn H)
theorem dX5_put_0 : decode cX5_put 0 = .ok (.iconst 4, 1) := by decide +kernel
theorem dX5_put_1 : decode cX5_put 1 = .ok (.iload_n 1, 1) := by decide +kernel
theorem dX5_put_2 : decode cX5_put 2 = .ok (.sipush 1024, 3) := by decide +kernel
theorem dX5_put_5 : decode cX5_put 5 = .ok (.invokestatic 39, 3) := by decide +kernel
theorem dX5_put_8 : decode cX5_put 8 = .ok (.imul, 1) := by decide +kernel
theorem dX5_put_9 : decode cX5_put 9 = .ok (.istore 6, 2) := by decide +kernel
theorem dX5_put_11 : decode cX5_put 11 = .ok (.aload_n 0, 1) := by decide +kernel
theorem dX5_put_12 : decode cX5_put 12 = .ok (.getfield 17, 3) := by decide +kernel
theorem dX5_put_15 : decode cX5_put 15 = .ok (.iload 6, 2) := by decide +kernel
theorem dX5_put_17 : decode cX5_put 17 = .ok (.iload_n 2, 1) := by decide +kernel
theorem dX5_put_18 : decode cX5_put 18 = .ok (.iastore, 1) := by decide +kernel
theorem dX5_put_19 : decode cX5_put 19 = .ok (.aload_n 0, 1) := by decide +kernel
theorem dX5_put_20 : decode cX5_put 20 = .ok (.getfield 17, 3) := by decide +kernel
theorem dX5_put_23 : decode cX5_put 23 = .ok (.iload 6, 2) := by decide +kernel
theorem dX5_put_25 : decode cX5_put 25 = .ok (.iconst 1, 1) := by decide +kernel
theorem dX5_put_26 : decode cX5_put 26 = .ok (.iadd, 1) := by decide +kernel
theorem dX5_put_27 : decode cX5_put 27 = .ok (.iload_n 3, 1) := by decide +kernel
theorem dX5_put_28 : decode cX5_put 28 = .ok (.iastore, 1) := by decide +kernel
theorem dX5_put_29 : decode cX5_put 29 = .ok (.aload_n 0, 1) := by decide +kernel
theorem dX5_put_30 : decode cX5_put 30 = .ok (.getfield 17, 3) := by decide +kernel
theorem dX5_put_33 : decode cX5_put 33 = .ok (.iload 6, 2) := by decide +kernel
theorem dX5_put_35 : decode cX5_put 35 = .ok (.iconst 2, 1) := by decide +kernel
theorem dX5_put_36 : decode cX5_put 36 = .ok (.iadd, 1) := by decide +kernel
theorem dX5_put_37 : decode cX5_put 37 = .ok (.iload 4, 2) := by decide +kernel
theorem dX5_put_39 : decode cX5_put 39 = .ok (.iastore, 1) := by decide +kernel
theorem dX5_put_40 : decode cX5_put 40 = .ok (.aload_n 0, 1) := by decide +kernel
theorem dX5_put_41 : decode cX5_put 41 = .ok (.getfield 17, 3) := by decide +kernel
theorem dX5_put_44 : decode cX5_put 44 = .ok (.iload 6, 2) := by decide +kernel
theorem dX5_put_46 : decode cX5_put 46 = .ok (.iconst 3, 1) := by decide +kernel
theorem dX5_put_47 : decode cX5_put 47 = .ok (.iadd, 1) := by decide +kernel
theorem dX5_put_48 : decode cX5_put 48 = .ok (.iload 5, 2) := by decide +kernel
theorem dX5_put_50 : decode cX5_put 50 = .ok (.iastore, 1) := by decide +kernel
theorem dX5_put_51 : decode cX5_put 51 = .ok (.return_, 1) := by decide +kernel
theorem kc_RX5_39 : Cond.methodLink RX5 39 yJ9_floorMod_7cf53 ∈ ktG ∧ Cond.static yJ9_floorMod_7cf53 ∈ ktG ∧ Cond.initialized yJ9_floorMod_7cf53.cls ∈ ktG ∧ Cond.code yJ9_floorMod_7cf53 cJ9_floorMod_7cf53 3 (some .int) ∈ ktG := ⟨(kwm 891 (by decide +kernel) (by decide +kernel)), (kwm 892 (by decide +kernel) (by decide +kernel)), (kwm 142 (by decide +kernel) (by decide +kernel)), kwm 893 (by decide +kernel) (by decide +kernel)⟩
theorem kh_J9_floorMod_7cf53 : yJ9_floorMod_7cf53.cls ≠ "java/lang/invoke/MethodHandle" ∧ yJ9_floorMod_7cf53.cls ≠ "java/lang/invoke/VarHandle" ∧ (parseMethodDescriptor yJ9_floorMod_7cf53.desc).map (fun d => d.parameters.length) = some 2 := by decide +kernel
theorem kl_RX5_17 : KLk RX5 17 5 1 := ⟨RX5, TX5, 4, rfl, by decide, Or.inl (kwm 458 (by decide +kernel) (by decide +kernel))⟩
def f_X5_put (h : KH) (v0 : Nat) (v1 : Int32) (v2 : Int32) (v3 : Int32) (v4 : Int32) (v5 : Int32) : Option (KH) :=
  kb (f_J9_floorMod_7cf53 h v1 (1024 : Int32)) fun r1 =>
  kl ((4 : Int32) * r1) fun x4 =>
  if kkind v0 = 5 then if (kR h v0 1) < 999999 then if kkind (kR h v0 1) = 20 then if (x4 < 0 ∨ klen (kR h v0 1) ≤ (x4).toNatClampNeg) then none else kl (ksI h (kR h v0 1) ((x4).toNatClampNeg) v2) fun h10 =>
  if (kR h10 v0 1) < 999999 then if kkind (kR h10 v0 1) = 20 then if ((x4 + (1 : Int32)) < 0 ∨ klen (kR h10 v0 1) ≤ ((x4 + (1 : Int32))).toNatClampNeg) then none else kl (ksI h10 (kR h10 v0 1) (((x4 + (1 : Int32))).toNatClampNeg) v3) fun h16 =>
  if (kR h16 v0 1) < 999999 then if kkind (kR h16 v0 1) = 20 then if ((x4 + (2 : Int32)) < 0 ∨ klen (kR h16 v0 1) ≤ ((x4 + (2 : Int32))).toNatClampNeg) then none else kl (ksI h16 (kR h16 v0 1) (((x4 + (2 : Int32))).toNatClampNeg) v4) fun h22 =>
  if (kR h22 v0 1) < 999999 then if kkind (kR h22 v0 1) = 20 then if ((x4 + (3 : Int32)) < 0 ∨ klen (kR h22 v0 1) ≤ ((x4 + (3 : Int32))).toNatClampNeg) then none else kl (ksI h22 (kR h22 v0 1) (((x4 + (3 : Int32))).toNatClampNeg) v5) fun h28 =>
  some h28 else none else none else none else none else none else none else none else none else none
set_option maxHeartbeats 4000000 in
set_option maxRecDepth 100000 in
theorem s0_X5_put {Z : Nat → (Nat → Nat) → State → Prop} (h : KH) (v0 : Nat) (v1 : Int32) (v2 : Int32) (v3 : Int32) (v4 : Int32) (v5 : Int32) {t : KH} (hn : h.1 = 243) (H : f_X5_put h v0 v1 v2 v3 v4 v5 = some t) : KX Z RX5 cX5_put 7 false 2 (KRv cX5_put t) 0 [(0, .ref v0), (1, .int v1), (2, .int v2), (3, .int v3), (4, .int v4), (5, .int v5)] [] h := by
  unfold f_X5_put at H
  refine x_iconst (q := 1) (v := (4 : Int32)) dX5_put_0 rfl (by decide) ?_
  refine x_iload_n (q := 2) dX5_put_1 rfl rfl ?_
  refine x_sipush (q := 5) (v := (1024 : Int32)) dX5_put_2 rfl (by decide) ?_
  replace H := kbe H; obtain ⟨r1, c2, H⟩ := H
  have m3 := s_J9_floorMod_7cf53 (Z := Z) h v1 (1024 : Int32) hn c2
  refine x_callS (q := 8) (as := [.int v1, .int (1024 : Int32)]) (rest := [.int (4 : Int32)]) dX5_put_5 rfl kc_RX5_39 kh_J9_floorMod_7cf53 (by decide) (Nat.le_of_ble_eq_true rfl) m3 ?_
  refine x_imul (q := 9) dX5_put_8 rfl ?_
  replace H := kle H; obtain ⟨x4, q5, H⟩ := H
  refine x_nmI q5 ?_
  refine x_istore (q := 11) (i := 6) (ls2 := [(6, .int x4), (0, .ref v0), (1, .int v1), (2, .int v2), (3, .int v3), (4, .int v4), (5, .int v5)]) dX5_put_9 rfl (by decide) rfl ?_
  refine x_aload_n (q := 12) dX5_put_11 rfl rfl ?_
  replace H := kif H; obtain ⟨g6, H⟩ := H
  replace H := kif H; obtain ⟨g7, H⟩ := H
  refine x_getR (q := 15) dX5_put_12 rfl kl_RX5_17 rfl (k243 g6 (by decide) hn) g7 ?_
  refine x_iload (q := 17) dX5_put_15 rfl rfl ?_
  refine x_iload_n (q := 18) dX5_put_17 rfl rfl ?_
  replace H := kif H; obtain ⟨g8, H⟩ := H
  replace H := kifn H; obtain ⟨g9, H⟩ := H
  replace H := kle H; obtain ⟨h10, q11, H⟩ := H
  refine x_iast (q := 19) dX5_put_18 rfl (k243 g8 (by decide) hn) g9 ?_
  refine x_nmH q11 ?_
  have n12 : h10.1 = 243 := by rw [q11]; exact hn
  refine x_aload_n (q := 20) dX5_put_19 rfl rfl ?_
  replace H := kif H; obtain ⟨g13, H⟩ := H
  refine x_getR (q := 23) dX5_put_20 rfl kl_RX5_17 rfl (k243 g6 (by decide) n12) g13 ?_
  refine x_iload (q := 25) dX5_put_23 rfl rfl ?_
  refine x_iconst (q := 26) (v := (1 : Int32)) dX5_put_25 rfl (by decide) ?_
  refine x_iadd (q := 27) dX5_put_26 rfl ?_
  refine x_iload_n (q := 28) dX5_put_27 rfl rfl ?_
  replace H := kif H; obtain ⟨g14, H⟩ := H
  replace H := kifn H; obtain ⟨g15, H⟩ := H
  replace H := kle H; obtain ⟨h16, q17, H⟩ := H
  refine x_iast (q := 29) dX5_put_28 rfl (k243 g14 (by decide) n12) g15 ?_
  refine x_nmH q17 ?_
  have n18 : h16.1 = 243 := by rw [q17]; exact n12
  refine x_aload_n (q := 30) dX5_put_29 rfl rfl ?_
  replace H := kif H; obtain ⟨g19, H⟩ := H
  refine x_getR (q := 33) dX5_put_30 rfl kl_RX5_17 rfl (k243 g6 (by decide) n18) g19 ?_
  refine x_iload (q := 35) dX5_put_33 rfl rfl ?_
  refine x_iconst (q := 36) (v := (2 : Int32)) dX5_put_35 rfl (by decide) ?_
  refine x_iadd (q := 37) dX5_put_36 rfl ?_
  refine x_iload (q := 39) dX5_put_37 rfl rfl ?_
  replace H := kif H; obtain ⟨g20, H⟩ := H
  replace H := kifn H; obtain ⟨g21, H⟩ := H
  replace H := kle H; obtain ⟨h22, q23, H⟩ := H
  refine x_iast (q := 40) dX5_put_39 rfl (k243 g20 (by decide) n18) g21 ?_
  refine x_nmH q23 ?_
  have n24 : h22.1 = 243 := by rw [q23]; exact n18
  refine x_aload_n (q := 41) dX5_put_40 rfl rfl ?_
  replace H := kif H; obtain ⟨g25, H⟩ := H
  refine x_getR (q := 44) dX5_put_41 rfl kl_RX5_17 rfl (k243 g6 (by decide) n24) g25 ?_
  refine x_iload (q := 46) dX5_put_44 rfl rfl ?_
  refine x_iconst (q := 47) (v := (3 : Int32)) dX5_put_46 rfl (by decide) ?_
  refine x_iadd (q := 48) dX5_put_47 rfl ?_
  refine x_iload (q := 50) dX5_put_48 rfl rfl ?_
  replace H := kif H; obtain ⟨g26, H⟩ := H
  replace H := kifn H; obtain ⟨g27, H⟩ := H
  replace H := kle H; obtain ⟨h28, q29, H⟩ := H
  refine x_iast (q := 51) dX5_put_50 rfl (k243 g26 (by decide) n24) g27 ?_
  refine x_nmH q29 ?_
  have n30 : h28.1 = 243 := by rw [q29]; exact n24
  cases H
  exact x_end ⟨dX5_put_51, rfl, rfl⟩
theorem s_X5_put {Z : Nat → (Nat → Nat) → State → Prop} (h : KH) (v0 : Nat) (v1 : Int32) (v2 : Int32) (v3 : Int32) (v4 : Int32) (v5 : Int32) {t : KH} (hn : h.1 = 243) (H : f_X5_put h v0 v1 v2 v3 v4 v5 = some t) : KM Z yX5_put cX5_put 7 none 2 [.ref v0, .int v1, .int v2, .int v3, .int v4, .int v5] h none t :=
  kx_v (own := RX5) (ini := false) (by decide +kernel) (by decide +kernel) rfl (Nat.le_of_ble_eq_true rfl) (s0_X5_put h v0 v1 v2 v3 v4 v5 hn H)
theorem dX5_cell_0 : decode cX5_cell 0 = .ok (.iload_n 2, 1) := by decide +kernel
theorem dX5_cell_1 : decode cX5_cell 1 = .ok (.ifCond .lt 27, 3) := by decide +kernel
theorem dX5_cell_4 : decode cX5_cell 4 = .ok (.iload_n 2, 1) := by decide +kernel
theorem dX5_cell_5 : decode cX5_cell 5 = .ok (.iconst 4, 1) := by decide +kernel
theorem dX5_cell_6 : decode cX5_cell 6 = .ok (.if_icmp .ge 22, 3) := by decide +kernel
theorem dX5_cell_9 : decode cX5_cell 9 = .ok (.aload_n 0, 1) := by decide +kernel
theorem dX5_cell_10 : decode cX5_cell 10 = .ok (.getfield 17, 3) := by decide +kernel
theorem dX5_cell_13 : decode cX5_cell 13 = .ok (.iconst 4, 1) := by decide +kernel
theorem dX5_cell_14 : decode cX5_cell 14 = .ok (.iload_n 1, 1) := by decide +kernel
theorem dX5_cell_15 : decode cX5_cell 15 = .ok (.sipush 1024, 3) := by decide +kernel
theorem dX5_cell_18 : decode cX5_cell 18 = .ok (.invokestatic 39, 3) := by decide +kernel
theorem dX5_cell_21 : decode cX5_cell 21 = .ok (.imul, 1) := by decide +kernel
theorem dX5_cell_22 : decode cX5_cell 22 = .ok (.iload_n 2, 1) := by decide +kernel
theorem dX5_cell_23 : decode cX5_cell 23 = .ok (.iadd, 1) := by decide +kernel
theorem dX5_cell_24 : decode cX5_cell 24 = .ok (.iaload, 1) := by decide +kernel
theorem dX5_cell_25 : decode cX5_cell 25 = .ok (.goto 4, 3) := by decide +kernel
theorem dX5_cell_28 : decode cX5_cell 28 = .ok (.iconst (-1), 1) := by decide +kernel
theorem dX5_cell_29 : decode cX5_cell 29 = .ok (.ireturn, 1) := by decide +kernel
def f_X5_cell (h : KH) (v0 : Nat) (v1 : Int32) (v2 : Int32) : Option (Int32) :=
  if v2 < 0 then
  some (-1 : Int32)
  else
  if (4 : Int32) ≤ v2 then
  some (-1 : Int32)
  else
  if kkind v0 = 5 then if (kR h v0 1) < 999999 then kb (f_J9_floorMod_7cf53 h v1 (1024 : Int32)) fun r5 =>
  if kkind (kR h v0 1) = 20 then if ((((4 : Int32) * r5) + v2) < 0 ∨ klen (kR h v0 1) ≤ ((((4 : Int32) * r5) + v2)).toNatClampNeg) then none else some (kI h (kR h v0 1) (((((4 : Int32) * r5) + v2)).toNatClampNeg)) else none else none else none
set_option maxHeartbeats 4000000 in
set_option maxRecDepth 100000 in
theorem s0_X5_cell {Z : Nat → (Nat → Nat) → State → Prop} (h : KH) (v0 : Nat) (v1 : Int32) (v2 : Int32) {t : Int32} (hn : h.1 = 243) (H : f_X5_cell h v0 v1 v2 = some t) : KX Z RX5 cX5_cell 3 false 2 (KRi cX5_cell t h) 0 [(0, .ref v0), (1, .int v1), (2, .int v2)] [] h := by
  unfold f_X5_cell at H
  refine x_iload_n (q := 1) dX5_cell_0 rfl rfl ?_
  replace H := kite H; rcases H with ⟨g1, H⟩ | ⟨g1, H⟩
  · refine x_if_lt_t dX5_cell_1 (q := 28) (by decide) g1 ?_
    refine x_iconst (q := 29) (v := (-1 : Int32)) dX5_cell_28 rfl (by decide) ?_
    cases H
    exact x_end ⟨dX5_cell_29, rfl, rfl⟩
  · refine x_if_lt_f (q := 4) dX5_cell_1 (t := 28) (by decide) rfl g1 ?_
    refine x_iload_n (q := 5) dX5_cell_4 rfl rfl ?_
    refine x_iconst (q := 6) (v := (4 : Int32)) dX5_cell_5 rfl (by decide) ?_
    replace H := kite H; rcases H with ⟨g2, H⟩ | ⟨g2, H⟩
    · refine x_icmp_ge_t dX5_cell_6 (q := 28) (by decide) g2 ?_
      refine x_iconst (q := 29) (v := (-1 : Int32)) dX5_cell_28 rfl (by decide) ?_
      cases H
      exact x_end ⟨dX5_cell_29, rfl, rfl⟩
    · refine x_icmp_ge_f (q := 9) dX5_cell_6 (t := 28) (by decide) rfl g2 ?_
      refine x_aload_n (q := 10) dX5_cell_9 rfl rfl ?_
      replace H := kif H; obtain ⟨g3, H⟩ := H
      replace H := kif H; obtain ⟨g4, H⟩ := H
      refine x_getR (q := 13) dX5_cell_10 rfl kl_RX5_17 rfl (k243 g3 (by decide) hn) g4 ?_
      refine x_iconst (q := 14) (v := (4 : Int32)) dX5_cell_13 rfl (by decide) ?_
      refine x_iload_n (q := 15) dX5_cell_14 rfl rfl ?_
      refine x_sipush (q := 18) (v := (1024 : Int32)) dX5_cell_15 rfl (by decide) ?_
      replace H := kbe H; obtain ⟨r5, c6, H⟩ := H
      have m7 := s_J9_floorMod_7cf53 (Z := Z) h v1 (1024 : Int32) hn c6
      refine x_callS (q := 21) (as := [.int v1, .int (1024 : Int32)]) (rest := [.int (4 : Int32), .ref (kR h v0 1)]) dX5_cell_18 rfl kc_RX5_39 kh_J9_floorMod_7cf53 (by decide) (Nat.le_of_ble_eq_true rfl) m7 ?_
      refine x_imul (q := 22) dX5_cell_21 rfl ?_
      refine x_iload_n (q := 23) dX5_cell_22 rfl rfl ?_
      refine x_iadd (q := 24) dX5_cell_23 rfl ?_
      replace H := kif H; obtain ⟨g8, H⟩ := H
      replace H := kifn H; obtain ⟨g9, H⟩ := H
      refine x_iald (q := 25) dX5_cell_24 rfl (k243 g8 (by decide) hn) g9 ?_
      refine x_goto dX5_cell_25 (q := 29) (by decide) ?_
      cases H
      exact x_end ⟨dX5_cell_29, rfl, rfl⟩
theorem s_X5_cell {Z : Nat → (Nat → Nat) → State → Prop} (h : KH) (v0 : Nat) (v1 : Int32) (v2 : Int32) {t : Int32} (hn : h.1 = 243) (H : f_X5_cell h v0 v1 v2 = some t) : KM Z yX5_cell cX5_cell 3 (some .int) 2 [.ref v0, .int v1, .int v2] h (some (.int t)) h :=
  kx_i (own := RX5) (ini := false) (by decide +kernel) (by decide +kernel) rfl (Nat.le_of_ble_eq_true rfl) (s0_X5_cell h v0 v1 v2 hn H)
