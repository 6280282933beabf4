-- methods as functions, and that the machine does as they say (by wip/whole/gen_all.py): X11_chance, X11_undo, X11_seed, X11_addToImage, X11_checkBehind, X11_image, X11_octet, X11_isImage, X11_takeImage, X11_on, X11_status, X12_isIn, X12_feed, X12_end, X12_fail, X12_isLetter, X12_isDigit, X12_look0, X12_isHere, X12_takes, X12_asks
theorem dX11_chance_0 : decode cX11_chance 0 = .ok (.iload_n 1, 1) := by decide +kernel
theorem dX11_chance_1 : decode cX11_chance 1 = .ok (.iconst 1, 1) := by decide +kernel
theorem dX11_chance_2 : decode cX11_chance 2 = .ok (.if_icmp .lt 24, 3) := by decide +kernel
theorem dX11_chance_5 : decode cX11_chance 5 = .ok (.iload_n 1, 1) := by decide +kernel
theorem dX11_chance_6 : decode cX11_chance 6 = .ok (.bipush 30, 2) := by decide +kernel
theorem dX11_chance_8 : decode cX11_chance 8 = .ok (.if_icmp .gt 18, 3) := by decide +kernel
theorem dX11_chance_11 : decode cX11_chance 11 = .ok (.aload_n 0, 1) := by decide +kernel
theorem dX11_chance_12 : decode cX11_chance 12 = .ok (.getfield 67, 3) := by decide +kernel
theorem dX11_chance_15 : decode cX11_chance 15 = .ok (.getfield 155, 3) := by decide +kernel
theorem dX11_chance_18 : decode cX11_chance 18 = .ok (.iload_n 1, 1) := by decide +kernel
theorem dX11_chance_19 : decode cX11_chance 19 = .ok (.iadd, 1) := by decide +kernel
theorem dX11_chance_20 : decode cX11_chance 20 = .ok (.sipush 9999, 3) := by decide +kernel
theorem dX11_chance_23 : decode cX11_chance 23 = .ok (.if_icmp .le 9, 3) := by decide +kernel
theorem dX11_chance_26 : decode cX11_chance 26 = .ok (.aload_n 0, 1) := by decide +kernel
theorem dX11_chance_27 : decode cX11_chance 27 = .ok (.iconst 3, 1) := by decide +kernel
theorem dX11_chance_28 : decode cX11_chance 28 = .ok (.invokevirtual 118, 3) := by decide +kernel
theorem dX11_chance_31 : decode cX11_chance 31 = .ok (.ireturn, 1) := by decide +kernel
theorem dX11_chance_32 : decode cX11_chance 32 = .ok (.aload_n 0, 1) := by decide +kernel
theorem dX11_chance_33 : decode cX11_chance 33 = .ok (.invokevirtual 296, 3) := by decide +kernel
theorem dX11_chance_36 : decode cX11_chance 36 = .ok (.aload_n 0, 1) := by decide +kernel
theorem dX11_chance_37 : decode cX11_chance 37 = .ok (.getfield 67, 3) := by decide +kernel
theorem dX11_chance_40 : decode cX11_chance 40 = .ok (.invokevirtual 303, 3) := by decide +kernel
theorem dX11_chance_43 : decode cX11_chance 43 = .ok (.iconst 0, 1) := by decide +kernel
theorem dX11_chance_44 : decode cX11_chance 44 = .ok (.istore_n 2, 1) := by decide +kernel
theorem dX11_chance_45 : decode cX11_chance 45 = .ok (.iconst 0, 1) := by decide +kernel
theorem dX11_chance_46 : decode cX11_chance 46 = .ok (.istore_n 3, 1) := by decide +kernel
theorem dX11_chance_47 : decode cX11_chance 47 = .ok (.iload_n 3, 1) := by decide +kernel
theorem dX11_chance_48 : decode cX11_chance 48 = .ok (.iload_n 1, 1) := by decide +kernel
theorem dX11_chance_49 : decode cX11_chance 49 = .ok (.if_icmp .ge 16, 3) := by decide +kernel
theorem dX11_chance_52 : decode cX11_chance 52 = .ok (.iload_n 2, 1) := by decide +kernel
theorem dX11_chance_53 : decode cX11_chance 53 = .ok (.aload_n 0, 1) := by decide +kernel
theorem dX11_chance_54 : decode cX11_chance 54 = .ok (.invokevirtual 306, 3) := by decide +kernel
theorem dX11_chance_57 : decode cX11_chance 57 = .ok (.iadd, 1) := by decide +kernel
theorem dX11_chance_58 : decode cX11_chance 58 = .ok (.istore_n 2, 1) := by decide +kernel
theorem dX11_chance_59 : decode cX11_chance 59 = .ok (.iinc 3 1, 3) := by decide +kernel
theorem dX11_chance_62 : decode cX11_chance 62 = .ok (.goto (-15), 3) := by decide +kernel
theorem dX11_chance_65 : decode cX11_chance 65 = .ok (.iload_n 2, 1) := by decide +kernel
theorem dX11_chance_66 : decode cX11_chance 66 = .ok (.ireturn, 1) := by decide +kernel
theorem kc_RX11_306 : Cond.methodLink RX11 306 yX11_caseBySeed ∈ ktG ∧ (Cond.instanceMethod yX11_caseBySeed ∈ ktG ∧ Cond.selects yX11_caseBySeed.cls yX11_caseBySeed yX11_caseBySeed ∈ ktG) ∧ Cond.initialized yX11_caseBySeed.cls ∈ ktG ∧ Cond.code yX11_caseBySeed cX11_caseBySeed 7 (some .int) ∈ ktG := ⟨(kwm 1093 (by decide +kernel) (by decide +kernel)), ⟨(kwm 1095 (by decide +kernel) (by decide +kernel)), (kwm 30 (by decide +kernel) (by decide +kernel))⟩, (kwm 123 (by decide +kernel) (by decide +kernel)), kwm 1096 (by decide +kernel) (by decide +kernel)⟩
theorem kh_X11_caseBySeed : yX11_caseBySeed.cls ≠ "java/lang/invoke/MethodHandle" ∧ yX11_caseBySeed.cls ≠ "java/lang/invoke/VarHandle" ∧ (parseMethodDescriptor yX11_caseBySeed.desc).map (fun d => d.parameters.length) = some 0 := by decide +kernel
def f_X11_chance_b26 (h : KH) (v0 : Nat) : Option (Int32 × KH) :=
  if kkind v0 = 11 then kb (f_X11_refuse h v0 (3 : Int32)) fun r2 =>
  some (r2.1, r2.2) else none
set_option maxHeartbeats 4000000 in
set_option maxRecDepth 100000 in
theorem s_X11_chance_b26 {Z : Nat → (Nat → Nat) → State → Prop} (h : KH) (v0 : Nat) {t : Int32 × KH} (hn : h.1 = 243) (H : f_X11_chance_b26 h v0 = some t) : KX Z RX11 cX11_chance 4 false 8 (KRi cX11_chance t.1 t.2) 26 [(0, .ref v0)] [] h := by
  unfold f_X11_chance_b26 at H
  refine x_aload_n (q := 27) dX11_chance_26 rfl rfl ?_
  refine x_iconst (q := 28) (v := (3 : Int32)) dX11_chance_27 rfl (by decide) ?_
  replace H := kif H; obtain ⟨g1, H⟩ := H
  replace H := kbe H; obtain ⟨r2, c3, H⟩ := H
  have m4 := s_X11_refuse (Z := Z) h v0 (3 : Int32) hn c3
  refine x_callV (q := 31) (as := [.int (3 : Int32)]) (rest := []) dX11_chance_28 rfl kc_RX11_118 kh_X11_refuse (by decide) (Nat.le_of_ble_eq_true rfl) m4 (ci := 11) (by exact ⟨rfl, by decide⟩) (k243 g1 (by decide) hn) ?_
  have n5 : (r2.2).1 = 243 := m4.1.full hn
  cases H
  exact x_end ⟨dX11_chance_31, rfl, rfl⟩
def E_X11_chance_l47 (v0 : Nat) (v1 : Int32) : Int32 × KH → Nat → List (Nat × Value) → List Value → KH → Prop := fun (e : Int32 × KH) pc ls st hh => pc = 65 ∧ ls = [(2, .int e.1)] ∧ st = [] ∧ e.2 = hh
def B_X11_chance_l47 (v0 : Nat) (v1 : Int32) : ((Int32 × Int32 × KH) ⊕ (Int32 × KH)) → Nat → List (Nat × Value) → List Value → KH → Prop := Sum.elim (fun (s : Int32 × Int32 × KH) pc ls st hh => pc = 47 ∧ ls = [(0, .ref v0), (1, .int v1), (2, .int s.1), (3, .int s.2.1)] ∧ st = [] ∧ hh = s.2.2) (E_X11_chance_l47 v0 v1)
def f_X11_chance_l47 (v0 : Nat) (v1 : Int32) (s : Int32 × Int32 × KH) : Option ((Int32 × Int32 × KH) ⊕ (Int32 × KH)) :=
  if v1 ≤ s.2.1 then
  some (.inr (s.1, s.2.2))
  else
  if kkind v0 = 11 then kb (f_X11_caseBySeed s.2.2 v0) fun r3 =>
  kl (s.1 + r3.1) fun x7 =>
  kl (s.2.1 + (1 : Int32)) fun x9 =>
  some (.inl (x7, x9, r3.2)) else none
set_option maxHeartbeats 4000000 in
set_option maxRecDepth 100000 in
theorem s_X11_chance_l47 {Z : Nat → (Nat → Nat) → State → Prop} (v0 : Nat) (v1 : Int32) (s : Int32 × Int32 × KH) (t : (Int32 × Int32 × KH) ⊕ (Int32 × KH)) (hn : (s.2.2).1 = 243) (H : f_X11_chance_l47 v0 v1 s = some t) : KX Z RX11 cX11_chance 4 false 8 (B_X11_chance_l47 v0 v1 t) 47 [(0, .ref v0), (1, .int v1), (2, .int s.1), (3, .int s.2.1)] [] s.2.2 := by
  unfold f_X11_chance_l47 at H
  refine x_iload_n (q := 48) dX11_chance_47 rfl rfl ?_
  refine x_iload_n (q := 49) dX11_chance_48 rfl rfl ?_
  replace H := kite H; rcases H with ⟨g1, H⟩ | ⟨g1, H⟩
  · refine x_icmp_ge_t dX11_chance_49 (q := 65) (by decide) g1 ?_
    cases H
    refine x_sub (ls2 := [(2, .int s.1)]) [2] rfl ?_
    exact x_end (x_cfg rfl)
  · refine x_icmp_ge_f (q := 52) dX11_chance_49 (t := 65) (by decide) rfl g1 ?_
    refine x_iload_n (q := 53) dX11_chance_52 rfl rfl ?_
    refine x_aload_n (q := 54) dX11_chance_53 rfl rfl ?_
    replace H := kif H; obtain ⟨g2, H⟩ := H
    replace H := kbe H; obtain ⟨r3, c4, H⟩ := H
    have m5 := s_X11_caseBySeed (Z := Z) s.2.2 v0 hn c4
    refine x_callV (q := 57) (as := []) (rest := [.int s.1]) dX11_chance_54 rfl kc_RX11_306 kh_X11_caseBySeed (by decide) (Nat.le_of_ble_eq_true rfl) m5 (ci := 11) (by exact ⟨rfl, by decide⟩) (k243 g2 (by decide) hn) ?_
    have n6 : (r3.2).1 = 243 := m5.1.full hn
    refine x_iadd (q := 58) dX11_chance_57 rfl ?_
    replace H := kle H; obtain ⟨x7, q8, H⟩ := H
    refine x_nmI q8 ?_
    refine x_istore_n (q := 59) (i := 2) (ls2 := [(2, .int x7), (0, .ref v0), (1, .int v1), (3, .int s.2.1)]) dX11_chance_58 rfl rfl (by decide) rfl ?_
    replace H := kle H; obtain ⟨x9, q10, H⟩ := H
    refine x_iinc (q := 62) (i := 3) (ls2 := [(3, .int x9), (2, .int x7), (0, .ref v0), (1, .int v1)]) dX11_chance_59 rfl rfl (by decide) (by rw [q10]; rfl) ?_
    refine x_goto dX11_chance_62 (q := 47) (by decide) ?_
    cases H
    refine x_sub (ls2 := [(0, .ref v0), (1, .int v1), (2, .int x7), (3, .int x9)]) [2, 3, 1, 0] rfl ?_
    exact x_end (x_cfg rfl)
theorem sl_X11_chance_l47 {Z : Nat → (Nat → Nat) → State → Prop} (v0 : Nat) (v1 : Int32) (n : Nat) (s : Int32 × Int32 × KH) (r : Int32 × KH) (hn : (s.2.2).1 = 243) (H : kloop (f_X11_chance_l47 v0 v1) n s = some r) : KX Z RX11 cX11_chance 4 false 8 (E_X11_chance_l47 v0 v1 r) 47 [(0, .ref v0), (1, .int v1), (2, .int s.1), (3, .int s.2.1)] [] s.2.2 :=
  k_loop (ls := (fun (s : Int32 × Int32 × KH) => ([(0, .ref v0), (1, .int v1), (2, .int s.1), (3, .int s.2.1)] : List (Nat × Value)))) (hp := (fun (s : Int32 × Int32 × KH) => (s.2.2 : KH))) (G := E_X11_chance_l47 v0 v1) (fun s t hn H => s_X11_chance_l47 v0 v1 s t hn H) n s r hn H
def f_X11_chance (h : KH) (v0 : Nat) (v1 : Int32) : Option (Int32 × KH) :=
  if v1 < (1 : Int32) then
  f_X11_chance_b26 h v0
  else
  if (30 : Int32) < v1 then
  f_X11_chance_b26 h v0
  else
  if kkind v0 = 11 then if (kR h v0 7) < 999999 then if kkind (kR h v0 7) = 8 then if ((kI h (kR h v0 7) 0) + v1) ≤ (9999 : Int32) then
  kb (f_X11_beginAct h v0) fun r7 =>
  if (kR r7 v0 7) < 999999 then if kkind (kR r7 v0 7) = 8 then kb (f_X8_forgetCase r7 (kR r7 v0 7)) fun r13 =>
  kb (kloop (f_X11_chance_l47 v0 v1) KF ((0 : Int32), (0 : Int32), r13)) fun e17 =>
  some (e17.1, e17.2) else none else none
  else
  f_X11_chance_b26 h v0 else none else none else none
set_option maxHeartbeats 4000000 in
set_option maxRecDepth 100000 in
theorem s0_X11_chance {Z : Nat → (Nat → Nat) → State → Prop} (h : KH) (v0 : Nat) (v1 : Int32) {t : Int32 × KH} (hn : h.1 = 243) (H : f_X11_chance h v0 v1 = some t) : KX Z RX11 cX11_chance 4 false 8 (KRi cX11_chance t.1 t.2) 0 [(0, .ref v0), (1, .int v1)] [] h := by
  unfold f_X11_chance at H
  refine x_iload_n (q := 1) dX11_chance_0 rfl rfl ?_
  refine x_iconst (q := 2) (v := (1 : Int32)) dX11_chance_1 rfl (by decide) ?_
  replace H := kite H; rcases H with ⟨g1, H⟩ | ⟨g1, H⟩
  · refine x_icmp_lt_t dX11_chance_2 (q := 26) (by decide) g1 ?_
    refine x_sub (ls2 := [(0, .ref v0)]) [0] rfl ?_
    exact s_X11_chance_b26 h v0 hn H
  · refine x_icmp_lt_f (q := 5) dX11_chance_2 (t := 26) (by decide) rfl g1 ?_
    refine x_iload_n (q := 6) dX11_chance_5 rfl rfl ?_
    refine x_bipush (q := 8) (v := (30 : Int32)) dX11_chance_6 rfl (by decide) ?_
    replace H := kite H; rcases H with ⟨g2, H⟩ | ⟨g2, H⟩
    · refine x_icmp_gt_t dX11_chance_8 (q := 26) (by decide) g2 ?_
      refine x_sub (ls2 := [(0, .ref v0)]) [0] rfl ?_
      exact s_X11_chance_b26 h v0 hn H
    · refine x_icmp_gt_f (q := 11) dX11_chance_8 (t := 26) (by decide) rfl g2 ?_
      refine x_aload_n (q := 12) dX11_chance_11 rfl rfl ?_
      replace H := kif H; obtain ⟨g3, H⟩ := H
      replace H := kif H; obtain ⟨g4, H⟩ := H
      refine x_getR (q := 15) dX11_chance_12 rfl kl_RX11_67 rfl (k243 g3 (by decide) hn) g4 ?_
      replace H := kif H; obtain ⟨g5, H⟩ := H
      refine x_getI (q := 18) dX11_chance_15 rfl kl_RX11_155 (Or.inl rfl) (k243 g5 (by decide) hn) ?_
      refine x_iload_n (q := 19) dX11_chance_18 rfl rfl ?_
      refine x_iadd (q := 20) dX11_chance_19 rfl ?_
      refine x_sipush (q := 23) (v := (9999 : Int32)) dX11_chance_20 rfl (by decide) ?_
      replace H := kite H; rcases H with ⟨g6, H⟩ | ⟨g6, H⟩
      · refine x_icmp_le_t dX11_chance_23 (q := 32) (by decide) g6 ?_
        refine x_aload_n (q := 33) dX11_chance_32 rfl rfl ?_
        replace H := kbe H; obtain ⟨r7, c8, H⟩ := H
        have m9 := s_X11_beginAct (Z := Z) h v0 hn c8
        refine x_callV (q := 36) (as := []) (rest := []) dX11_chance_33 rfl kc_RX11_296 kh_X11_beginAct (by decide) (Nat.le_of_ble_eq_true rfl) m9 (ci := 11) (by exact ⟨rfl, by decide⟩) (k243 g3 (by decide) hn) ?_
        have n10 : (r7).1 = 243 := m9.1.full hn
        refine x_aload_n (q := 37) dX11_chance_36 rfl rfl ?_
        replace H := kif H; obtain ⟨g11, H⟩ := H
        refine x_getR (q := 40) dX11_chance_37 rfl kl_RX11_67 rfl (k243 g3 (by decide) n10) g11 ?_
        replace H := kif H; obtain ⟨g12, H⟩ := H
        replace H := kbe H; obtain ⟨r13, c14, H⟩ := H
        have m15 := s_X8_forgetCase (Z := Z) r7 (kR r7 v0 7) n10 c14
        refine x_callV (q := 43) (as := []) (rest := []) dX11_chance_40 rfl kc_RX11_303 kh_X8_forgetCase (by decide) (Nat.le_of_ble_eq_true rfl) m15 (ci := 8) (by exact ⟨rfl, by decide⟩) (k243 g12 (by decide) n10) ?_
        have n16 : (r13).1 = 243 := m15.1.full n10
        refine x_iconst (q := 44) (v := (0 : Int32)) dX11_chance_43 rfl (by decide) ?_
        refine x_istore_n (q := 45) (i := 2) (ls2 := [(2, .int (0 : Int32)), (0, .ref v0), (1, .int v1)]) dX11_chance_44 rfl rfl (by decide) rfl ?_
        refine x_iconst (q := 46) (v := (0 : Int32)) dX11_chance_45 rfl (by decide) ?_
        refine x_istore_n (q := 47) (i := 3) (ls2 := [(3, .int (0 : Int32)), (2, .int (0 : Int32)), (0, .ref v0), (1, .int v1)]) dX11_chance_46 rfl rfl (by decide) rfl ?_
        refine x_sub (ls2 := [(0, .ref v0), (1, .int v1), (2, .int (0 : Int32)), (3, .int (0 : Int32))]) [2, 3, 1, 0] rfl ?_
        replace H := kbe H; obtain ⟨e17, c18, H⟩ := H
        refine x_app (sl_X11_chance_l47 v0 v1 KF ((0 : Int32), (0 : Int32), r13) e17 n16 c18) fun pc2 ls2 st2 h2 hg m19 => ?_
        obtain ⟨rfl, rfl, rfl, rfl⟩ := hg
        refine x_iload_n (q := 66) dX11_chance_65 rfl rfl ?_
        cases H
        exact x_end ⟨dX11_chance_66, rfl, rfl⟩
      · refine x_icmp_le_f (q := 26) dX11_chance_23 (t := 32) (by decide) rfl g6 ?_
        refine x_sub (ls2 := [(0, .ref v0)]) [0] rfl ?_
        exact s_X11_chance_b26 h v0 hn H
theorem s_X11_chance {Z : Nat → (Nat → Nat) → State → Prop} (h : KH) (v0 : Nat) (v1 : Int32) {t : Int32 × KH} (hn : h.1 = 243) (H : f_X11_chance h v0 v1 = some t) : KM Z yX11_chance cX11_chance 4 (some .int) 8 [.ref v0, .int v1] h (some (.int t.1)) t.2 :=
  kx_i (own := RX11) (ini := false) (by decide +kernel) (by decide +kernel) rfl (Nat.le_of_ble_eq_true rfl) (s0_X11_chance h v0 v1 hn H)
theorem dX11_undo_0 : decode cX11_undo 0 = .ok (.aload_n 0, 1) := by decide +kernel
theorem dX11_undo_1 : decode cX11_undo 1 = .ok (.getfield 77, 3) := by decide +kernel
theorem dX11_undo_4 : decode cX11_undo 4 = .ok (.getfield 136, 3) := by decide +kernel
theorem dX11_undo_7 : decode cX11_undo 7 = .ok (.ifCond .ne 11, 3) := by decide +kernel
theorem dX11_undo_10 : decode cX11_undo 10 = .ok (.aload_n 0, 1) := by decide +kernel
theorem dX11_undo_11 : decode cX11_undo 11 = .ok (.iconst 4, 1) := by decide +kernel
theorem dX11_undo_12 : decode cX11_undo 12 = .ok (.invokevirtual 118, 3) := by decide +kernel
theorem dX11_undo_15 : decode cX11_undo 15 = .ok (.pop, 1) := by decide +kernel
theorem dX11_undo_16 : decode cX11_undo 16 = .ok (.iconst 0, 1) := by decide +kernel
theorem dX11_undo_17 : decode cX11_undo 17 = .ok (.ireturn, 1) := by decide +kernel
theorem dX11_undo_18 : decode cX11_undo 18 = .ok (.aload_n 0, 1) := by decide +kernel
theorem dX11_undo_19 : decode cX11_undo 19 = .ok (.getfield 77, 3) := by decide +kernel
theorem dX11_undo_22 : decode cX11_undo 22 = .ok (.aload_n 0, 1) := by decide +kernel
theorem dX11_undo_23 : decode cX11_undo 23 = .ok (.getfield 67, 3) := by decide +kernel
theorem dX11_undo_26 : decode cX11_undo 26 = .ok (.invokevirtual 309, 3) := by decide +kernel
theorem dX11_undo_29 : decode cX11_undo 29 = .ok (.aload_n 0, 1) := by decide +kernel
theorem dX11_undo_30 : decode cX11_undo 30 = .ok (.getfield 84, 3) := by decide +kernel
theorem dX11_undo_33 : decode cX11_undo 33 = .ok (.iconst 0, 1) := by decide +kernel
theorem dX11_undo_34 : decode cX11_undo 34 = .ok (.putfield 139, 3) := by decide +kernel
theorem dX11_undo_37 : decode cX11_undo 37 = .ok (.iconst 1, 1) := by decide +kernel
theorem dX11_undo_38 : decode cX11_undo 38 = .ok (.ireturn, 1) := by decide +kernel
theorem kc_RX11_309 : Cond.methodLink RX11 309 yX5_giveBack ∈ ktG ∧ (Cond.instanceMethod yX5_giveBack ∈ ktG ∧ Cond.selects yX5_giveBack.cls yX5_giveBack yX5_giveBack ∈ ktG) ∧ Cond.initialized yX5_giveBack.cls ∈ ktG ∧ Cond.code yX5_giveBack cX5_giveBack 2 none ∈ ktG := ⟨(kwm 1115 (by decide +kernel) (by decide +kernel)), ⟨(kwm 1116 (by decide +kernel) (by decide +kernel)), (kwm 1117 (by decide +kernel) (by decide +kernel))⟩, (kwm 136 (by decide +kernel) (by decide +kernel)), kwm 1118 (by decide +kernel) (by decide +kernel)⟩
theorem kh_X5_giveBack : yX5_giveBack.cls ≠ "java/lang/invoke/MethodHandle" ∧ yX5_giveBack.cls ≠ "java/lang/invoke/VarHandle" ∧ (parseMethodDescriptor yX5_giveBack.desc).map (fun d => d.parameters.length) = some 1 := by decide +kernel
def f_X11_undo (h : KH) (v0 : Nat) : Option (Int32 × KH) :=
  if kkind v0 = 11 then if (kR h v0 9) < 999999 then if kkind (kR h v0 9) = 5 then if (kI h (kR h v0 9) 3) = 0 then
  kb (f_X11_refuse h v0 (4 : Int32)) fun r15 =>
  some ((0 : Int32), r15.2)
  else
  if (kR h v0 7) < 999999 then kb (f_X5_giveBack h (kR h v0 9) (kR h v0 7)) fun r6 =>
  if (kR r6 v0 10) < 999999 then if kkind (kR r6 v0 10) = 0 then kl (ksI r6 (kR r6 v0 10) 3 (0 : Int32)) fun h12 =>
  some ((1 : Int32), h12) else none else none else none else none else none else none
set_option maxHeartbeats 4000000 in
set_option maxRecDepth 100000 in
theorem s0_X11_undo {Z : Nat → (Nat → Nat) → State → Prop} (h : KH) (v0 : Nat) {t : Int32 × KH} (hn : h.1 = 243) (H : f_X11_undo h v0 = some t) : KX Z RX11 cX11_undo 1 false 4 (KRz cX11_undo t.1 t.2) 0 [(0, .ref v0)] [] h := by
  unfold f_X11_undo at H
  refine x_aload_n (q := 1) dX11_undo_0 rfl rfl ?_
  replace H := kif H; obtain ⟨g1, H⟩ := H
  replace H := kif H; obtain ⟨g2, H⟩ := H
  refine x_getR (q := 4) dX11_undo_1 rfl kl_RX11_77 rfl (k243 g1 (by decide) hn) g2 ?_
  replace H := kif H; obtain ⟨g3, H⟩ := H
  refine x_getI (q := 7) dX11_undo_4 rfl kl_RX11_136 (Or.inl rfl) (k243 g3 (by decide) hn) ?_
  replace H := kite H; rcases H with ⟨g4, H⟩ | ⟨g4, H⟩
  · refine x_if_ne_f (q := 10) dX11_undo_7 (t := 18) (by decide) rfl g4 ?_
    refine x_aload_n (q := 11) dX11_undo_10 rfl rfl ?_
    refine x_iconst (q := 12) (v := (4 : Int32)) dX11_undo_11 rfl (by decide) ?_
    replace H := kbe H; obtain ⟨r15, c16, H⟩ := H
    have m17 := s_X11_refuse (Z := Z) h v0 (4 : Int32) hn c16
    refine x_callV (q := 15) (as := [.int (4 : Int32)]) (rest := []) dX11_undo_12 rfl kc_RX11_118 kh_X11_refuse (by decide) (Nat.le_of_ble_eq_true rfl) m17 (ci := 11) (by exact ⟨rfl, by decide⟩) (k243 g1 (by decide) hn) ?_
    have n18 : (r15.2).1 = 243 := m17.1.full hn
    refine x_pop (q := 16) dX11_undo_15 rfl rfl ?_
    refine x_iconst (q := 17) (v := (0 : Int32)) dX11_undo_16 rfl (by decide) ?_
    cases H
    exact x_end ⟨(Or.inl rfl), dX11_undo_17, rfl, rfl⟩
  · refine x_if_ne_t dX11_undo_7 (q := 18) (by decide) g4 ?_
    refine x_aload_n (q := 19) dX11_undo_18 rfl rfl ?_
    refine x_getR (q := 22) dX11_undo_19 rfl kl_RX11_77 rfl (k243 g1 (by decide) hn) g2 ?_
    refine x_aload_n (q := 23) dX11_undo_22 rfl rfl ?_
    replace H := kif H; obtain ⟨g5, H⟩ := H
    refine x_getR (q := 26) dX11_undo_23 rfl kl_RX11_67 rfl (k243 g1 (by decide) hn) g5 ?_
    replace H := kbe H; obtain ⟨r6, c7, H⟩ := H
    have m8 := s_X5_giveBack (Z := Z) h (kR h v0 9) (kR h v0 7) hn c7
    refine x_callV (q := 29) (as := [.ref (kR h v0 7)]) (rest := []) dX11_undo_26 rfl kc_RX11_309 kh_X5_giveBack (by decide) (Nat.le_of_ble_eq_true rfl) m8 (ci := 5) (by exact ⟨rfl, by decide⟩) (k243 g3 (by decide) hn) ?_
    have n9 : (r6).1 = 243 := m8.1.full hn
    refine x_aload_n (q := 30) dX11_undo_29 rfl rfl ?_
    replace H := kif H; obtain ⟨g10, H⟩ := H
    refine x_getR (q := 33) dX11_undo_30 rfl kl_RX11_84 rfl (k243 g1 (by decide) n9) g10 ?_
    refine x_iconst (q := 34) (v := (0 : Int32)) dX11_undo_33 rfl (by decide) ?_
    replace H := kif H; obtain ⟨g11, H⟩ := H
    replace H := kle H; obtain ⟨h12, q13, H⟩ := H
    refine x_putI (q := 37) dX11_undo_34 rfl kl_RX11_139 (Or.inl rfl) rfl (k243 g11 (by decide) n9) ?_
    refine x_nmH q13 ?_
    have n14 : h12.1 = 243 := by rw [q13]; exact n9
    refine x_iconst (q := 38) (v := (1 : Int32)) dX11_undo_37 rfl (by decide) ?_
    cases H
    exact x_end ⟨(Or.inr rfl), dX11_undo_38, rfl, rfl⟩
theorem s_X11_undo {Z : Nat → (Nat → Nat) → State → Prop} (h : KH) (v0 : Nat) {t : Int32 × KH} (hn : h.1 = 243) (H : f_X11_undo h v0 = some t) : KM Z yX11_undo cX11_undo 1 (some .boolean) 4 [.ref v0] h (some (.int t.1)) t.2 :=
  kx_z (own := RX11) (ini := false) (by decide +kernel) (by decide +kernel) rfl (Nat.le_of_ble_eq_true rfl) (s0_X11_undo h v0 hn H)
theorem dX11_seed_0 : decode cX11_seed 0 = .ok (.iload_n 1, 1) := by decide +kernel
theorem dX11_seed_1 : decode cX11_seed 1 = .ok (.ifCond .ge 11, 3) := by decide +kernel
theorem dX11_seed_4 : decode cX11_seed 4 = .ok (.aload_n 0, 1) := by decide +kernel
theorem dX11_seed_5 : decode cX11_seed 5 = .ok (.iconst 5, 1) := by decide +kernel
theorem dX11_seed_6 : decode cX11_seed 6 = .ok (.invokevirtual 118, 3) := by decide +kernel
theorem dX11_seed_9 : decode cX11_seed 9 = .ok (.pop, 1) := by decide +kernel
theorem dX11_seed_10 : decode cX11_seed 10 = .ok (.iconst 0, 1) := by decide +kernel
theorem dX11_seed_11 : decode cX11_seed 11 = .ok (.ireturn, 1) := by decide +kernel
theorem dX11_seed_12 : decode cX11_seed 12 = .ok (.aload_n 0, 1) := by decide +kernel
theorem dX11_seed_13 : decode cX11_seed 13 = .ok (.iload_n 1, 1) := by decide +kernel
theorem dX11_seed_14 : decode cX11_seed 14 = .ok (.putfield 103, 3) := by decide +kernel
theorem dX11_seed_17 : decode cX11_seed 17 = .ok (.iconst 1, 1) := by decide +kernel
theorem dX11_seed_18 : decode cX11_seed 18 = .ok (.ireturn, 1) := by decide +kernel
def f_X11_seed (h : KH) (v0 : Nat) (v1 : Int32) : Option (Int32 × KH) :=
  if 0 ≤ v1 then
  if kkind v0 = 11 then kl (ksI h v0 14 v1) fun h3 =>
  some ((1 : Int32), h3) else none
  else
  if kkind v0 = 11 then kb (f_X11_refuse h v0 (5 : Int32)) fun r7 =>
  some ((0 : Int32), r7.2) else none
set_option maxHeartbeats 4000000 in
set_option maxRecDepth 100000 in
theorem s0_X11_seed {Z : Nat → (Nat → Nat) → State → Prop} (h : KH) (v0 : Nat) (v1 : Int32) {t : Int32 × KH} (hn : h.1 = 243) (H : f_X11_seed h v0 v1 = some t) : KX Z RX11 cX11_seed 2 false 2 (KRz cX11_seed t.1 t.2) 0 [(0, .ref v0), (1, .int v1)] [] h := by
  unfold f_X11_seed at H
  refine x_iload_n (q := 1) dX11_seed_0 rfl rfl ?_
  replace H := kite H; rcases H with ⟨g1, H⟩ | ⟨g1, H⟩
  · refine x_if_ge_t dX11_seed_1 (q := 12) (by decide) g1 ?_
    refine x_aload_n (q := 13) dX11_seed_12 rfl rfl ?_
    refine x_iload_n (q := 14) dX11_seed_13 rfl rfl ?_
    replace H := kif H; obtain ⟨g2, H⟩ := H
    replace H := kle H; obtain ⟨h3, q4, H⟩ := H
    refine x_putI (q := 17) dX11_seed_14 rfl kl_RX11_103 (Or.inl rfl) rfl (k243 g2 (by decide) hn) ?_
    refine x_nmH q4 ?_
    have n5 : h3.1 = 243 := by rw [q4]; exact hn
    refine x_iconst (q := 18) (v := (1 : Int32)) dX11_seed_17 rfl (by decide) ?_
    cases H
    exact x_end ⟨(Or.inr rfl), dX11_seed_18, rfl, rfl⟩
  · refine x_if_ge_f (q := 4) dX11_seed_1 (t := 12) (by decide) rfl g1 ?_
    refine x_aload_n (q := 5) dX11_seed_4 rfl rfl ?_
    refine x_iconst (q := 6) (v := (5 : Int32)) dX11_seed_5 rfl (by decide) ?_
    replace H := kif H; obtain ⟨g6, H⟩ := H
    replace H := kbe H; obtain ⟨r7, c8, H⟩ := H
    have m9 := s_X11_refuse (Z := Z) h v0 (5 : Int32) hn c8
    refine x_callV (q := 9) (as := [.int (5 : Int32)]) (rest := []) dX11_seed_6 rfl kc_RX11_118 kh_X11_refuse (by decide) (Nat.le_of_ble_eq_true rfl) m9 (ci := 11) (by exact ⟨rfl, by decide⟩) (k243 g6 (by decide) hn) ?_
    have n10 : (r7.2).1 = 243 := m9.1.full hn
    refine x_pop (q := 10) dX11_seed_9 rfl rfl ?_
    refine x_iconst (q := 11) (v := (0 : Int32)) dX11_seed_10 rfl (by decide) ?_
    cases H
    exact x_end ⟨(Or.inl rfl), dX11_seed_11, rfl, rfl⟩
theorem s_X11_seed {Z : Nat → (Nat → Nat) → State → Prop} (h : KH) (v0 : Nat) (v1 : Int32) {t : Int32 × KH} (hn : h.1 = 243) (H : f_X11_seed h v0 v1 = some t) : KM Z yX11_seed cX11_seed 2 (some .boolean) 2 [.ref v0, .int v1] h (some (.int t.1)) t.2 :=
  kx_z (own := RX11) (ini := false) (by decide +kernel) (by decide +kernel) rfl (Nat.le_of_ble_eq_true rfl) (s0_X11_seed h v0 v1 hn H)
theorem dX11_addToImage_0 : decode cX11_addToImage 0 = .ok (.aload_n 0, 1) := by decide +kernel
theorem dX11_addToImage_1 : decode cX11_addToImage 1 = .ok (.getfield 109, 3) := by decide +kernel
theorem dX11_addToImage_4 : decode cX11_addToImage 4 = .ok (.aload_n 0, 1) := by decide +kernel
theorem dX11_addToImage_5 : decode cX11_addToImage 5 = .ok (.getfield 106, 3) := by decide +kernel
theorem dX11_addToImage_8 : decode cX11_addToImage 8 = .ok (.arraylength, 1) := by decide +kernel
theorem dX11_addToImage_9 : decode cX11_addToImage 9 = .ok (.if_icmp .ge 23, 3) := by decide +kernel
theorem dX11_addToImage_12 : decode cX11_addToImage 12 = .ok (.aload_n 0, 1) := by decide +kernel
theorem dX11_addToImage_13 : decode cX11_addToImage 13 = .ok (.getfield 106, 3) := by decide +kernel
theorem dX11_addToImage_16 : decode cX11_addToImage 16 = .ok (.aload_n 0, 1) := by decide +kernel
theorem dX11_addToImage_17 : decode cX11_addToImage 17 = .ok (.getfield 109, 3) := by decide +kernel
theorem dX11_addToImage_20 : decode cX11_addToImage 20 = .ok (.iload_n 1, 1) := by decide +kernel
theorem dX11_addToImage_21 : decode cX11_addToImage 21 = .ok (.iastore, 1) := by decide +kernel
theorem dX11_addToImage_22 : decode cX11_addToImage 22 = .ok (.aload_n 0, 1) := by decide +kernel
theorem dX11_addToImage_23 : decode cX11_addToImage 23 = .ok (.dup, 1) := by decide +kernel
theorem dX11_addToImage_24 : decode cX11_addToImage 24 = .ok (.getfield 109, 3) := by decide +kernel
theorem dX11_addToImage_27 : decode cX11_addToImage 27 = .ok (.iconst 1, 1) := by decide +kernel
theorem dX11_addToImage_28 : decode cX11_addToImage 28 = .ok (.iadd, 1) := by decide +kernel
theorem dX11_addToImage_29 : decode cX11_addToImage 29 = .ok (.putfield 109, 3) := by decide +kernel
theorem dX11_addToImage_32 : decode cX11_addToImage 32 = .ok (.return_, 1) := by decide +kernel
theorem kl_RX11_109 : KLk RX11 109 11 16 := ⟨RX11, TX11, 18, rfl, by decide, Or.inl (kwm 544 (by decide +kernel) (by decide +kernel))⟩
theorem kl_RX11_106 : KLk RX11 106 11 15 := ⟨RX11, TX11, 18, rfl, by decide, Or.inl (kwm 543 (by decide +kernel) (by decide +kernel))⟩
def f_X11_addToImage (h : KH) (v0 : Nat) (v1 : Int32) : Option (KH) :=
  if kkind v0 = 11 then if (kR h v0 15) < 999999 then if kkind (kR h v0 15) = 20 then if (Int32.ofNat (klen (kR h v0 15))) ≤ (kI h v0 16) then
  some h
  else
  if ((kI h v0 16) < 0 ∨ klen (kR h v0 15) ≤ ((kI h v0 16)).toNatClampNeg) then none else kl (ksI h (kR h v0 15) (((kI h v0 16)).toNatClampNeg) v1) fun h6 =>
  kl (ksI h6 v0 16 ((kI h6 v0 16) + (1 : Int32))) fun h9 =>
  some h9 else none else none else none
set_option maxHeartbeats 4000000 in
set_option maxRecDepth 100000 in
theorem s0_X11_addToImage {Z : Nat → (Nat → Nat) → State → Prop} (h : KH) (v0 : Nat) (v1 : Int32) {t : KH} (hn : h.1 = 243) (H : f_X11_addToImage h v0 v1 = some t) : KX Z RX11 cX11_addToImage 2 false 1 (KRv cX11_addToImage t) 0 [(0, .ref v0), (1, .int v1)] [] h := by
  unfold f_X11_addToImage at H
  refine x_aload_n (q := 1) dX11_addToImage_0 rfl rfl ?_
  replace H := kif H; obtain ⟨g1, H⟩ := H
  refine x_getI (q := 4) dX11_addToImage_1 rfl kl_RX11_109 (Or.inl rfl) (k243 g1 (by decide) hn) ?_
  refine x_aload_n (q := 5) dX11_addToImage_4 rfl rfl ?_
  replace H := kif H; obtain ⟨g2, H⟩ := H
  refine x_getR (q := 8) dX11_addToImage_5 rfl kl_RX11_106 rfl (k243 g1 (by decide) hn) g2 ?_
  replace H := kif H; obtain ⟨g3, H⟩ := H
  refine x_alen (q := 9) dX11_addToImage_8 rfl (by decide) (k243 g3 (by decide) hn) ?_
  replace H := kite H; rcases H with ⟨g4, H⟩ | ⟨g4, H⟩
  · refine x_icmp_ge_t dX11_addToImage_9 (q := 32) (by decide) g4 ?_
    cases H
    exact x_end ⟨dX11_addToImage_32, rfl, rfl⟩
  · refine x_icmp_ge_f (q := 12) dX11_addToImage_9 (t := 32) (by decide) rfl g4 ?_
    refine x_aload_n (q := 13) dX11_addToImage_12 rfl rfl ?_
    refine x_getR (q := 16) dX11_addToImage_13 rfl kl_RX11_106 rfl (k243 g1 (by decide) hn) g2 ?_
    refine x_aload_n (q := 17) dX11_addToImage_16 rfl rfl ?_
    refine x_getI (q := 20) dX11_addToImage_17 rfl kl_RX11_109 (Or.inl rfl) (k243 g1 (by decide) hn) ?_
    refine x_iload_n (q := 21) dX11_addToImage_20 rfl rfl ?_
    replace H := kifn H; obtain ⟨g5, H⟩ := H
    replace H := kle H; obtain ⟨h6, q7, H⟩ := H
    refine x_iast (q := 22) dX11_addToImage_21 rfl (k243 g3 (by decide) hn) g5 ?_
    refine x_nmH q7 ?_
    have n8 : h6.1 = 243 := by rw [q7]; exact hn
    refine x_aload_n (q := 23) dX11_addToImage_22 rfl rfl ?_
    refine x_dup (q := 24) dX11_addToImage_23 rfl rfl ?_
    refine x_getI (q := 27) dX11_addToImage_24 rfl kl_RX11_109 (Or.inl rfl) (k243 g1 (by decide) n8) ?_
    refine x_iconst (q := 28) (v := (1 : Int32)) dX11_addToImage_27 rfl (by decide) ?_
    refine x_iadd (q := 29) dX11_addToImage_28 rfl ?_
    replace H := kle H; obtain ⟨h9, q10, H⟩ := H
    refine x_putI (q := 32) dX11_addToImage_29 rfl kl_RX11_109 (Or.inl rfl) rfl (k243 g1 (by decide) n8) ?_
    refine x_nmH q10 ?_
    have n11 : h9.1 = 243 := by rw [q10]; exact n8
    cases H
    exact x_end ⟨dX11_addToImage_32, rfl, rfl⟩
theorem s_X11_addToImage {Z : Nat → (Nat → Nat) → State → Prop} (h : KH) (v0 : Nat) (v1 : Int32) {t : KH} (hn : h.1 = 243) (H : f_X11_addToImage h v0 v1 = some t) : KM Z yX11_addToImage cX11_addToImage 2 none 1 [.ref v0, .int v1] h none t :=
  kx_v (own := RX11) (ini := false) (by decide +kernel) (by decide +kernel) rfl (Nat.le_of_ble_eq_true rfl) (s0_X11_addToImage h v0 v1 hn H)
theorem dX11_checkBehind_0 : decode cX11_checkBehind 0 = .ok (.iconst 3, 1) := by decide +kernel
theorem dX11_checkBehind_1 : decode cX11_checkBehind 1 = .ok (.iload_n 0, 1) := by decide +kernel
theorem dX11_checkBehind_2 : decode cX11_checkBehind 2 = .ok (.imul, 1) := by decide +kernel
theorem dX11_checkBehind_3 : decode cX11_checkBehind 3 = .ok (.iload_n 1, 1) := by decide +kernel
theorem dX11_checkBehind_4 : decode cX11_checkBehind 4 = .ok (.iadd, 1) := by decide +kernel
theorem dX11_checkBehind_5 : decode cX11_checkBehind 5 = .ok (.sipush 251, 3) := by decide +kernel
theorem dX11_checkBehind_8 : decode cX11_checkBehind 8 = .ok (.irem, 1) := by decide +kernel
theorem dX11_checkBehind_9 : decode cX11_checkBehind 9 = .ok (.ireturn, 1) := by decide +kernel
def f_X11_checkBehind (h : KH) (v0 : Int32) (v1 : Int32) : Option (Int32) :=
  some ((((3 : Int32) * v0) + v1) - (((3 : Int32) * v0) + v1) / (251 : Int32) * (251 : Int32))
set_option maxHeartbeats 4000000 in
set_option maxRecDepth 100000 in
theorem s0_X11_checkBehind {Z : Nat → (Nat → Nat) → State → Prop} (h : KH) (v0 : Int32) (v1 : Int32) {t : Int32} (hn : h.1 = 243) (H : f_X11_checkBehind h v0 v1 = some t) : KX Z RX11 cX11_checkBehind 2 false 1 (KRi cX11_checkBehind t h) 0 [(0, .int v0), (1, .int v1)] [] h := by
  unfold f_X11_checkBehind at H
  refine x_iconst (q := 1) (v := (3 : Int32)) dX11_checkBehind_0 rfl (by decide) ?_
  refine x_iload_n (q := 2) dX11_checkBehind_1 rfl rfl ?_
  refine x_imul (q := 3) dX11_checkBehind_2 rfl ?_
  refine x_iload_n (q := 4) dX11_checkBehind_3 rfl rfl ?_
  refine x_iadd (q := 5) dX11_checkBehind_4 rfl ?_
  refine x_sipush (q := 8) (v := (251 : Int32)) dX11_checkBehind_5 rfl (by decide) ?_
  refine x_irem (q := 9) dX11_checkBehind_8 rfl (by decide) ?_
  cases H
  exact x_end ⟨dX11_checkBehind_9, rfl, rfl⟩
theorem s_X11_checkBehind {Z : Nat → (Nat → Nat) → State → Prop} (h : KH) (v0 : Int32) (v1 : Int32) {t : Int32} (hn : h.1 = 243) (H : f_X11_checkBehind h v0 v1 = some t) : KM Z yX11_checkBehind cX11_checkBehind 2 (some .int) 1 [.int v0, .int v1] h (some (.int t)) h :=
  kx_i (own := RX11) (ini := false) (by decide +kernel) (by decide +kernel) rfl (Nat.le_of_ble_eq_true rfl) (s0_X11_checkBehind h v0 v1 hn H)
theorem dX11_image_0 : decode cX11_image 0 = .ok (.aload_n 0, 1) := by decide +kernel
theorem dX11_image_1 : decode cX11_image 1 = .ok (.iconst 0, 1) := by decide +kernel
theorem dX11_image_2 : decode cX11_image 2 = .ok (.putfield 109, 3) := by decide +kernel
theorem dX11_image_5 : decode cX11_image 5 = .ok (.aload_n 0, 1) := by decide +kernel
theorem dX11_image_6 : decode cX11_image 6 = .ok (.aload_n 0, 1) := by decide +kernel
theorem dX11_image_7 : decode cX11_image 7 = .ok (.getfield 67, 3) := by decide +kernel
theorem dX11_image_10 : decode cX11_image 10 = .ok (.getfield 155, 3) := by decide +kernel
theorem dX11_image_13 : decode cX11_image 13 = .ok (.bipush 8, 2) := by decide +kernel
theorem dX11_image_15 : decode cX11_image 15 = .ok (.ishr, 1) := by decide +kernel
theorem dX11_image_16 : decode cX11_image 16 = .ok (.invokevirtual 331, 3) := by decide +kernel
theorem dX11_image_19 : decode cX11_image 19 = .ok (.aload_n 0, 1) := by decide +kernel
theorem dX11_image_20 : decode cX11_image 20 = .ok (.aload_n 0, 1) := by decide +kernel
theorem dX11_image_21 : decode cX11_image 21 = .ok (.getfield 67, 3) := by decide +kernel
theorem dX11_image_24 : decode cX11_image 24 = .ok (.getfield 155, 3) := by decide +kernel
theorem dX11_image_27 : decode cX11_image 27 = .ok (.sipush 255, 3) := by decide +kernel
theorem dX11_image_30 : decode cX11_image 30 = .ok (.iand, 1) := by decide +kernel
theorem dX11_image_31 : decode cX11_image 31 = .ok (.invokevirtual 331, 3) := by decide +kernel
theorem dX11_image_34 : decode cX11_image 34 = .ok (.aload_n 0, 1) := by decide +kernel
theorem dX11_image_35 : decode cX11_image 35 = .ok (.aload_n 0, 1) := by decide +kernel
theorem dX11_image_36 : decode cX11_image 36 = .ok (.getfield 67, 3) := by decide +kernel
theorem dX11_image_39 : decode cX11_image 39 = .ok (.getfield 158, 3) := by decide +kernel
theorem dX11_image_42 : decode cX11_image 42 = .ok (.bipush 8, 2) := by decide +kernel
theorem dX11_image_44 : decode cX11_image 44 = .ok (.ishr, 1) := by decide +kernel
theorem dX11_image_45 : decode cX11_image 45 = .ok (.invokevirtual 331, 3) := by decide +kernel
theorem dX11_image_48 : decode cX11_image 48 = .ok (.aload_n 0, 1) := by decide +kernel
theorem dX11_image_49 : decode cX11_image 49 = .ok (.aload_n 0, 1) := by decide +kernel
theorem dX11_image_50 : decode cX11_image 50 = .ok (.getfield 67, 3) := by decide +kernel
theorem dX11_image_53 : decode cX11_image 53 = .ok (.getfield 158, 3) := by decide +kernel
theorem dX11_image_56 : decode cX11_image 56 = .ok (.sipush 255, 3) := by decide +kernel
theorem dX11_image_59 : decode cX11_image 59 = .ok (.iand, 1) := by decide +kernel
theorem dX11_image_60 : decode cX11_image 60 = .ok (.invokevirtual 331, 3) := by decide +kernel
theorem dX11_image_63 : decode cX11_image 63 = .ok (.iconst 0, 1) := by decide +kernel
theorem dX11_image_64 : decode cX11_image 64 = .ok (.istore_n 1, 1) := by decide +kernel
theorem dX11_image_65 : decode cX11_image 65 = .ok (.iload_n 1, 1) := by decide +kernel
theorem dX11_image_66 : decode cX11_image 66 = .ok (.aload_n 0, 1) := by decide +kernel
theorem dX11_image_67 : decode cX11_image 67 = .ok (.getfield 57, 3) := by decide +kernel
theorem dX11_image_70 : decode cX11_image 70 = .ok (.getfield 146, 3) := by decide +kernel
theorem dX11_image_73 : decode cX11_image 73 = .ok (.if_icmp .ge 35, 3) := by decide +kernel
theorem dX11_image_76 : decode cX11_image 76 = .ok (.aload_n 0, 1) := by decide +kernel
theorem dX11_image_77 : decode cX11_image 77 = .ok (.aload_n 0, 1) := by decide +kernel
theorem dX11_image_78 : decode cX11_image 78 = .ok (.getfield 67, 3) := by decide +kernel
theorem dX11_image_81 : decode cX11_image 81 = .ok (.getfield 194, 3) := by decide +kernel
theorem dX11_image_84 : decode cX11_image 84 = .ok (.iload_n 1, 1) := by decide +kernel
theorem dX11_image_85 : decode cX11_image 85 = .ok (.iaload, 1) := by decide +kernel
theorem dX11_image_86 : decode cX11_image 86 = .ok (.invokevirtual 331, 3) := by decide +kernel
theorem dX11_image_89 : decode cX11_image 89 = .ok (.aload_n 0, 1) := by decide +kernel
theorem dX11_image_90 : decode cX11_image 90 = .ok (.aload_n 0, 1) := by decide +kernel
theorem dX11_image_91 : decode cX11_image 91 = .ok (.getfield 67, 3) := by decide +kernel
theorem dX11_image_94 : decode cX11_image 94 = .ok (.getfield 197, 3) := by decide +kernel
theorem dX11_image_97 : decode cX11_image 97 = .ok (.iload_n 1, 1) := by decide +kernel
theorem dX11_image_98 : decode cX11_image 98 = .ok (.iaload, 1) := by decide +kernel
theorem dX11_image_99 : decode cX11_image 99 = .ok (.invokevirtual 331, 3) := by decide +kernel
theorem dX11_image_102 : decode cX11_image 102 = .ok (.iinc 1 1, 3) := by decide +kernel
theorem dX11_image_105 : decode cX11_image 105 = .ok (.goto (-40), 3) := by decide +kernel
theorem dX11_image_108 : decode cX11_image 108 = .ok (.iconst 0, 1) := by decide +kernel
theorem dX11_image_109 : decode cX11_image 109 = .ok (.istore_n 1, 1) := by decide +kernel
theorem dX11_image_110 : decode cX11_image 110 = .ok (.iload_n 1, 1) := by decide +kernel
theorem dX11_image_111 : decode cX11_image 111 = .ok (.iconst 2, 1) := by decide +kernel
theorem dX11_image_112 : decode cX11_image 112 = .ok (.aload_n 0, 1) := by decide +kernel
theorem dX11_image_113 : decode cX11_image 113 = .ok (.getfield 57, 3) := by decide +kernel
theorem dX11_image_116 : decode cX11_image 116 = .ok (.getfield 149, 3) := by decide +kernel
theorem dX11_image_119 : decode cX11_image 119 = .ok (.imul, 1) := by decide +kernel
theorem dX11_image_120 : decode cX11_image 120 = .ok (.if_icmp .ge 22, 3) := by decide +kernel
theorem dX11_image_123 : decode cX11_image 123 = .ok (.aload_n 0, 1) := by decide +kernel
theorem dX11_image_124 : decode cX11_image 124 = .ok (.aload_n 0, 1) := by decide +kernel
theorem dX11_image_125 : decode cX11_image 125 = .ok (.getfield 67, 3) := by decide +kernel
theorem dX11_image_128 : decode cX11_image 128 = .ok (.getfield 206, 3) := by decide +kernel
theorem dX11_image_131 : decode cX11_image 131 = .ok (.iload_n 1, 1) := by decide +kernel
theorem dX11_image_132 : decode cX11_image 132 = .ok (.iaload, 1) := by decide +kernel
theorem dX11_image_133 : decode cX11_image 133 = .ok (.invokevirtual 331, 3) := by decide +kernel
theorem dX11_image_136 : decode cX11_image 136 = .ok (.iinc 1 1, 3) := by decide +kernel
theorem dX11_image_139 : decode cX11_image 139 = .ok (.goto (-29), 3) := by decide +kernel
theorem dX11_image_142 : decode cX11_image 142 = .ok (.bipush 61, 2) := by decide +kernel
theorem dX11_image_144 : decode cX11_image 144 = .ok (.istore_n 1, 1) := by decide +kernel
theorem dX11_image_145 : decode cX11_image 145 = .ok (.iconst 0, 1) := by decide +kernel
theorem dX11_image_146 : decode cX11_image 146 = .ok (.istore_n 2, 1) := by decide +kernel
theorem dX11_image_147 : decode cX11_image 147 = .ok (.iload_n 2, 1) := by decide +kernel
theorem dX11_image_148 : decode cX11_image 148 = .ok (.aload_n 0, 1) := by decide +kernel
theorem dX11_image_149 : decode cX11_image 149 = .ok (.getfield 109, 3) := by decide +kernel
theorem dX11_image_152 : decode cX11_image 152 = .ok (.if_icmp .ge 20, 3) := by decide +kernel
theorem dX11_image_155 : decode cX11_image 155 = .ok (.iload_n 1, 1) := by decide +kernel
theorem dX11_image_156 : decode cX11_image 156 = .ok (.aload_n 0, 1) := by decide +kernel
theorem dX11_image_157 : decode cX11_image 157 = .ok (.getfield 106, 3) := by decide +kernel
theorem dX11_image_160 : decode cX11_image 160 = .ok (.iload_n 2, 1) := by decide +kernel
theorem dX11_image_161 : decode cX11_image 161 = .ok (.iaload, 1) := by decide +kernel
theorem dX11_image_162 : decode cX11_image 162 = .ok (.invokestatic 334, 3) := by decide +kernel
theorem dX11_image_165 : decode cX11_image 165 = .ok (.istore_n 1, 1) := by decide +kernel
theorem dX11_image_166 : decode cX11_image 166 = .ok (.iinc 2 1, 3) := by decide +kernel
theorem dX11_image_169 : decode cX11_image 169 = .ok (.goto (-22), 3) := by decide +kernel
theorem dX11_image_172 : decode cX11_image 172 = .ok (.aload_n 0, 1) := by decide +kernel
theorem dX11_image_173 : decode cX11_image 173 = .ok (.iload_n 1, 1) := by decide +kernel
theorem dX11_image_174 : decode cX11_image 174 = .ok (.invokevirtual 331, 3) := by decide +kernel
theorem dX11_image_177 : decode cX11_image 177 = .ok (.aload_n 0, 1) := by decide +kernel
theorem dX11_image_178 : decode cX11_image 178 = .ok (.getfield 109, 3) := by decide +kernel
theorem dX11_image_181 : decode cX11_image 181 = .ok (.ireturn, 1) := by decide +kernel
theorem kc_RX11_331 : Cond.methodLink RX11 331 yX11_addToImage ∈ ktG ∧ (Cond.instanceMethod yX11_addToImage ∈ ktG ∧ Cond.selects yX11_addToImage.cls yX11_addToImage yX11_addToImage ∈ ktG) ∧ Cond.initialized yX11_addToImage.cls ∈ ktG ∧ Cond.code yX11_addToImage cX11_addToImage 2 none ∈ ktG := ⟨(kwm 1159 (by decide +kernel) (by decide +kernel)), ⟨(kwm 1161 (by decide +kernel) (by decide +kernel)), (kwm 33 (by decide +kernel) (by decide +kernel))⟩, (kwm 123 (by decide +kernel) (by decide +kernel)), kwm 1162 (by decide +kernel) (by decide +kernel)⟩
theorem kh_X11_addToImage : yX11_addToImage.cls ≠ "java/lang/invoke/MethodHandle" ∧ yX11_addToImage.cls ≠ "java/lang/invoke/VarHandle" ∧ (parseMethodDescriptor yX11_addToImage.desc).map (fun d => d.parameters.length) = some 1 := by decide +kernel
theorem kc_RX11_334 : Cond.methodLink RX11 334 yX11_checkBehind ∈ ktG ∧ Cond.static yX11_checkBehind ∈ ktG ∧ Cond.initialized yX11_checkBehind.cls ∈ ktG ∧ Cond.code yX11_checkBehind cX11_checkBehind 2 (some .int) ∈ ktG := ⟨(kwm 1163 (by decide +kernel) (by decide +kernel)), (kwm 1164 (by decide +kernel) (by decide +kernel)), (kwm 123 (by decide +kernel) (by decide +kernel)), kwm 1165 (by decide +kernel) (by decide +kernel)⟩
theorem kh_X11_checkBehind : yX11_checkBehind.cls ≠ "java/lang/invoke/MethodHandle" ∧ yX11_checkBehind.cls ≠ "java/lang/invoke/VarHandle" ∧ (parseMethodDescriptor yX11_checkBehind.desc).map (fun d => d.parameters.length) = some 2 := by decide +kernel
def E_X11_image_l65 (v0 : Nat) : KH → Nat → List (Nat × Value) → List Value → KH → Prop := fun (e : KH) pc ls st hh => pc = 108 ∧ ls = [(0, .ref v0)] ∧ st = [] ∧ e = hh
def B_X11_image_l65 (v0 : Nat) : ((Int32 × KH) ⊕ (KH)) → Nat → List (Nat × Value) → List Value → KH → Prop := Sum.elim (fun (s : Int32 × KH) pc ls st hh => pc = 65 ∧ ls = [(0, .ref v0), (1, .int s.1)] ∧ st = [] ∧ hh = s.2) (E_X11_image_l65 v0)
def f_X11_image_l65 (v0 : Nat) (s : Int32 × KH) : Option ((Int32 × KH) ⊕ (KH)) :=
  if kkind v0 = 11 then if (kR s.2 v0 5) < 999999 then if kkind (kR s.2 v0 5) = 2 then if (kI s.2 (kR s.2 v0 5) 4) ≤ s.1 then
  some (.inr s.2)
  else
  if (kR s.2 v0 7) < 999999 then if kkind (kR s.2 v0 7) = 8 then if (kR s.2 (kR s.2 v0 7) 3) < 999999 then if kkind (kR s.2 (kR s.2 v0 7) 3) = 20 then if (s.1 < 0 ∨ klen (kR s.2 (kR s.2 v0 7) 3) ≤ (s.1).toNatClampNeg) then none else kb (f_X11_addToImage s.2 v0 (kI s.2 (kR s.2 (kR s.2 v0 7) 3) ((s.1).toNatClampNeg))) fun r10 =>
  if (kR r10 v0 7) < 999999 then if kkind (kR r10 v0 7) = 8 then if (kR r10 (kR r10 v0 7) 4) < 999999 then if kkind (kR r10 (kR r10 v0 7) 4) = 20 then if (s.1 < 0 ∨ klen (kR r10 (kR r10 v0 7) 4) ≤ (s.1).toNatClampNeg) then none else kb (f_X11_addToImage r10 v0 (kI r10 (kR r10 (kR r10 v0 7) 4) ((s.1).toNatClampNeg))) fun r19 =>
  kl (s.1 + (1 : Int32)) fun x23 =>
  some (.inl (x23, r19)) else none else none else none else none else none else none else none else none else none else none else none
set_option maxHeartbeats 4000000 in
set_option maxRecDepth 100000 in
theorem s_X11_image_l65 {Z : Nat → (Nat → Nat) → State → Prop} (v0 : Nat) (s : Int32 × KH) (t : (Int32 × KH) ⊕ (KH)) (hn : (s.2).1 = 243) (H : f_X11_image_l65 v0 s = some t) : KX Z RX11 cX11_image 3 false 2 (B_X11_image_l65 v0 t) 65 [(0, .ref v0), (1, .int s.1)] [] s.2 := by
  unfold f_X11_image_l65 at H
  refine x_iload_n (q := 66) dX11_image_65 rfl rfl ?_
  refine x_aload_n (q := 67) dX11_image_66 rfl rfl ?_
  replace H := kif H; obtain ⟨g1, H⟩ := H
  replace H := kif H; obtain ⟨g2, H⟩ := H
  refine x_getR (q := 70) dX11_image_67 rfl kl_RX11_57 rfl (k243 g1 (by decide) hn) g2 ?_
  replace H := kif H; obtain ⟨g3, H⟩ := H
  refine x_getI (q := 73) dX11_image_70 rfl kl_RX11_146 (Or.inl rfl) (k243 g3 (by decide) hn) ?_
  replace H := kite H; rcases H with ⟨g4, H⟩ | ⟨g4, H⟩
  · refine x_icmp_ge_t dX11_image_73 (q := 108) (by decide) g4 ?_
    cases H
    refine x_sub (ls2 := [(0, .ref v0)]) [0] rfl ?_
    exact x_end (x_cfg rfl)
  · refine x_icmp_ge_f (q := 76) dX11_image_73 (t := 108) (by decide) rfl g4 ?_
    refine x_aload_n (q := 77) dX11_image_76 rfl rfl ?_
    refine x_aload_n (q := 78) dX11_image_77 rfl rfl ?_
    replace H := kif H; obtain ⟨g5, H⟩ := H
    refine x_getR (q := 81) dX11_image_78 rfl kl_RX11_67 rfl (k243 g1 (by decide) hn) g5 ?_
    replace H := kif H; obtain ⟨g6, H⟩ := H
    replace H := kif H; obtain ⟨g7, H⟩ := H
    refine x_getR (q := 84) dX11_image_81 rfl kl_RX11_194 rfl (k243 g6 (by decide) hn) g7 ?_
    refine x_iload_n (q := 85) dX11_image_84 rfl rfl ?_
    replace H := kif H; obtain ⟨g8, H⟩ := H
    replace H := kifn H; obtain ⟨g9, H⟩ := H
    refine x_iald (q := 86) dX11_image_85 rfl (k243 g8 (by decide) hn) g9 ?_
    replace H := kbe H; obtain ⟨r10, c11, H⟩ := H
    have m12 := s_X11_addToImage (Z := Z) s.2 v0 (kI s.2 (kR s.2 (kR s.2 v0 7) 3) ((s.1).toNatClampNeg)) hn c11
    refine x_callV (q := 89) (as := [.int (kI s.2 (kR s.2 (kR s.2 v0 7) 3) ((s.1).toNatClampNeg))]) (rest := []) dX11_image_86 rfl kc_RX11_331 kh_X11_addToImage (by decide) (Nat.le_of_ble_eq_true rfl) m12 (ci := 11) (by exact ⟨rfl, by decide⟩) (k243 g1 (by decide) hn) ?_
    have n13 : (r10).1 = 243 := m12.1.full hn
    refine x_aload_n (q := 90) dX11_image_89 rfl rfl ?_
    refine x_aload_n (q := 91) dX11_image_90 rfl rfl ?_
    replace H := kif H; obtain ⟨g14, H⟩ := H
    refine x_getR (q := 94) dX11_image_91 rfl kl_RX11_67 rfl (k243 g1 (by decide) n13) g14 ?_
    replace H := kif H; obtain ⟨g15, H⟩ := H
    replace H := kif H; obtain ⟨g16, H⟩ := H
    refine x_getR (q := 97) dX11_image_94 rfl kl_RX11_197 rfl (k243 g15 (by decide) n13) g16 ?_
    refine x_iload_n (q := 98) dX11_image_97 rfl rfl ?_
    replace H := kif H; obtain ⟨g17, H⟩ := H
    replace H := kifn H; obtain ⟨g18, H⟩ := H
    refine x_iald (q := 99) dX11_image_98 rfl (k243 g17 (by decide) n13) g18 ?_
    replace H := kbe H; obtain ⟨r19, c20, H⟩ := H
    have m21 := s_X11_addToImage (Z := Z) r10 v0 (kI r10 (kR r10 (kR r10 v0 7) 4) ((s.1).toNatClampNeg)) n13 c20
    refine x_callV (q := 102) (as := [.int (kI r10 (kR r10 (kR r10 v0 7) 4) ((s.1).toNatClampNeg))]) (rest := []) dX11_image_99 rfl kc_RX11_331 kh_X11_addToImage (by decide) (Nat.le_of_ble_eq_true rfl) m21 (ci := 11) (by exact ⟨rfl, by decide⟩) (k243 g1 (by decide) n13) ?_
    have n22 : (r19).1 = 243 := m21.1.full n13
    replace H := kle H; obtain ⟨x23, q24, H⟩ := H
    refine x_iinc (q := 105) (i := 1) (ls2 := [(1, .int x23), (0, .ref v0)]) dX11_image_102 rfl rfl (by decide) (by rw [q24]; rfl) ?_
    refine x_goto dX11_image_105 (q := 65) (by decide) ?_
    cases H
    refine x_sub (ls2 := [(0, .ref v0), (1, .int x23)]) [1, 0] rfl ?_
    exact x_end (x_cfg rfl)
theorem sl_X11_image_l65 {Z : Nat → (Nat → Nat) → State → Prop} (v0 : Nat) (n : Nat) (s : Int32 × KH) (r : KH) (hn : (s.2).1 = 243) (H : kloop (f_X11_image_l65 v0) n s = some r) : KX Z RX11 cX11_image 3 false 2 (E_X11_image_l65 v0 r) 65 [(0, .ref v0), (1, .int s.1)] [] s.2 :=
  k_loop (ls := (fun (s : Int32 × KH) => ([(0, .ref v0), (1, .int s.1)] : List (Nat × Value)))) (hp := (fun (s : Int32 × KH) => (s.2 : KH))) (G := E_X11_image_l65 v0) (fun s t hn H => s_X11_image_l65 v0 s t hn H) n s r hn H
def E_X11_image_l110 (v0 : Nat) : KH → Nat → List (Nat × Value) → List Value → KH → Prop := fun (e : KH) pc ls st hh => pc = 142 ∧ ls = [(0, .ref v0)] ∧ st = [] ∧ e = hh
def B_X11_image_l110 (v0 : Nat) : ((Int32 × KH) ⊕ (KH)) → Nat → List (Nat × Value) → List Value → KH → Prop := Sum.elim (fun (s : Int32 × KH) pc ls st hh => pc = 110 ∧ ls = [(0, .ref v0), (1, .int s.1)] ∧ st = [] ∧ hh = s.2) (E_X11_image_l110 v0)
def f_X11_image_l110 (v0 : Nat) (s : Int32 × KH) : Option ((Int32 × KH) ⊕ (KH)) :=
  if kkind v0 = 11 then if (kR s.2 v0 5) < 999999 then if kkind (kR s.2 v0 5) = 2 then if ((2 : Int32) * (kI s.2 (kR s.2 v0 5) 5)) ≤ s.1 then
  some (.inr s.2)
  else
  if (kR s.2 v0 7) < 999999 then if kkind (kR s.2 v0 7) = 8 then if (kR s.2 (kR s.2 v0 7) 5) < 999999 then if kkind (kR s.2 (kR s.2 v0 7) 5) = 20 then if (s.1 < 0 ∨ klen (kR s.2 (kR s.2 v0 7) 5) ≤ (s.1).toNatClampNeg) then none else kb (f_X11_addToImage s.2 v0 (kI s.2 (kR s.2 (kR s.2 v0 7) 5) ((s.1).toNatClampNeg))) fun r10 =>
  kl (s.1 + (1 : Int32)) fun x14 =>
  some (.inl (x14, r10)) else none else none else none else none else none else none else none
set_option maxHeartbeats 4000000 in
set_option maxRecDepth 100000 in
theorem s_X11_image_l110 {Z : Nat → (Nat → Nat) → State → Prop} (v0 : Nat) (s : Int32 × KH) (t : (Int32 × KH) ⊕ (KH)) (hn : (s.2).1 = 243) (H : f_X11_image_l110 v0 s = some t) : KX Z RX11 cX11_image 3 false 2 (B_X11_image_l110 v0 t) 110 [(0, .ref v0), (1, .int s.1)] [] s.2 := by
  unfold f_X11_image_l110 at H
  refine x_iload_n (q := 111) dX11_image_110 rfl rfl ?_
  refine x_iconst (q := 112) (v := (2 : Int32)) dX11_image_111 rfl (by decide) ?_
  refine x_aload_n (q := 113) dX11_image_112 rfl rfl ?_
  replace H := kif H; obtain ⟨g1, H⟩ := H
  replace H := kif H; obtain ⟨g2, H⟩ := H
  refine x_getR (q := 116) dX11_image_113 rfl kl_RX11_57 rfl (k243 g1 (by decide) hn) g2 ?_
  replace H := kif H; obtain ⟨g3, H⟩ := H
  refine x_getI (q := 119) dX11_image_116 rfl kl_RX11_149 (Or.inl rfl) (k243 g3 (by decide) hn) ?_
  refine x_imul (q := 120) dX11_image_119 rfl ?_
  replace H := kite H; rcases H with ⟨g4, H⟩ | ⟨g4, H⟩
  · refine x_icmp_ge_t dX11_image_120 (q := 142) (by decide) g4 ?_
    cases H
    refine x_sub (ls2 := [(0, .ref v0)]) [0] rfl ?_
    exact x_end (x_cfg rfl)
  · refine x_icmp_ge_f (q := 123) dX11_image_120 (t := 142) (by decide) rfl g4 ?_
    refine x_aload_n (q := 124) dX11_image_123 rfl rfl ?_
    refine x_aload_n (q := 125) dX11_image_124 rfl rfl ?_
    replace H := kif H; obtain ⟨g5, H⟩ := H
    refine x_getR (q := 128) dX11_image_125 rfl kl_RX11_67 rfl (k243 g1 (by decide) hn) g5 ?_
    replace H := kif H; obtain ⟨g6, H⟩ := H
    replace H := kif H; obtain ⟨g7, H⟩ := H
    refine x_getR (q := 131) dX11_image_128 rfl kl_RX11_206 rfl (k243 g6 (by decide) hn) g7 ?_
    refine x_iload_n (q := 132) dX11_image_131 rfl rfl ?_
    replace H := kif H; obtain ⟨g8, H⟩ := H
    replace H := kifn H; obtain ⟨g9, H⟩ := H
    refine x_iald (q := 133) dX11_image_132 rfl (k243 g8 (by decide) hn) g9 ?_
    replace H := kbe H; obtain ⟨r10, c11, H⟩ := H
    have m12 := s_X11_addToImage (Z := Z) s.2 v0 (kI s.2 (kR s.2 (kR s.2 v0 7) 5) ((s.1).toNatClampNeg)) hn c11
    refine x_callV (q := 136) (as := [.int (kI s.2 (kR s.2 (kR s.2 v0 7) 5) ((s.1).toNatClampNeg))]) (rest := []) dX11_image_133 rfl kc_RX11_331 kh_X11_addToImage (by decide) (Nat.le_of_ble_eq_true rfl) m12 (ci := 11) (by exact ⟨rfl, by decide⟩) (k243 g1 (by decide) hn) ?_
    have n13 : (r10).1 = 243 := m12.1.full hn
    replace H := kle H; obtain ⟨x14, q15, H⟩ := H
    refine x_iinc (q := 139) (i := 1) (ls2 := [(1, .int x14), (0, .ref v0)]) dX11_image_136 rfl rfl (by decide) (by rw [q15]; rfl) ?_
    refine x_goto dX11_image_139 (q := 110) (by decide) ?_
    cases H
    refine x_sub (ls2 := [(0, .ref v0), (1, .int x14)]) [1, 0] rfl ?_
    exact x_end (x_cfg rfl)
theorem sl_X11_image_l110 {Z : Nat → (Nat → Nat) → State → Prop} (v0 : Nat) (n : Nat) (s : Int32 × KH) (r : KH) (hn : (s.2).1 = 243) (H : kloop (f_X11_image_l110 v0) n s = some r) : KX Z RX11 cX11_image 3 false 2 (E_X11_image_l110 v0 r) 110 [(0, .ref v0), (1, .int s.1)] [] s.2 :=
  k_loop (ls := (fun (s : Int32 × KH) => ([(0, .ref v0), (1, .int s.1)] : List (Nat × Value)))) (hp := (fun (s : Int32 × KH) => (s.2 : KH))) (G := E_X11_image_l110 v0) (fun s t hn H => s_X11_image_l110 v0 s t hn H) n s r hn H
def E_X11_image_l147 (h : KH) (v0 : Nat) : Int32 → Nat → List (Nat × Value) → List Value → KH → Prop := fun (e : Int32) pc ls st hh => pc = 172 ∧ ls = [(0, .ref v0), (1, .int e)] ∧ st = [] ∧ h = hh
def B_X11_image_l147 (h : KH) (v0 : Nat) : ((Int32 × Int32) ⊕ (Int32)) → Nat → List (Nat × Value) → List Value → KH → Prop := Sum.elim (fun (s : Int32 × Int32) pc ls st hh => pc = 147 ∧ ls = [(0, .ref v0), (1, .int s.1), (2, .int s.2)] ∧ st = [] ∧ hh = h) (E_X11_image_l147 h v0)
def f_X11_image_l147 (h : KH) (v0 : Nat) (s : Int32 × Int32) : Option ((Int32 × Int32) ⊕ (Int32)) :=
  if kkind v0 = 11 then if (kI h v0 16) ≤ s.2 then
  some (.inr s.1)
  else
  if (kR h v0 15) < 999999 then if kkind (kR h v0 15) = 20 then if (s.2 < 0 ∨ klen (kR h v0 15) ≤ (s.2).toNatClampNeg) then none else kb (f_X11_checkBehind h s.1 (kI h (kR h v0 15) ((s.2).toNatClampNeg))) fun r6 =>
  kl (s.2 + (1 : Int32)) fun x9 =>
  some (.inl (r6, x9)) else none else none else none
set_option maxHeartbeats 4000000 in
set_option maxRecDepth 100000 in
theorem s_X11_image_l147 {Z : Nat → (Nat → Nat) → State → Prop} (h : KH) (v0 : Nat) (s : Int32 × Int32) (t : (Int32 × Int32) ⊕ (Int32)) (hn : (h).1 = 243) (H : f_X11_image_l147 h v0 s = some t) : KX Z RX11 cX11_image 3 false 2 (B_X11_image_l147 h v0 t) 147 [(0, .ref v0), (1, .int s.1), (2, .int s.2)] [] h := by
  unfold f_X11_image_l147 at H
  refine x_iload_n (q := 148) dX11_image_147 rfl rfl ?_
  refine x_aload_n (q := 149) dX11_image_148 rfl rfl ?_
  replace H := kif H; obtain ⟨g1, H⟩ := H
  refine x_getI (q := 152) dX11_image_149 rfl kl_RX11_109 (Or.inl rfl) (k243 g1 (by decide) hn) ?_
  replace H := kite H; rcases H with ⟨g2, H⟩ | ⟨g2, H⟩
  · refine x_icmp_ge_t dX11_image_152 (q := 172) (by decide) g2 ?_
    cases H
    refine x_sub (ls2 := [(0, .ref v0), (1, .int s.1)]) [0, 1] rfl ?_
    exact x_end (x_cfg rfl)
  · refine x_icmp_ge_f (q := 155) dX11_image_152 (t := 172) (by decide) rfl g2 ?_
    refine x_iload_n (q := 156) dX11_image_155 rfl rfl ?_
    refine x_aload_n (q := 157) dX11_image_156 rfl rfl ?_
    replace H := kif H; obtain ⟨g3, H⟩ := H
    refine x_getR (q := 160) dX11_image_157 rfl kl_RX11_106 rfl (k243 g1 (by decide) hn) g3 ?_
    refine x_iload_n (q := 161) dX11_image_160 rfl rfl ?_
    replace H := kif H; obtain ⟨g4, H⟩ := H
    replace H := kifn H; obtain ⟨g5, H⟩ := H
    refine x_iald (q := 162) dX11_image_161 rfl (k243 g4 (by decide) hn) g5 ?_
    replace H := kbe H; obtain ⟨r6, c7, H⟩ := H
    have m8 := s_X11_checkBehind (Z := Z) h s.1 (kI h (kR h v0 15) ((s.2).toNatClampNeg)) hn c7
    refine x_callS (q := 165) (as := [.int s.1, .int (kI h (kR h v0 15) ((s.2).toNatClampNeg))]) (rest := []) dX11_image_162 rfl kc_RX11_334 kh_X11_checkBehind (by decide) (Nat.le_of_ble_eq_true rfl) m8 ?_
    refine x_istore_n (q := 166) (i := 1) (ls2 := [(1, .int r6), (0, .ref v0), (2, .int s.2)]) dX11_image_165 rfl rfl (by decide) rfl ?_
    replace H := kle H; obtain ⟨x9, q10, H⟩ := H
    refine x_iinc (q := 169) (i := 2) (ls2 := [(2, .int x9), (1, .int r6), (0, .ref v0)]) dX11_image_166 rfl rfl (by decide) (by rw [q10]; rfl) ?_
    refine x_goto dX11_image_169 (q := 147) (by decide) ?_
    cases H
    refine x_sub (ls2 := [(0, .ref v0), (1, .int r6), (2, .int x9)]) [2, 1, 0] rfl ?_
    exact x_end (x_cfg rfl)
theorem sl_X11_image_l147 {Z : Nat → (Nat → Nat) → State → Prop} (h : KH) (v0 : Nat) (n : Nat) (s : Int32 × Int32) (r : Int32) (hn : (h).1 = 243) (H : kloop (f_X11_image_l147 h v0) n s = some r) : KX Z RX11 cX11_image 3 false 2 (E_X11_image_l147 h v0 r) 147 [(0, .ref v0), (1, .int s.1), (2, .int s.2)] [] h :=
  k_loop (ls := (fun (s : Int32 × Int32) => ([(0, .ref v0), (1, .int s.1), (2, .int s.2)] : List (Nat × Value)))) (hp := (fun (s : Int32 × Int32) => (h : KH))) (G := E_X11_image_l147 h v0) (fun s t hn H => s_X11_image_l147 h v0 s t hn H) n s r hn H
def f_X11_image (h : KH) (v0 : Nat) : Option (Int32 × KH) :=
  if kkind v0 = 11 then kl (ksI h v0 16 (0 : Int32)) fun h2 =>
  if (kR h2 v0 7) < 999999 then if kkind (kR h2 v0 7) = 8 then kb (f_X11_addToImage h2 v0 ((kI h2 (kR h2 v0 7) 0) >>> ((8 : Int32) &&& 31))) fun r7 =>
  if (kR r7 v0 7) < 999999 then if kkind (kR r7 v0 7) = 8 then kb (f_X11_addToImage r7 v0 ((kI r7 (kR r7 v0 7) 0) &&& (255 : Int32))) fun r13 =>
  if (kR r13 v0 7) < 999999 then if kkind (kR r13 v0 7) = 8 then kb (f_X11_addToImage r13 v0 ((kI r13 (kR r13 v0 7) 1) >>> ((8 : Int32) &&& 31))) fun r19 =>
  if (kR r19 v0 7) < 999999 then if kkind (kR r19 v0 7) = 8 then kb (f_X11_addToImage r19 v0 ((kI r19 (kR r19 v0 7) 1) &&& (255 : Int32))) fun r25 =>
  kb (kloop (f_X11_image_l65 v0) KF ((0 : Int32), r25)) fun e29 =>
  kb (kloop (f_X11_image_l110 v0) KF ((0 : Int32), e29)) fun e32 =>
  kb (kloop (f_X11_image_l147 e32 v0) KF ((61 : Int32), (0 : Int32))) fun e35 =>
  kb (f_X11_addToImage e32 v0 e35) fun r38 =>
  some ((kI r38 v0 16), r38) else none else none else none else none else none else none else none else none else none
set_option maxHeartbeats 4000000 in
set_option maxRecDepth 100000 in
theorem s0_X11_image {Z : Nat → (Nat → Nat) → State → Prop} (h : KH) (v0 : Nat) {t : Int32 × KH} (hn : h.1 = 243) (H : f_X11_image h v0 = some t) : KX Z RX11 cX11_image 3 false 2 (KRi cX11_image t.1 t.2) 0 [(0, .ref v0)] [] h := by
  unfold f_X11_image at H
  refine x_aload_n (q := 1) dX11_image_0 rfl rfl ?_
  refine x_iconst (q := 2) (v := (0 : Int32)) dX11_image_1 rfl (by decide) ?_
  replace H := kif H; obtain ⟨g1, H⟩ := H
  replace H := kle H; obtain ⟨h2, q3, H⟩ := H
  refine x_putI (q := 5) dX11_image_2 rfl kl_RX11_109 (Or.inl rfl) rfl (k243 g1 (by decide) hn) ?_
  refine x_nmH q3 ?_
  have n4 : h2.1 = 243 := by rw [q3]; exact hn
  refine x_aload_n (q := 6) dX11_image_5 rfl rfl ?_
  refine x_aload_n (q := 7) dX11_image_6 rfl rfl ?_
  replace H := kif H; obtain ⟨g5, H⟩ := H
  refine x_getR (q := 10) dX11_image_7 rfl kl_RX11_67 rfl (k243 g1 (by decide) n4) g5 ?_
  replace H := kif H; obtain ⟨g6, H⟩ := H
  refine x_getI (q := 13) dX11_image_10 rfl kl_RX11_155 (Or.inl rfl) (k243 g6 (by decide) n4) ?_
  refine x_bipush (q := 15) (v := (8 : Int32)) dX11_image_13 rfl (by decide) ?_
  refine x_ishr (q := 16) dX11_image_15 rfl ?_
  replace H := kbe H; obtain ⟨r7, c8, H⟩ := H
  have m9 := s_X11_addToImage (Z := Z) h2 v0 ((kI h2 (kR h2 v0 7) 0) >>> ((8 : Int32) &&& 31)) n4 c8
  refine x_callV (q := 19) (as := [.int ((kI h2 (kR h2 v0 7) 0) >>> ((8 : Int32) &&& 31))]) (rest := []) dX11_image_16 rfl kc_RX11_331 kh_X11_addToImage (by decide) (Nat.le_of_ble_eq_true rfl) m9 (ci := 11) (by exact ⟨rfl, by decide⟩) (k243 g1 (by decide) n4) ?_
  have n10 : (r7).1 = 243 := m9.1.full n4
  refine x_aload_n (q := 20) dX11_image_19 rfl rfl ?_
  refine x_aload_n (q := 21) dX11_image_20 rfl rfl ?_
  replace H := kif H; obtain ⟨g11, H⟩ := H
  refine x_getR (q := 24) dX11_image_21 rfl kl_RX11_67 rfl (k243 g1 (by decide) n10) g11 ?_
  replace H := kif H; obtain ⟨g12, H⟩ := H
  refine x_getI (q := 27) dX11_image_24 rfl kl_RX11_155 (Or.inl rfl) (k243 g12 (by decide) n10) ?_
  refine x_sipush (q := 30) (v := (255 : Int32)) dX11_image_27 rfl (by decide) ?_
  refine x_iand (q := 31) dX11_image_30 rfl ?_
  replace H := kbe H; obtain ⟨r13, c14, H⟩ := H
  have m15 := s_X11_addToImage (Z := Z) r7 v0 ((kI r7 (kR r7 v0 7) 0) &&& (255 : Int32)) n10 c14
  refine x_callV (q := 34) (as := [.int ((kI r7 (kR r7 v0 7) 0) &&& (255 : Int32))]) (rest := []) dX11_image_31 rfl kc_RX11_331 kh_X11_addToImage (by decide) (Nat.le_of_ble_eq_true rfl) m15 (ci := 11) (by exact ⟨rfl, by decide⟩) (k243 g1 (by decide) n10) ?_
  have n16 : (r13).1 = 243 := m15.1.full n10
  refine x_aload_n (q := 35) dX11_image_34 rfl rfl ?_
  refine x_aload_n (q := 36) dX11_image_35 rfl rfl ?_
  replace H := kif H; obtain ⟨g17, H⟩ := H
  refine x_getR (q := 39) dX11_image_36 rfl kl_RX11_67 rfl (k243 g1 (by decide) n16) g17 ?_
  replace H := kif H; obtain ⟨g18, H⟩ := H
  refine x_getI (q := 42) dX11_image_39 rfl kl_RX11_158 (Or.inl rfl) (k243 g18 (by decide) n16) ?_
  refine x_bipush (q := 44) (v := (8 : Int32)) dX11_image_42 rfl (by decide) ?_
  refine x_ishr (q := 45) dX11_image_44 rfl ?_
  replace H := kbe H; obtain ⟨r19, c20, H⟩ := H
  have m21 := s_X11_addToImage (Z := Z) r13 v0 ((kI r13 (kR r13 v0 7) 1) >>> ((8 : Int32) &&& 31)) n16 c20
  refine x_callV (q := 48) (as := [.int ((kI r13 (kR r13 v0 7) 1) >>> ((8 : Int32) &&& 31))]) (rest := []) dX11_image_45 rfl kc_RX11_331 kh_X11_addToImage (by decide) (Nat.le_of_ble_eq_true rfl) m21 (ci := 11) (by exact ⟨rfl, by decide⟩) (k243 g1 (by decide) n16) ?_
  have n22 : (r19).1 = 243 := m21.1.full n16
  refine x_aload_n (q := 49) dX11_image_48 rfl rfl ?_
  refine x_aload_n (q := 50) dX11_image_49 rfl rfl ?_
  replace H := kif H; obtain ⟨g23, H⟩ := H
  refine x_getR (q := 53) dX11_image_50 rfl kl_RX11_67 rfl (k243 g1 (by decide) n22) g23 ?_
  replace H := kif H; obtain ⟨g24, H⟩ := H
  refine x_getI (q := 56) dX11_image_53 rfl kl_RX11_158 (Or.inl rfl) (k243 g24 (by decide) n22) ?_
  refine x_sipush (q := 59) (v := (255 : Int32)) dX11_image_56 rfl (by decide) ?_
  refine x_iand (q := 60) dX11_image_59 rfl ?_
  replace H := kbe H; obtain ⟨r25, c26, H⟩ := H
  have m27 := s_X11_addToImage (Z := Z) r19 v0 ((kI r19 (kR r19 v0 7) 1) &&& (255 : Int32)) n22 c26
  refine x_callV (q := 63) (as := [.int ((kI r19 (kR r19 v0 7) 1) &&& (255 : Int32))]) (rest := []) dX11_image_60 rfl kc_RX11_331 kh_X11_addToImage (by decide) (Nat.le_of_ble_eq_true rfl) m27 (ci := 11) (by exact ⟨rfl, by decide⟩) (k243 g1 (by decide) n22) ?_
  have n28 : (r25).1 = 243 := m27.1.full n22
  refine x_iconst (q := 64) (v := (0 : Int32)) dX11_image_63 rfl (by decide) ?_
  refine x_istore_n (q := 65) (i := 1) (ls2 := [(1, .int (0 : Int32)), (0, .ref v0)]) dX11_image_64 rfl rfl (by decide) rfl ?_
  refine x_sub (ls2 := [(0, .ref v0), (1, .int (0 : Int32))]) [1, 0] rfl ?_
  replace H := kbe H; obtain ⟨e29, c30, H⟩ := H
  refine x_app (sl_X11_image_l65 v0 KF ((0 : Int32), r25) e29 n28 c30) fun pc2 ls2 st2 h2 hg m31 => ?_
  obtain ⟨rfl, rfl, rfl, rfl⟩ := hg
  refine x_iconst (q := 109) (v := (0 : Int32)) dX11_image_108 rfl (by decide) ?_
  refine x_istore_n (q := 110) (i := 1) (ls2 := [(1, .int (0 : Int32)), (0, .ref v0)]) dX11_image_109 rfl rfl (by decide) rfl ?_
  refine x_sub (ls2 := [(0, .ref v0), (1, .int (0 : Int32))]) [1, 0] rfl ?_
  replace H := kbe H; obtain ⟨e32, c33, H⟩ := H
  refine x_app (sl_X11_image_l110 v0 KF ((0 : Int32), e29) e32 (m31.full n28) c33) fun pc2 ls2 st2 h2 hg m34 => ?_
  obtain ⟨rfl, rfl, rfl, rfl⟩ := hg
  refine x_bipush (q := 144) (v := (61 : Int32)) dX11_image_142 rfl (by decide) ?_
  refine x_istore_n (q := 145) (i := 1) (ls2 := [(1, .int (61 : Int32)), (0, .ref v0)]) dX11_image_144 rfl rfl (by decide) rfl ?_
  refine x_iconst (q := 146) (v := (0 : Int32)) dX11_image_145 rfl (by decide) ?_
  refine x_istore_n (q := 147) (i := 2) (ls2 := [(2, .int (0 : Int32)), (1, .int (61 : Int32)), (0, .ref v0)]) dX11_image_146 rfl rfl (by decide) rfl ?_
  refine x_sub (ls2 := [(0, .ref v0), (1, .int (61 : Int32)), (2, .int (0 : Int32))]) [2, 1, 0] rfl ?_
  replace H := kbe H; obtain ⟨e35, c36, H⟩ := H
  refine x_app (sl_X11_image_l147 e32 v0 KF ((61 : Int32), (0 : Int32)) e35 (m34.full (m31.full n28)) c36) fun pc2 ls2 st2 h2 hg m37 => ?_
  obtain ⟨rfl, rfl, rfl, rfl⟩ := hg
  refine x_aload_n (q := 173) dX11_image_172 rfl rfl ?_
  refine x_iload_n (q := 174) dX11_image_173 rfl rfl ?_
  replace H := kbe H; obtain ⟨r38, c39, H⟩ := H
  have m40 := s_X11_addToImage (Z := Z) e32 v0 e35 (m34.full (m31.full n28)) c39
  refine x_callV (q := 177) (as := [.int e35]) (rest := []) dX11_image_174 rfl kc_RX11_331 kh_X11_addToImage (by decide) (Nat.le_of_ble_eq_true rfl) m40 (ci := 11) (by exact ⟨rfl, by decide⟩) (k243 g1 (by decide) (m34.full (m31.full n28))) ?_
  have n41 : (r38).1 = 243 := m40.1.full (m34.full (m31.full n28))
  refine x_aload_n (q := 178) dX11_image_177 rfl rfl ?_
  refine x_getI (q := 181) dX11_image_178 rfl kl_RX11_109 (Or.inl rfl) (k243 g1 (by decide) n41) ?_
  cases H
  exact x_end ⟨dX11_image_181, rfl, rfl⟩
theorem s_X11_image {Z : Nat → (Nat → Nat) → State → Prop} (h : KH) (v0 : Nat) {t : Int32 × KH} (hn : h.1 = 243) (H : f_X11_image h v0 = some t) : KM Z yX11_image cX11_image 3 (some .int) 2 [.ref v0] h (some (.int t.1)) t.2 :=
  kx_i (own := RX11) (ini := false) (by decide +kernel) (by decide +kernel) rfl (Nat.le_of_ble_eq_true rfl) (s0_X11_image h v0 hn H)
theorem dX11_octet_0 : decode cX11_octet 0 = .ok (.iload_n 1, 1) := by decide +kernel
theorem dX11_octet_1 : decode cX11_octet 1 = .ok (.ifCond .lt 20, 3) := by decide +kernel
theorem dX11_octet_4 : decode cX11_octet 4 = .ok (.iload_n 1, 1) := by decide +kernel
theorem dX11_octet_5 : decode cX11_octet 5 = .ok (.aload_n 0, 1) := by decide +kernel
theorem dX11_octet_6 : decode cX11_octet 6 = .ok (.getfield 109, 3) := by decide +kernel
theorem dX11_octet_9 : decode cX11_octet 9 = .ok (.if_icmp .ge 12, 3) := by decide +kernel
theorem dX11_octet_12 : decode cX11_octet 12 = .ok (.aload_n 0, 1) := by decide +kernel
theorem dX11_octet_13 : decode cX11_octet 13 = .ok (.getfield 106, 3) := by decide +kernel
theorem dX11_octet_16 : decode cX11_octet 16 = .ok (.iload_n 1, 1) := by decide +kernel
theorem dX11_octet_17 : decode cX11_octet 17 = .ok (.iaload, 1) := by decide +kernel
theorem dX11_octet_18 : decode cX11_octet 18 = .ok (.goto 4, 3) := by decide +kernel
theorem dX11_octet_21 : decode cX11_octet 21 = .ok (.iconst (-1), 1) := by decide +kernel
theorem dX11_octet_22 : decode cX11_octet 22 = .ok (.ireturn, 1) := by decide +kernel
def f_X11_octet (h : KH) (v0 : Nat) (v1 : Int32) : Option (Int32) :=
  if v1 < 0 then
  some (-1 : Int32)
  else
  if kkind v0 = 11 then if (kI h v0 16) ≤ v1 then
  some (-1 : Int32)
  else
  if (kR h v0 15) < 999999 then if kkind (kR h v0 15) = 20 then if (v1 < 0 ∨ klen (kR h v0 15) ≤ (v1).toNatClampNeg) then none else some (kI h (kR h v0 15) ((v1).toNatClampNeg)) else none else none else none
set_option maxHeartbeats 4000000 in
set_option maxRecDepth 100000 in
theorem s0_X11_octet {Z : Nat → (Nat → Nat) → State → Prop} (h : KH) (v0 : Nat) (v1 : Int32) {t : Int32} (hn : h.1 = 243) (H : f_X11_octet h v0 v1 = some t) : KX Z RX11 cX11_octet 2 false 1 (KRi cX11_octet t h) 0 [(0, .ref v0), (1, .int v1)] [] h := by
  unfold f_X11_octet at H
  refine x_iload_n (q := 1) dX11_octet_0 rfl rfl ?_
  replace H := kite H; rcases H with ⟨g1, H⟩ | ⟨g1, H⟩
  · refine x_if_lt_t dX11_octet_1 (q := 21) (by decide) g1 ?_
    refine x_iconst (q := 22) (v := (-1 : Int32)) dX11_octet_21 rfl (by decide) ?_
    cases H
    exact x_end ⟨dX11_octet_22, rfl, rfl⟩
  · refine x_if_lt_f (q := 4) dX11_octet_1 (t := 21) (by decide) rfl g1 ?_
    refine x_iload_n (q := 5) dX11_octet_4 rfl rfl ?_
    refine x_aload_n (q := 6) dX11_octet_5 rfl rfl ?_
    replace H := kif H; obtain ⟨g2, H⟩ := H
    refine x_getI (q := 9) dX11_octet_6 rfl kl_RX11_109 (Or.inl rfl) (k243 g2 (by decide) hn) ?_
    replace H := kite H; rcases H with ⟨g3, H⟩ | ⟨g3, H⟩
    · refine x_icmp_ge_t dX11_octet_9 (q := 21) (by decide) g3 ?_
      refine x_iconst (q := 22) (v := (-1 : Int32)) dX11_octet_21 rfl (by decide) ?_
      cases H
      exact x_end ⟨dX11_octet_22, rfl, rfl⟩
    · refine x_icmp_ge_f (q := 12) dX11_octet_9 (t := 21) (by decide) rfl g3 ?_
      refine x_aload_n (q := 13) dX11_octet_12 rfl rfl ?_
      replace H := kif H; obtain ⟨g4, H⟩ := H
      refine x_getR (q := 16) dX11_octet_13 rfl kl_RX11_106 rfl (k243 g2 (by decide) hn) g4 ?_
      refine x_iload_n (q := 17) dX11_octet_16 rfl rfl ?_
      replace H := kif H; obtain ⟨g5, H⟩ := H
      replace H := kifn H; obtain ⟨g6, H⟩ := H
      refine x_iald (q := 18) dX11_octet_17 rfl (k243 g5 (by decide) hn) g6 ?_
      refine x_goto dX11_octet_18 (q := 22) (by decide) ?_
      cases H
      exact x_end ⟨dX11_octet_22, rfl, rfl⟩
theorem s_X11_octet {Z : Nat → (Nat → Nat) → State → Prop} (h : KH) (v0 : Nat) (v1 : Int32) {t : Int32} (hn : h.1 = 243) (H : f_X11_octet h v0 v1 = some t) : KM Z yX11_octet cX11_octet 2 (some .int) 1 [.ref v0, .int v1] h (some (.int t)) h :=
  kx_i (own := RX11) (ini := false) (by decide +kernel) (by decide +kernel) rfl (Nat.le_of_ble_eq_true rfl) (s0_X11_octet h v0 v1 hn H)
theorem dX11_isImage_0 : decode cX11_isImage 0 = .ok (.aload_n 0, 1) := by decide +kernel
theorem dX11_isImage_1 : decode cX11_isImage 1 = .ok (.getfield 57, 3) := by decide +kernel
theorem dX11_isImage_4 : decode cX11_isImage 4 = .ok (.getfield 146, 3) := by decide +kernel
theorem dX11_isImage_7 : decode cX11_isImage 7 = .ok (.istore_n 1, 1) := by decide +kernel
theorem dX11_isImage_8 : decode cX11_isImage 8 = .ok (.iconst 5, 1) := by decide +kernel
theorem dX11_isImage_9 : decode cX11_isImage 9 = .ok (.iconst 2, 1) := by decide +kernel
theorem dX11_isImage_10 : decode cX11_isImage 10 = .ok (.iload_n 1, 1) := by decide +kernel
theorem dX11_isImage_11 : decode cX11_isImage 11 = .ok (.imul, 1) := by decide +kernel
theorem dX11_isImage_12 : decode cX11_isImage 12 = .ok (.iadd, 1) := by decide +kernel
theorem dX11_isImage_13 : decode cX11_isImage 13 = .ok (.iconst 2, 1) := by decide +kernel
theorem dX11_isImage_14 : decode cX11_isImage 14 = .ok (.aload_n 0, 1) := by decide +kernel
theorem dX11_isImage_15 : decode cX11_isImage 15 = .ok (.getfield 57, 3) := by decide +kernel
theorem dX11_isImage_18 : decode cX11_isImage 18 = .ok (.getfield 149, 3) := by decide +kernel
theorem dX11_isImage_21 : decode cX11_isImage 21 = .ok (.imul, 1) := by decide +kernel
theorem dX11_isImage_22 : decode cX11_isImage 22 = .ok (.iadd, 1) := by decide +kernel
theorem dX11_isImage_23 : decode cX11_isImage 23 = .ok (.istore_n 2, 1) := by decide +kernel
theorem dX11_isImage_24 : decode cX11_isImage 24 = .ok (.aload_n 0, 1) := by decide +kernel
theorem dX11_isImage_25 : decode cX11_isImage 25 = .ok (.getfield 12, 3) := by decide +kernel
theorem dX11_isImage_28 : decode cX11_isImage 28 = .ok (.getfield 115, 3) := by decide +kernel
theorem dX11_isImage_31 : decode cX11_isImage 31 = .ok (.iload_n 2, 1) := by decide +kernel
theorem dX11_isImage_32 : decode cX11_isImage 32 = .ok (.if_icmp .ne 31, 3) := by decide +kernel
theorem dX11_isImage_35 : decode cX11_isImage 35 = .ok (.aload_n 0, 1) := by decide +kernel
theorem dX11_isImage_36 : decode cX11_isImage 36 = .ok (.getfield 12, 3) := by decide +kernel
theorem dX11_isImage_39 : decode cX11_isImage 39 = .ok (.iconst 0, 1) := by decide +kernel
theorem dX11_isImage_40 : decode cX11_isImage 40 = .ok (.invokevirtual 378, 3) := by decide +kernel
theorem dX11_isImage_43 : decode cX11_isImage 43 = .ok (.sipush 9999, 3) := by decide +kernel
theorem dX11_isImage_46 : decode cX11_isImage 46 = .ok (.if_icmp .gt 17, 3) := by decide +kernel
theorem dX11_isImage_49 : decode cX11_isImage 49 = .ok (.aload_n 0, 1) := by decide +kernel
theorem dX11_isImage_50 : decode cX11_isImage 50 = .ok (.getfield 12, 3) := by decide +kernel
theorem dX11_isImage_53 : decode cX11_isImage 53 = .ok (.iconst 2, 1) := by decide +kernel
theorem dX11_isImage_54 : decode cX11_isImage 54 = .ok (.invokevirtual 378, 3) := by decide +kernel
theorem dX11_isImage_57 : decode cX11_isImage 57 = .ok (.sipush 9999, 3) := by decide +kernel
theorem dX11_isImage_60 : decode cX11_isImage 60 = .ok (.if_icmp .le 5, 3) := by decide +kernel
theorem dX11_isImage_63 : decode cX11_isImage 63 = .ok (.iconst 0, 1) := by decide +kernel
theorem dX11_isImage_64 : decode cX11_isImage 64 = .ok (.ireturn, 1) := by decide +kernel
theorem dX11_isImage_65 : decode cX11_isImage 65 = .ok (.iconst 4, 1) := by decide +kernel
theorem dX11_isImage_66 : decode cX11_isImage 66 = .ok (.istore_n 3, 1) := by decide +kernel
theorem dX11_isImage_67 : decode cX11_isImage 67 = .ok (.iload_n 3, 1) := by decide +kernel
theorem dX11_isImage_68 : decode cX11_isImage 68 = .ok (.iload_n 2, 1) := by decide +kernel
theorem dX11_isImage_69 : decode cX11_isImage 69 = .ok (.iconst 1, 1) := by decide +kernel
theorem dX11_isImage_70 : decode cX11_isImage 70 = .ok (.isub, 1) := by decide +kernel
theorem dX11_isImage_71 : decode cX11_isImage 71 = .ok (.if_icmp .ge 63, 3) := by decide +kernel
theorem dX11_isImage_74 : decode cX11_isImage 74 = .ok (.iload_n 3, 1) := by decide +kernel
theorem dX11_isImage_75 : decode cX11_isImage 75 = .ok (.iconst 4, 1) := by decide +kernel
theorem dX11_isImage_76 : decode cX11_isImage 76 = .ok (.iconst 2, 1) := by decide +kernel
theorem dX11_isImage_77 : decode cX11_isImage 77 = .ok (.iload_n 1, 1) := by decide +kernel
theorem dX11_isImage_78 : decode cX11_isImage 78 = .ok (.imul, 1) := by decide +kernel
theorem dX11_isImage_79 : decode cX11_isImage 79 = .ok (.iadd, 1) := by decide +kernel
theorem dX11_isImage_80 : decode cX11_isImage 80 = .ok (.if_icmp .ge 7, 3) := by decide +kernel
theorem dX11_isImage_83 : decode cX11_isImage 83 = .ok (.iconst 1, 1) := by decide +kernel
theorem dX11_isImage_84 : decode cX11_isImage 84 = .ok (.goto 4, 3) := by decide +kernel
theorem dX11_isImage_87 : decode cX11_isImage 87 = .ok (.iconst 0, 1) := by decide +kernel
theorem dX11_isImage_88 : decode cX11_isImage 88 = .ok (.istore 4, 2) := by decide +kernel
theorem dX11_isImage_90 : decode cX11_isImage 90 = .ok (.iload 4, 2) := by decide +kernel
theorem dX11_isImage_92 : decode cX11_isImage 92 = .ok (.ifCond .ne 7, 3) := by decide +kernel
theorem dX11_isImage_95 : decode cX11_isImage 95 = .ok (.iconst 2, 1) := by decide +kernel
theorem dX11_isImage_96 : decode cX11_isImage 96 = .ok (.goto 15, 3) := by decide +kernel
theorem dX11_isImage_99 : decode cX11_isImage 99 = .ok (.iload_n 3, 1) := by decide +kernel
theorem dX11_isImage_100 : decode cX11_isImage 100 = .ok (.iconst 2, 1) := by decide +kernel
theorem dX11_isImage_101 : decode cX11_isImage 101 = .ok (.irem, 1) := by decide +kernel
theorem dX11_isImage_102 : decode cX11_isImage 102 = .ok (.ifCond .ne 8, 3) := by decide +kernel
theorem dX11_isImage_105 : decode cX11_isImage 105 = .ok (.bipush 99, 2) := by decide +kernel
theorem dX11_isImage_107 : decode cX11_isImage 107 = .ok (.goto 4, 3) := by decide +kernel
theorem dX11_isImage_110 : decode cX11_isImage 110 = .ok (.iconst 4, 1) := by decide +kernel
theorem dX11_isImage_111 : decode cX11_isImage 111 = .ok (.istore 5, 2) := by decide +kernel
theorem dX11_isImage_113 : decode cX11_isImage 113 = .ok (.aload_n 0, 1) := by decide +kernel
theorem dX11_isImage_114 : decode cX11_isImage 114 = .ok (.getfield 12, 3) := by decide +kernel
theorem dX11_isImage_117 : decode cX11_isImage 117 = .ok (.iload_n 3, 1) := by decide +kernel
theorem dX11_isImage_118 : decode cX11_isImage 118 = .ok (.invokevirtual 286, 3) := by decide +kernel
theorem dX11_isImage_121 : decode cX11_isImage 121 = .ok (.iload 5, 2) := by decide +kernel
theorem dX11_isImage_123 : decode cX11_isImage 123 = .ok (.if_icmp .le 5, 3) := by decide +kernel
theorem dX11_isImage_126 : decode cX11_isImage 126 = .ok (.iconst 0, 1) := by decide +kernel
theorem dX11_isImage_127 : decode cX11_isImage 127 = .ok (.ireturn, 1) := by decide +kernel
theorem dX11_isImage_128 : decode cX11_isImage 128 = .ok (.iinc 3 1, 3) := by decide +kernel
theorem dX11_isImage_131 : decode cX11_isImage 131 = .ok (.goto (-64), 3) := by decide +kernel
theorem dX11_isImage_134 : decode cX11_isImage 134 = .ok (.bipush 61, 2) := by decide +kernel
theorem dX11_isImage_136 : decode cX11_isImage 136 = .ok (.istore_n 3, 1) := by decide +kernel
theorem dX11_isImage_137 : decode cX11_isImage 137 = .ok (.iconst 0, 1) := by decide +kernel
theorem dX11_isImage_138 : decode cX11_isImage 138 = .ok (.istore 4, 2) := by decide +kernel
theorem dX11_isImage_140 : decode cX11_isImage 140 = .ok (.iload 4, 2) := by decide +kernel
theorem dX11_isImage_142 : decode cX11_isImage 142 = .ok (.iload_n 2, 1) := by decide +kernel
theorem dX11_isImage_143 : decode cX11_isImage 143 = .ok (.iconst 1, 1) := by decide +kernel
theorem dX11_isImage_144 : decode cX11_isImage 144 = .ok (.isub, 1) := by decide +kernel
theorem dX11_isImage_145 : decode cX11_isImage 145 = .ok (.if_icmp .ge 23, 3) := by decide +kernel
theorem dX11_isImage_148 : decode cX11_isImage 148 = .ok (.iload_n 3, 1) := by decide +kernel
theorem dX11_isImage_149 : decode cX11_isImage 149 = .ok (.aload_n 0, 1) := by decide +kernel
theorem dX11_isImage_150 : decode cX11_isImage 150 = .ok (.getfield 12, 3) := by decide +kernel
theorem dX11_isImage_153 : decode cX11_isImage 153 = .ok (.iload 4, 2) := by decide +kernel
theorem dX11_isImage_155 : decode cX11_isImage 155 = .ok (.invokevirtual 286, 3) := by decide +kernel
theorem dX11_isImage_158 : decode cX11_isImage 158 = .ok (.invokestatic 334, 3) := by decide +kernel
theorem dX11_isImage_161 : decode cX11_isImage 161 = .ok (.istore_n 3, 1) := by decide +kernel
theorem dX11_isImage_162 : decode cX11_isImage 162 = .ok (.iinc 4 1, 3) := by decide +kernel
theorem dX11_isImage_165 : decode cX11_isImage 165 = .ok (.goto (-25), 3) := by decide +kernel
theorem dX11_isImage_168 : decode cX11_isImage 168 = .ok (.aload_n 0, 1) := by decide +kernel
theorem dX11_isImage_169 : decode cX11_isImage 169 = .ok (.getfield 12, 3) := by decide +kernel
theorem dX11_isImage_172 : decode cX11_isImage 172 = .ok (.iload_n 2, 1) := by decide +kernel
theorem dX11_isImage_173 : decode cX11_isImage 173 = .ok (.iconst 1, 1) := by decide +kernel
theorem dX11_isImage_174 : decode cX11_isImage 174 = .ok (.isub, 1) := by decide +kernel
theorem dX11_isImage_175 : decode cX11_isImage 175 = .ok (.invokevirtual 286, 3) := by decide +kernel
theorem dX11_isImage_178 : decode cX11_isImage 178 = .ok (.iload_n 3, 1) := by decide +kernel
theorem dX11_isImage_179 : decode cX11_isImage 179 = .ok (.if_icmp .ne 7, 3) := by decide +kernel
theorem dX11_isImage_182 : decode cX11_isImage 182 = .ok (.iconst 1, 1) := by decide +kernel
theorem dX11_isImage_183 : decode cX11_isImage 183 = .ok (.goto 4, 3) := by decide +kernel
theorem dX11_isImage_186 : decode cX11_isImage 186 = .ok (.iconst 0, 1) := by decide +kernel
theorem dX11_isImage_187 : decode cX11_isImage 187 = .ok (.ireturn, 1) := by decide +kernel
theorem kc_RX11_378 : Cond.methodLink RX11 378 yX9_pairAt ∈ ktG ∧ (Cond.instanceMethod yX9_pairAt ∈ ktG ∧ Cond.selects yX9_pairAt.cls yX9_pairAt yX9_pairAt ∈ ktG) ∧ Cond.initialized yX9_pairAt.cls ∈ ktG ∧ Cond.code yX9_pairAt cX9_pairAt 2 (some .int) ∈ ktG := ⟨(kwm 1178 (by decide +kernel) (by decide +kernel)), ⟨(kwm 1179 (by decide +kernel) (by decide +kernel)), (kwm 1180 (by decide +kernel) (by decide +kernel))⟩, (kwm 124 (by decide +kernel) (by decide +kernel)), kwm 1181 (by decide +kernel) (by decide +kernel)⟩
theorem kh_X9_pairAt : yX9_pairAt.cls ≠ "java/lang/invoke/MethodHandle" ∧ yX9_pairAt.cls ≠ "java/lang/invoke/VarHandle" ∧ (parseMethodDescriptor yX9_pairAt.desc).map (fun d => d.parameters.length) = some 1 := by decide +kernel
def E_X11_isImage_l67 (h : KH) (v0 : Nat) (v1 : Int32) (v2 : Int32) : ((Unit) ⊕ (Int32)) → Nat → List (Nat × Value) → List Value → KH → Prop := Sum.elim (fun (e : Unit) pc ls st hh => pc = 134 ∧ ls = [(0, .ref v0), (2, .int v2)] ∧ st = [] ∧ h = hh) (fun o => (KRz cX11_isImage o h))
def B_X11_isImage_l67 (h : KH) (v0 : Nat) (v1 : Int32) (v2 : Int32) : ((Int32) ⊕ ((Unit) ⊕ (Int32))) → Nat → List (Nat × Value) → List Value → KH → Prop := Sum.elim (fun (s : Int32) pc ls st hh => pc = 67 ∧ ls = [(0, .ref v0), (1, .int v1), (2, .int v2), (3, .int s)] ∧ st = [] ∧ hh = h) (E_X11_isImage_l67 h v0 v1 v2)
def f_X11_isImage_b111 (h : KH) (v0 : Nat) (v1 : Int32) (v2 : Int32) (v3 : Int32) (w0 : Int32) : Option ((Int32) ⊕ ((Unit) ⊕ (Int32))) :=
  if kkind v0 = 11 then if (kR h v0 0) < 999999 then if kkind (kR h v0 0) = 9 then kb (f_X9_byteAt h (kR h v0 0) v3) fun r4 =>
  if r4 ≤ w0 then
  kl (v3 + (1 : Int32)) fun x8 =>
  some (.inl x8)
  else
  kout2 (some (0 : Int32)) else none else none else none
set_option maxHeartbeats 4000000 in
set_option maxRecDepth 100000 in
theorem s_X11_isImage_b111 {Z : Nat → (Nat → Nat) → State → Prop} (h : KH) (v0 : Nat) (v1 : Int32) (v2 : Int32) (v3 : Int32) (w0 : Int32) {t : (Int32) ⊕ ((Unit) ⊕ (Int32))} (hn : h.1 = 243) (H : f_X11_isImage_b111 h v0 v1 v2 v3 w0 = some t) : KX Z RX11 cX11_isImage 6 false 3 (B_X11_isImage_l67 h v0 v1 v2 t) 111 [(0, .ref v0), (1, .int v1), (2, .int v2), (3, .int v3)] [.int w0] h := by
  unfold f_X11_isImage_b111 at H
  refine x_istore (q := 113) (i := 5) (ls2 := [(5, .int w0), (0, .ref v0), (1, .int v1), (2, .int v2), (3, .int v3)]) dX11_isImage_111 rfl (by decide) rfl ?_
  refine x_aload_n (q := 114) dX11_isImage_113 rfl rfl ?_
  replace H := kif H; obtain ⟨g1, H⟩ := H
  replace H := kif H; obtain ⟨g2, H⟩ := H
  refine x_getR (q := 117) dX11_isImage_114 rfl kl_RX11_12 rfl (k243 g1 (by decide) hn) g2 ?_
  refine x_iload_n (q := 118) dX11_isImage_117 rfl rfl ?_
  replace H := kif H; obtain ⟨g3, H⟩ := H
  replace H := kbe H; obtain ⟨r4, c5, H⟩ := H
  have m6 := s_X9_byteAt (Z := Z) h (kR h v0 0) v3 hn c5
  refine x_callV (q := 121) (as := [.int v3]) (rest := []) dX11_isImage_118 rfl kc_RX11_286 kh_X9_byteAt (by decide) (Nat.le_of_ble_eq_true rfl) m6 (ci := 9) (by exact ⟨rfl, by decide⟩) (k243 g3 (by decide) hn) ?_
  refine x_iload (q := 123) dX11_isImage_121 rfl rfl ?_
  replace H := kite H; rcases H with ⟨g7, H⟩ | ⟨g7, H⟩
  · refine x_icmp_le_t dX11_isImage_123 (q := 128) (by decide) g7 ?_
    replace H := kle H; obtain ⟨x8, q9, H⟩ := H
    refine x_iinc (q := 131) (i := 3) (ls2 := [(3, .int x8), (5, .int w0), (0, .ref v0), (1, .int v1), (2, .int v2)]) dX11_isImage_128 rfl rfl (by decide) (by rw [q9]; rfl) ?_
    refine x_goto dX11_isImage_131 (q := 67) (by decide) ?_
    cases H
    refine x_sub (ls2 := [(0, .ref v0), (1, .int v1), (2, .int v2), (3, .int x8)]) [2, 3, 4, 0] rfl ?_
    exact x_end (x_cfg rfl)
  · refine x_icmp_le_f (q := 126) dX11_isImage_123 (t := 128) (by decide) rfl g7 ?_
    replace H := ko2e H; obtain ⟨o10, H, rfl⟩ := H
    refine x_iconst (q := 127) (v := (0 : Int32)) dX11_isImage_126 rfl (by decide) ?_
    cases H
    exact x_end ⟨(Or.inl rfl), dX11_isImage_127, rfl, rfl⟩
def f_X11_isImage_b88 (h : KH) (v0 : Nat) (v1 : Int32) (v2 : Int32) (v3 : Int32) (w0 : Int32) : Option ((Int32) ⊕ ((Unit) ⊕ (Int32))) :=
  if w0 = 0 then
  f_X11_isImage_b111 h v0 v1 v2 v3 (2 : Int32)
  else
  if (v3 - v3 / (2 : Int32) * (2 : Int32)) = 0 then
  f_X11_isImage_b111 h v0 v1 v2 v3 (99 : Int32)
  else
  f_X11_isImage_b111 h v0 v1 v2 v3 (4 : Int32)
set_option maxHeartbeats 4000000 in
set_option maxRecDepth 100000 in
theorem s_X11_isImage_b88 {Z : Nat → (Nat → Nat) → State → Prop} (h : KH) (v0 : Nat) (v1 : Int32) (v2 : Int32) (v3 : Int32) (w0 : Int32) {t : (Int32) ⊕ ((Unit) ⊕ (Int32))} (hn : h.1 = 243) (H : f_X11_isImage_b88 h v0 v1 v2 v3 w0 = some t) : KX Z RX11 cX11_isImage 6 false 3 (B_X11_isImage_l67 h v0 v1 v2 t) 88 [(0, .ref v0), (1, .int v1), (2, .int v2), (3, .int v3)] [.int w0] h := by
  unfold f_X11_isImage_b88 at H
  refine x_istore (q := 90) (i := 4) (ls2 := [(4, .int w0), (0, .ref v0), (1, .int v1), (2, .int v2), (3, .int v3)]) dX11_isImage_88 rfl (by decide) rfl ?_
  refine x_iload (q := 92) dX11_isImage_90 rfl rfl ?_
  replace H := kite H; rcases H with ⟨g1, H⟩ | ⟨g1, H⟩
  · refine x_if_ne_f (q := 95) dX11_isImage_92 (t := 99) (by decide) rfl g1 ?_
    refine x_iconst (q := 96) (v := (2 : Int32)) dX11_isImage_95 rfl (by decide) ?_
    refine x_goto dX11_isImage_96 (q := 111) (by decide) ?_
    refine x_sub (ls2 := [(0, .ref v0), (1, .int v1), (2, .int v2), (3, .int v3)]) [1, 2, 3, 4] rfl ?_
    exact s_X11_isImage_b111 h v0 v1 v2 v3 (2 : Int32) hn H
  · refine x_if_ne_t dX11_isImage_92 (q := 99) (by decide) g1 ?_
    refine x_iload_n (q := 100) dX11_isImage_99 rfl rfl ?_
    refine x_iconst (q := 101) (v := (2 : Int32)) dX11_isImage_100 rfl (by decide) ?_
    refine x_irem (q := 102) dX11_isImage_101 rfl (by decide) ?_
    replace H := kite H; rcases H with ⟨g2, H⟩ | ⟨g2, H⟩
    · refine x_if_ne_f (q := 105) dX11_isImage_102 (t := 110) (by decide) rfl g2 ?_
      refine x_bipush (q := 107) (v := (99 : Int32)) dX11_isImage_105 rfl (by decide) ?_
      refine x_goto dX11_isImage_107 (q := 111) (by decide) ?_
      refine x_sub (ls2 := [(0, .ref v0), (1, .int v1), (2, .int v2), (3, .int v3)]) [1, 2, 3, 4] rfl ?_
      exact s_X11_isImage_b111 h v0 v1 v2 v3 (99 : Int32) hn H
    · refine x_if_ne_t dX11_isImage_102 (q := 110) (by decide) g2 ?_
      refine x_iconst (q := 111) (v := (4 : Int32)) dX11_isImage_110 rfl (by decide) ?_
      refine x_sub (ls2 := [(0, .ref v0), (1, .int v1), (2, .int v2), (3, .int v3)]) [1, 2, 3, 4] rfl ?_
      exact s_X11_isImage_b111 h v0 v1 v2 v3 (4 : Int32) hn H
def f_X11_isImage_l67 (h : KH) (v0 : Nat) (v1 : Int32) (v2 : Int32) (s : Int32) : Option ((Int32) ⊕ ((Unit) ⊕ (Int32))) :=
  if (v2 - (1 : Int32)) ≤ s then
  some (.inr (.inl ()))
  else
  if ((4 : Int32) + ((2 : Int32) * v1)) ≤ s then
  f_X11_isImage_b88 h v0 v1 v2 s (0 : Int32)
  else
  f_X11_isImage_b88 h v0 v1 v2 s (1 : Int32)
set_option maxHeartbeats 4000000 in
set_option maxRecDepth 100000 in
theorem s_X11_isImage_l67 {Z : Nat → (Nat → Nat) → State → Prop} (h : KH) (v0 : Nat) (v1 : Int32) (v2 : Int32) (s : Int32) (t : (Int32) ⊕ ((Unit) ⊕ (Int32))) (hn : (h).1 = 243) (H : f_X11_isImage_l67 h v0 v1 v2 s = some t) : KX Z RX11 cX11_isImage 6 false 3 (B_X11_isImage_l67 h v0 v1 v2 t) 67 [(0, .ref v0), (1, .int v1), (2, .int v2), (3, .int s)] [] h := by
  unfold f_X11_isImage_l67 at H
  refine x_iload_n (q := 68) dX11_isImage_67 rfl rfl ?_
  refine x_iload_n (q := 69) dX11_isImage_68 rfl rfl ?_
  refine x_iconst (q := 70) (v := (1 : Int32)) dX11_isImage_69 rfl (by decide) ?_
  refine x_isub (q := 71) dX11_isImage_70 rfl ?_
  replace H := kite H; rcases H with ⟨g1, H⟩ | ⟨g1, H⟩
  · refine x_icmp_ge_t dX11_isImage_71 (q := 134) (by decide) g1 ?_
    cases H
    refine x_sub (ls2 := [(0, .ref v0), (2, .int v2)]) [0, 2] rfl ?_
    exact x_end (x_cfg rfl)
  · refine x_icmp_ge_f (q := 74) dX11_isImage_71 (t := 134) (by decide) rfl g1 ?_
    refine x_iload_n (q := 75) dX11_isImage_74 rfl rfl ?_
    refine x_iconst (q := 76) (v := (4 : Int32)) dX11_isImage_75 rfl (by decide) ?_
    refine x_iconst (q := 77) (v := (2 : Int32)) dX11_isImage_76 rfl (by decide) ?_
    refine x_iload_n (q := 78) dX11_isImage_77 rfl rfl ?_
    refine x_imul (q := 79) dX11_isImage_78 rfl ?_
    refine x_iadd (q := 80) dX11_isImage_79 rfl ?_
    replace H := kite H; rcases H with ⟨g2, H⟩ | ⟨g2, H⟩
    · refine x_icmp_ge_t dX11_isImage_80 (q := 87) (by decide) g2 ?_
      refine x_iconst (q := 88) (v := (0 : Int32)) dX11_isImage_87 rfl (by decide) ?_
      refine x_sub (ls2 := [(0, .ref v0), (1, .int v1), (2, .int v2), (3, .int s)]) [0, 1, 2, 3] rfl ?_
      exact s_X11_isImage_b88 h v0 v1 v2 s (0 : Int32) hn H
    · refine x_icmp_ge_f (q := 83) dX11_isImage_80 (t := 87) (by decide) rfl g2 ?_
      refine x_iconst (q := 84) (v := (1 : Int32)) dX11_isImage_83 rfl (by decide) ?_
      refine x_goto dX11_isImage_84 (q := 88) (by decide) ?_
      refine x_sub (ls2 := [(0, .ref v0), (1, .int v1), (2, .int v2), (3, .int s)]) [0, 1, 2, 3] rfl ?_
      exact s_X11_isImage_b88 h v0 v1 v2 s (1 : Int32) hn H
theorem sl_X11_isImage_l67 {Z : Nat → (Nat → Nat) → State → Prop} (h : KH) (v0 : Nat) (v1 : Int32) (v2 : Int32) (n : Nat) (s : Int32) (r : (Unit) ⊕ (Int32)) (hn : (h).1 = 243) (H : kloop (f_X11_isImage_l67 h v0 v1 v2) n s = some r) : KX Z RX11 cX11_isImage 6 false 3 (E_X11_isImage_l67 h v0 v1 v2 r) 67 [(0, .ref v0), (1, .int v1), (2, .int v2), (3, .int s)] [] h :=
  k_loop (ls := (fun (s : Int32) => ([(0, .ref v0), (1, .int v1), (2, .int v2), (3, .int s)] : List (Nat × Value)))) (hp := (fun (s : Int32) => (h : KH))) (G := E_X11_isImage_l67 h v0 v1 v2) (fun s t hn H => s_X11_isImage_l67 h v0 v1 v2 s t hn H) n s r hn H
def E_X11_isImage_l140 (h : KH) (v0 : Nat) (v2 : Int32) : Int32 → Nat → List (Nat × Value) → List Value → KH → Prop := fun (e : Int32) pc ls st hh => pc = 168 ∧ ls = [(0, .ref v0), (2, .int v2), (3, .int e)] ∧ st = [] ∧ h = hh
def B_X11_isImage_l140 (h : KH) (v0 : Nat) (v2 : Int32) : ((Int32 × Int32) ⊕ (Int32)) → Nat → List (Nat × Value) → List Value → KH → Prop := Sum.elim (fun (s : Int32 × Int32) pc ls st hh => pc = 140 ∧ ls = [(0, .ref v0), (2, .int v2), (3, .int s.1), (4, .int s.2)] ∧ st = [] ∧ hh = h) (E_X11_isImage_l140 h v0 v2)
def f_X11_isImage_l140 (h : KH) (v0 : Nat) (v2 : Int32) (s : Int32 × Int32) : Option ((Int32 × Int32) ⊕ (Int32)) :=
  if (v2 - (1 : Int32)) ≤ s.2 then
  some (.inr s.1)
  else
  if kkind v0 = 11 then if (kR h v0 0) < 999999 then if kkind (kR h v0 0) = 9 then kb (f_X9_byteAt h (kR h v0 0) s.2) fun r5 =>
  kb (f_X11_checkBehind h s.1 r5) fun r8 =>
  kl (s.2 + (1 : Int32)) fun x11 =>
  some (.inl (r8, x11)) else none else none else none
set_option maxHeartbeats 4000000 in
set_option maxRecDepth 100000 in
theorem s_X11_isImage_l140 {Z : Nat → (Nat → Nat) → State → Prop} (h : KH) (v0 : Nat) (v2 : Int32) (s : Int32 × Int32) (t : (Int32 × Int32) ⊕ (Int32)) (hn : (h).1 = 243) (H : f_X11_isImage_l140 h v0 v2 s = some t) : KX Z RX11 cX11_isImage 6 false 3 (B_X11_isImage_l140 h v0 v2 t) 140 [(0, .ref v0), (2, .int v2), (3, .int s.1), (4, .int s.2)] [] h := by
  unfold f_X11_isImage_l140 at H
  refine x_iload (q := 142) dX11_isImage_140 rfl rfl ?_
  refine x_iload_n (q := 143) dX11_isImage_142 rfl rfl ?_
  refine x_iconst (q := 144) (v := (1 : Int32)) dX11_isImage_143 rfl (by decide) ?_
  refine x_isub (q := 145) dX11_isImage_144 rfl ?_
  replace H := kite H; rcases H with ⟨g1, H⟩ | ⟨g1, H⟩
  · refine x_icmp_ge_t dX11_isImage_145 (q := 168) (by decide) g1 ?_
    cases H
    refine x_sub (ls2 := [(0, .ref v0), (2, .int v2), (3, .int s.1)]) [0, 1, 2] rfl ?_
    exact x_end (x_cfg rfl)
  · refine x_icmp_ge_f (q := 148) dX11_isImage_145 (t := 168) (by decide) rfl g1 ?_
    refine x_iload_n (q := 149) dX11_isImage_148 rfl rfl ?_
    refine x_aload_n (q := 150) dX11_isImage_149 rfl rfl ?_
    replace H := kif H; obtain ⟨g2, H⟩ := H
    replace H := kif H; obtain ⟨g3, H⟩ := H
    refine x_getR (q := 153) dX11_isImage_150 rfl kl_RX11_12 rfl (k243 g2 (by decide) hn) g3 ?_
    refine x_iload (q := 155) dX11_isImage_153 rfl rfl ?_
    replace H := kif H; obtain ⟨g4, H⟩ := H
    replace H := kbe H; obtain ⟨r5, c6, H⟩ := H
    have m7 := s_X9_byteAt (Z := Z) h (kR h v0 0) s.2 hn c6
    refine x_callV (q := 158) (as := [.int s.2]) (rest := [.int s.1]) dX11_isImage_155 rfl kc_RX11_286 kh_X9_byteAt (by decide) (Nat.le_of_ble_eq_true rfl) m7 (ci := 9) (by exact ⟨rfl, by decide⟩) (k243 g4 (by decide) hn) ?_
    replace H := kbe H; obtain ⟨r8, c9, H⟩ := H
    have m10 := s_X11_checkBehind (Z := Z) h s.1 r5 hn c9
    refine x_callS (q := 161) (as := [.int s.1, .int r5]) (rest := []) dX11_isImage_158 rfl kc_RX11_334 kh_X11_checkBehind (by decide) (Nat.le_of_ble_eq_true rfl) m10 ?_
    refine x_istore_n (q := 162) (i := 3) (ls2 := [(3, .int r8), (0, .ref v0), (2, .int v2), (4, .int s.2)]) dX11_isImage_161 rfl rfl (by decide) rfl ?_
    replace H := kle H; obtain ⟨x11, q12, H⟩ := H
    refine x_iinc (q := 165) (i := 4) (ls2 := [(4, .int x11), (3, .int r8), (0, .ref v0), (2, .int v2)]) dX11_isImage_162 rfl rfl (by decide) (by rw [q12]; rfl) ?_
    refine x_goto dX11_isImage_165 (q := 140) (by decide) ?_
    cases H
    refine x_sub (ls2 := [(0, .ref v0), (2, .int v2), (3, .int r8), (4, .int x11)]) [2, 3, 1, 0] rfl ?_
    exact x_end (x_cfg rfl)
theorem sl_X11_isImage_l140 {Z : Nat → (Nat → Nat) → State → Prop} (h : KH) (v0 : Nat) (v2 : Int32) (n : Nat) (s : Int32 × Int32) (r : Int32) (hn : (h).1 = 243) (H : kloop (f_X11_isImage_l140 h v0 v2) n s = some r) : KX Z RX11 cX11_isImage 6 false 3 (E_X11_isImage_l140 h v0 v2 r) 140 [(0, .ref v0), (2, .int v2), (3, .int s.1), (4, .int s.2)] [] h :=
  k_loop (ls := (fun (s : Int32 × Int32) => ([(0, .ref v0), (2, .int v2), (3, .int s.1), (4, .int s.2)] : List (Nat × Value)))) (hp := (fun (s : Int32 × Int32) => (h : KH))) (G := E_X11_isImage_l140 h v0 v2) (fun s t hn H => s_X11_isImage_l140 h v0 v2 s t hn H) n s r hn H
def f_X11_isImage (h : KH) (v0 : Nat) : Option (Int32) :=
  if kkind v0 = 11 then if (kR h v0 5) < 999999 then if kkind (kR h v0 5) = 2 then kl (kI h (kR h v0 5) 4) fun x4 =>
  kl (((5 : Int32) + ((2 : Int32) * x4)) + ((2 : Int32) * (kI h (kR h v0 5) 5))) fun x6 =>
  if (kR h v0 0) < 999999 then if kkind (kR h v0 0) = 9 then if (kI h (kR h v0 0) 1) = x6 then
  kb (f_X9_pairAt h (kR h v0 0) (0 : Int32)) fun r11 =>
  if (9999 : Int32) < r11 then
  some (0 : Int32)
  else
  kb (f_X9_pairAt h (kR h v0 0) (2 : Int32)) fun r15 =>
  if r15 ≤ (9999 : Int32) then
  kb (kloop (f_X11_isImage_l67 h v0 x4 x6) KF (4 : Int32)) fun e19 =>
  ksum e19 (fun x22 =>
  kb (kloop (f_X11_isImage_l140 h v0 x6) KF ((61 : Int32), (0 : Int32))) fun e24 =>
  kb (f_X9_byteAt h (kR h v0 0) (x6 - (1 : Int32))) fun r27 =>
  if r27 = e24 then
  some (1 : Int32)
  else
  some (0 : Int32)) (fun o23 => some o23)
  else
  some (0 : Int32)
  else
  some (0 : Int32) else none else none else none else none else none
set_option maxHeartbeats 4000000 in
set_option maxRecDepth 100000 in
theorem s0_X11_isImage {Z : Nat → (Nat → Nat) → State → Prop} (h : KH) (v0 : Nat) {t : Int32} (hn : h.1 = 243) (H : f_X11_isImage h v0 = some t) : KX Z RX11 cX11_isImage 6 false 3 (KRz cX11_isImage t h) 0 [(0, .ref v0)] [] h := by
  unfold f_X11_isImage at H
  refine x_aload_n (q := 1) dX11_isImage_0 rfl rfl ?_
  replace H := kif H; obtain ⟨g1, H⟩ := H
  replace H := kif H; obtain ⟨g2, H⟩ := H
  refine x_getR (q := 4) dX11_isImage_1 rfl kl_RX11_57 rfl (k243 g1 (by decide) hn) g2 ?_
  replace H := kif H; obtain ⟨g3, H⟩ := H
  refine x_getI (q := 7) dX11_isImage_4 rfl kl_RX11_146 (Or.inl rfl) (k243 g3 (by decide) hn) ?_
  replace H := kle H; obtain ⟨x4, q5, H⟩ := H
  refine x_nmI q5 ?_
  refine x_istore_n (q := 8) (i := 1) (ls2 := [(1, .int x4), (0, .ref v0)]) dX11_isImage_7 rfl rfl (by decide) rfl ?_
  refine x_iconst (q := 9) (v := (5 : Int32)) dX11_isImage_8 rfl (by decide) ?_
  refine x_iconst (q := 10) (v := (2 : Int32)) dX11_isImage_9 rfl (by decide) ?_
  refine x_iload_n (q := 11) dX11_isImage_10 rfl rfl ?_
  refine x_imul (q := 12) dX11_isImage_11 rfl ?_
  refine x_iadd (q := 13) dX11_isImage_12 rfl ?_
  refine x_iconst (q := 14) (v := (2 : Int32)) dX11_isImage_13 rfl (by decide) ?_
  refine x_aload_n (q := 15) dX11_isImage_14 rfl rfl ?_
  refine x_getR (q := 18) dX11_isImage_15 rfl kl_RX11_57 rfl (k243 g1 (by decide) hn) g2 ?_
  refine x_getI (q := 21) dX11_isImage_18 rfl kl_RX11_149 (Or.inl rfl) (k243 g3 (by decide) hn) ?_
  refine x_imul (q := 22) dX11_isImage_21 rfl ?_
  refine x_iadd (q := 23) dX11_isImage_22 rfl ?_
  replace H := kle H; obtain ⟨x6, q7, H⟩ := H
  refine x_nmI q7 ?_
  refine x_istore_n (q := 24) (i := 2) (ls2 := [(2, .int x6), (1, .int x4), (0, .ref v0)]) dX11_isImage_23 rfl rfl (by decide) rfl ?_
  refine x_aload_n (q := 25) dX11_isImage_24 rfl rfl ?_
  replace H := kif H; obtain ⟨g8, H⟩ := H
  refine x_getR (q := 28) dX11_isImage_25 rfl kl_RX11_12 rfl (k243 g1 (by decide) hn) g8 ?_
  replace H := kif H; obtain ⟨g9, H⟩ := H
  refine x_getI (q := 31) dX11_isImage_28 rfl kl_RX11_115 (Or.inl rfl) (k243 g9 (by decide) hn) ?_
  refine x_iload_n (q := 32) dX11_isImage_31 rfl rfl ?_
  replace H := kite H; rcases H with ⟨g10, H⟩ | ⟨g10, H⟩
  · refine x_icmp_ne_f (q := 35) dX11_isImage_32 (t := 63) (by decide) rfl g10 ?_
    refine x_aload_n (q := 36) dX11_isImage_35 rfl rfl ?_
    refine x_getR (q := 39) dX11_isImage_36 rfl kl_RX11_12 rfl (k243 g1 (by decide) hn) g8 ?_
    refine x_iconst (q := 40) (v := (0 : Int32)) dX11_isImage_39 rfl (by decide) ?_
    replace H := kbe H; obtain ⟨r11, c12, H⟩ := H
    have m13 := s_X9_pairAt (Z := Z) h (kR h v0 0) (0 : Int32) hn c12
    refine x_callV (q := 43) (as := [.int (0 : Int32)]) (rest := []) dX11_isImage_40 rfl kc_RX11_378 kh_X9_pairAt (by decide) (Nat.le_of_ble_eq_true rfl) m13 (ci := 9) (by exact ⟨rfl, by decide⟩) (k243 g9 (by decide) hn) ?_
    refine x_sipush (q := 46) (v := (9999 : Int32)) dX11_isImage_43 rfl (by decide) ?_
    replace H := kite H; rcases H with ⟨g14, H⟩ | ⟨g14, H⟩
    · refine x_icmp_gt_t dX11_isImage_46 (q := 63) (by decide) g14 ?_
      refine x_iconst (q := 64) (v := (0 : Int32)) dX11_isImage_63 rfl (by decide) ?_
      cases H
      exact x_end ⟨(Or.inl rfl), dX11_isImage_64, rfl, rfl⟩
    · refine x_icmp_gt_f (q := 49) dX11_isImage_46 (t := 63) (by decide) rfl g14 ?_
      refine x_aload_n (q := 50) dX11_isImage_49 rfl rfl ?_
      refine x_getR (q := 53) dX11_isImage_50 rfl kl_RX11_12 rfl (k243 g1 (by decide) hn) g8 ?_
      refine x_iconst (q := 54) (v := (2 : Int32)) dX11_isImage_53 rfl (by decide) ?_
      replace H := kbe H; obtain ⟨r15, c16, H⟩ := H
      have m17 := s_X9_pairAt (Z := Z) h (kR h v0 0) (2 : Int32) hn c16
      refine x_callV (q := 57) (as := [.int (2 : Int32)]) (rest := []) dX11_isImage_54 rfl kc_RX11_378 kh_X9_pairAt (by decide) (Nat.le_of_ble_eq_true rfl) m17 (ci := 9) (by exact ⟨rfl, by decide⟩) (k243 g9 (by decide) hn) ?_
      refine x_sipush (q := 60) (v := (9999 : Int32)) dX11_isImage_57 rfl (by decide) ?_
      replace H := kite H; rcases H with ⟨g18, H⟩ | ⟨g18, H⟩
      · refine x_icmp_le_t dX11_isImage_60 (q := 65) (by decide) g18 ?_
        refine x_iconst (q := 66) (v := (4 : Int32)) dX11_isImage_65 rfl (by decide) ?_
        refine x_istore_n (q := 67) (i := 3) (ls2 := [(3, .int (4 : Int32)), (2, .int x6), (1, .int x4), (0, .ref v0)]) dX11_isImage_66 rfl rfl (by decide) rfl ?_
        refine x_sub (ls2 := [(0, .ref v0), (1, .int x4), (2, .int x6), (3, .int (4 : Int32))]) [3, 2, 1, 0] rfl ?_
        replace H := kbe H; obtain ⟨e19, c20, H⟩ := H
        refine x_app (sl_X11_isImage_l67 h v0 x4 x6 KF (4 : Int32) e19 hn c20) fun pc2 ls2 st2 h2 hg m21 => ?_
        replace H := kse H; rcases H with ⟨x22, rfl, H⟩ | ⟨o23, rfl, H⟩
        · obtain ⟨rfl, rfl, rfl, rfl⟩ := hg
          refine x_bipush (q := 136) (v := (61 : Int32)) dX11_isImage_134 rfl (by decide) ?_
          refine x_istore_n (q := 137) (i := 3) (ls2 := [(3, .int (61 : Int32)), (0, .ref v0), (2, .int x6)]) dX11_isImage_136 rfl rfl (by decide) rfl ?_
          refine x_iconst (q := 138) (v := (0 : Int32)) dX11_isImage_137 rfl (by decide) ?_
          refine x_istore (q := 140) (i := 4) (ls2 := [(4, .int (0 : Int32)), (3, .int (61 : Int32)), (0, .ref v0), (2, .int x6)]) dX11_isImage_138 rfl (by decide) rfl ?_
          refine x_sub (ls2 := [(0, .ref v0), (2, .int x6), (3, .int (61 : Int32)), (4, .int (0 : Int32))]) [2, 3, 1, 0] rfl ?_
          replace H := kbe H; obtain ⟨e24, c25, H⟩ := H
          refine x_app (sl_X11_isImage_l140 h v0 x6 KF ((61 : Int32), (0 : Int32)) e24 hn c25) fun pc2 ls2 st2 h2 hg m26 => ?_
          obtain ⟨rfl, rfl, rfl, rfl⟩ := hg
          refine x_aload_n (q := 169) dX11_isImage_168 rfl rfl ?_
          refine x_getR (q := 172) dX11_isImage_169 rfl kl_RX11_12 rfl (k243 g1 (by decide) hn) g8 ?_
          refine x_iload_n (q := 173) dX11_isImage_172 rfl rfl ?_
          refine x_iconst (q := 174) (v := (1 : Int32)) dX11_isImage_173 rfl (by decide) ?_
          refine x_isub (q := 175) dX11_isImage_174 rfl ?_
          replace H := kbe H; obtain ⟨r27, c28, H⟩ := H
          have m29 := s_X9_byteAt (Z := Z) h (kR h v0 0) (x6 - (1 : Int32)) hn c28
          refine x_callV (q := 178) (as := [.int (x6 - (1 : Int32))]) (rest := []) dX11_isImage_175 rfl kc_RX11_286 kh_X9_byteAt (by decide) (Nat.le_of_ble_eq_true rfl) m29 (ci := 9) (by exact ⟨rfl, by decide⟩) (k243 g9 (by decide) hn) ?_
          refine x_iload_n (q := 179) dX11_isImage_178 rfl rfl ?_
          replace H := kite H; rcases H with ⟨g30, H⟩ | ⟨g30, H⟩
          · refine x_icmp_ne_f (q := 182) dX11_isImage_179 (t := 186) (by decide) rfl g30 ?_
            refine x_iconst (q := 183) (v := (1 : Int32)) dX11_isImage_182 rfl (by decide) ?_
            refine x_goto dX11_isImage_183 (q := 187) (by decide) ?_
            cases H
            exact x_end ⟨(Or.inr rfl), dX11_isImage_187, rfl, rfl⟩
          · refine x_icmp_ne_t dX11_isImage_179 (q := 186) (by decide) g30 ?_
            refine x_iconst (q := 187) (v := (0 : Int32)) dX11_isImage_186 rfl (by decide) ?_
            cases H
            exact x_end ⟨(Or.inl rfl), dX11_isImage_187, rfl, rfl⟩
        · cases H
          exact x_end hg
      · refine x_icmp_le_f (q := 63) dX11_isImage_60 (t := 65) (by decide) rfl g18 ?_
        refine x_iconst (q := 64) (v := (0 : Int32)) dX11_isImage_63 rfl (by decide) ?_
        cases H
        exact x_end ⟨(Or.inl rfl), dX11_isImage_64, rfl, rfl⟩
  · refine x_icmp_ne_t dX11_isImage_32 (q := 63) (by decide) g10 ?_
    refine x_iconst (q := 64) (v := (0 : Int32)) dX11_isImage_63 rfl (by decide) ?_
    cases H
    exact x_end ⟨(Or.inl rfl), dX11_isImage_64, rfl, rfl⟩
theorem s_X11_isImage {Z : Nat → (Nat → Nat) → State → Prop} (h : KH) (v0 : Nat) {t : Int32} (hn : h.1 = 243) (H : f_X11_isImage h v0 = some t) : KM Z yX11_isImage cX11_isImage 6 (some .boolean) 3 [.ref v0] h (some (.int t)) h :=
  kx_z (own := RX11) (ini := false) (by decide +kernel) (by decide +kernel) rfl (Nat.le_of_ble_eq_true rfl) (s0_X11_isImage h v0 hn H)
theorem dX11_takeImage_0 : decode cX11_takeImage 0 = .ok (.aload_n 0, 1) := by decide +kernel
theorem dX11_takeImage_1 : decode cX11_takeImage 1 = .ok (.getfield 67, 3) := by decide +kernel
theorem dX11_takeImage_4 : decode cX11_takeImage 4 = .ok (.invokevirtual 133, 3) := by decide +kernel
theorem dX11_takeImage_7 : decode cX11_takeImage 7 = .ok (.aload_n 0, 1) := by decide +kernel
theorem dX11_takeImage_8 : decode cX11_takeImage 8 = .ok (.getfield 67, 3) := by decide +kernel
theorem dX11_takeImage_11 : decode cX11_takeImage 11 = .ok (.aload_n 0, 1) := by decide +kernel
theorem dX11_takeImage_12 : decode cX11_takeImage 12 = .ok (.getfield 12, 3) := by decide +kernel
theorem dX11_takeImage_15 : decode cX11_takeImage 15 = .ok (.iconst 0, 1) := by decide +kernel
theorem dX11_takeImage_16 : decode cX11_takeImage 16 = .ok (.invokevirtual 378, 3) := by decide +kernel
theorem dX11_takeImage_19 : decode cX11_takeImage 19 = .ok (.putfield 155, 3) := by decide +kernel
theorem dX11_takeImage_22 : decode cX11_takeImage 22 = .ok (.aload_n 0, 1) := by decide +kernel
theorem dX11_takeImage_23 : decode cX11_takeImage 23 = .ok (.getfield 67, 3) := by decide +kernel
theorem dX11_takeImage_26 : decode cX11_takeImage 26 = .ok (.aload_n 0, 1) := by decide +kernel
theorem dX11_takeImage_27 : decode cX11_takeImage 27 = .ok (.getfield 12, 3) := by decide +kernel
theorem dX11_takeImage_30 : decode cX11_takeImage 30 = .ok (.iconst 2, 1) := by decide +kernel
theorem dX11_takeImage_31 : decode cX11_takeImage 31 = .ok (.invokevirtual 378, 3) := by decide +kernel
theorem dX11_takeImage_34 : decode cX11_takeImage 34 = .ok (.putfield 158, 3) := by decide +kernel
theorem dX11_takeImage_37 : decode cX11_takeImage 37 = .ok (.iconst 0, 1) := by decide +kernel
theorem dX11_takeImage_38 : decode cX11_takeImage 38 = .ok (.istore_n 1, 1) := by decide +kernel
theorem dX11_takeImage_39 : decode cX11_takeImage 39 = .ok (.iload_n 1, 1) := by decide +kernel
theorem dX11_takeImage_40 : decode cX11_takeImage 40 = .ok (.aload_n 0, 1) := by decide +kernel
theorem dX11_takeImage_41 : decode cX11_takeImage 41 = .ok (.getfield 57, 3) := by decide +kernel
theorem dX11_takeImage_44 : decode cX11_takeImage 44 = .ok (.getfield 146, 3) := by decide +kernel
theorem dX11_takeImage_47 : decode cX11_takeImage 47 = .ok (.if_icmp .ge 51, 3) := by decide +kernel
theorem dX11_takeImage_50 : decode cX11_takeImage 50 = .ok (.aload_n 0, 1) := by decide +kernel
theorem dX11_takeImage_51 : decode cX11_takeImage 51 = .ok (.getfield 67, 3) := by decide +kernel
theorem dX11_takeImage_54 : decode cX11_takeImage 54 = .ok (.getfield 194, 3) := by decide +kernel
theorem dX11_takeImage_57 : decode cX11_takeImage 57 = .ok (.iload_n 1, 1) := by decide +kernel
theorem dX11_takeImage_58 : decode cX11_takeImage 58 = .ok (.aload_n 0, 1) := by decide +kernel
theorem dX11_takeImage_59 : decode cX11_takeImage 59 = .ok (.getfield 12, 3) := by decide +kernel
theorem dX11_takeImage_62 : decode cX11_takeImage 62 = .ok (.iconst 4, 1) := by decide +kernel
theorem dX11_takeImage_63 : decode cX11_takeImage 63 = .ok (.iconst 2, 1) := by decide +kernel
theorem dX11_takeImage_64 : decode cX11_takeImage 64 = .ok (.iload_n 1, 1) := by decide +kernel
theorem dX11_takeImage_65 : decode cX11_takeImage 65 = .ok (.imul, 1) := by decide +kernel
theorem dX11_takeImage_66 : decode cX11_takeImage 66 = .ok (.iadd, 1) := by decide +kernel
theorem dX11_takeImage_67 : decode cX11_takeImage 67 = .ok (.invokevirtual 286, 3) := by decide +kernel
theorem dX11_takeImage_70 : decode cX11_takeImage 70 = .ok (.iastore, 1) := by decide +kernel
theorem dX11_takeImage_71 : decode cX11_takeImage 71 = .ok (.aload_n 0, 1) := by decide +kernel
theorem dX11_takeImage_72 : decode cX11_takeImage 72 = .ok (.getfield 67, 3) := by decide +kernel
theorem dX11_takeImage_75 : decode cX11_takeImage 75 = .ok (.getfield 197, 3) := by decide +kernel
theorem dX11_takeImage_78 : decode cX11_takeImage 78 = .ok (.iload_n 1, 1) := by decide +kernel
theorem dX11_takeImage_79 : decode cX11_takeImage 79 = .ok (.aload_n 0, 1) := by decide +kernel
theorem dX11_takeImage_80 : decode cX11_takeImage 80 = .ok (.getfield 12, 3) := by decide +kernel
theorem dX11_takeImage_83 : decode cX11_takeImage 83 = .ok (.iconst 5, 1) := by decide +kernel
theorem dX11_takeImage_84 : decode cX11_takeImage 84 = .ok (.iconst 2, 1) := by decide +kernel
theorem dX11_takeImage_85 : decode cX11_takeImage 85 = .ok (.iload_n 1, 1) := by decide +kernel
theorem dX11_takeImage_86 : decode cX11_takeImage 86 = .ok (.imul, 1) := by decide +kernel
theorem dX11_takeImage_87 : decode cX11_takeImage 87 = .ok (.iadd, 1) := by decide +kernel
theorem dX11_takeImage_88 : decode cX11_takeImage 88 = .ok (.invokevirtual 286, 3) := by decide +kernel
theorem dX11_takeImage_91 : decode cX11_takeImage 91 = .ok (.iastore, 1) := by decide +kernel
theorem dX11_takeImage_92 : decode cX11_takeImage 92 = .ok (.iinc 1 1, 3) := by decide +kernel
theorem dX11_takeImage_95 : decode cX11_takeImage 95 = .ok (.goto (-56), 3) := by decide +kernel
theorem dX11_takeImage_98 : decode cX11_takeImage 98 = .ok (.iconst 0, 1) := by decide +kernel
theorem dX11_takeImage_99 : decode cX11_takeImage 99 = .ok (.istore_n 1, 1) := by decide +kernel
theorem dX11_takeImage_100 : decode cX11_takeImage 100 = .ok (.iload_n 1, 1) := by decide +kernel
theorem dX11_takeImage_101 : decode cX11_takeImage 101 = .ok (.iconst 2, 1) := by decide +kernel
theorem dX11_takeImage_102 : decode cX11_takeImage 102 = .ok (.aload_n 0, 1) := by decide +kernel
theorem dX11_takeImage_103 : decode cX11_takeImage 103 = .ok (.getfield 57, 3) := by decide +kernel
theorem dX11_takeImage_106 : decode cX11_takeImage 106 = .ok (.getfield 149, 3) := by decide +kernel
theorem dX11_takeImage_109 : decode cX11_takeImage 109 = .ok (.imul, 1) := by decide +kernel
theorem dX11_takeImage_110 : decode cX11_takeImage 110 = .ok (.if_icmp .ge 38, 3) := by decide +kernel
theorem dX11_takeImage_113 : decode cX11_takeImage 113 = .ok (.aload_n 0, 1) := by decide +kernel
theorem dX11_takeImage_114 : decode cX11_takeImage 114 = .ok (.getfield 67, 3) := by decide +kernel
theorem dX11_takeImage_117 : decode cX11_takeImage 117 = .ok (.getfield 206, 3) := by decide +kernel
theorem dX11_takeImage_120 : decode cX11_takeImage 120 = .ok (.iload_n 1, 1) := by decide +kernel
theorem dX11_takeImage_121 : decode cX11_takeImage 121 = .ok (.aload_n 0, 1) := by decide +kernel
theorem dX11_takeImage_122 : decode cX11_takeImage 122 = .ok (.getfield 12, 3) := by decide +kernel
theorem dX11_takeImage_125 : decode cX11_takeImage 125 = .ok (.iconst 4, 1) := by decide +kernel
theorem dX11_takeImage_126 : decode cX11_takeImage 126 = .ok (.iconst 2, 1) := by decide +kernel
theorem dX11_takeImage_127 : decode cX11_takeImage 127 = .ok (.aload_n 0, 1) := by decide +kernel
theorem dX11_takeImage_128 : decode cX11_takeImage 128 = .ok (.getfield 57, 3) := by decide +kernel
theorem dX11_takeImage_131 : decode cX11_takeImage 131 = .ok (.getfield 146, 3) := by decide +kernel
theorem dX11_takeImage_134 : decode cX11_takeImage 134 = .ok (.imul, 1) := by decide +kernel
theorem dX11_takeImage_135 : decode cX11_takeImage 135 = .ok (.iadd, 1) := by decide +kernel
theorem dX11_takeImage_136 : decode cX11_takeImage 136 = .ok (.iload_n 1, 1) := by decide +kernel
theorem dX11_takeImage_137 : decode cX11_takeImage 137 = .ok (.iadd, 1) := by decide +kernel
theorem dX11_takeImage_138 : decode cX11_takeImage 138 = .ok (.invokevirtual 286, 3) := by decide +kernel
theorem dX11_takeImage_141 : decode cX11_takeImage 141 = .ok (.iastore, 1) := by decide +kernel
theorem dX11_takeImage_142 : decode cX11_takeImage 142 = .ok (.iinc 1 1, 3) := by decide +kernel
theorem dX11_takeImage_145 : decode cX11_takeImage 145 = .ok (.goto (-45), 3) := by decide +kernel
theorem dX11_takeImage_148 : decode cX11_takeImage 148 = .ok (.aload_n 0, 1) := by decide +kernel
theorem dX11_takeImage_149 : decode cX11_takeImage 149 = .ok (.getfield 77, 3) := by decide +kernel
theorem dX11_takeImage_152 : decode cX11_takeImage 152 = .ok (.iconst 0, 1) := by decide +kernel
theorem dX11_takeImage_153 : decode cX11_takeImage 153 = .ok (.putfield 136, 3) := by decide +kernel
theorem dX11_takeImage_156 : decode cX11_takeImage 156 = .ok (.aload_n 0, 1) := by decide +kernel
theorem dX11_takeImage_157 : decode cX11_takeImage 157 = .ok (.getfield 84, 3) := by decide +kernel
theorem dX11_takeImage_160 : decode cX11_takeImage 160 = .ok (.iconst 0, 1) := by decide +kernel
theorem dX11_takeImage_161 : decode cX11_takeImage 161 = .ok (.putfield 139, 3) := by decide +kernel
theorem dX11_takeImage_164 : decode cX11_takeImage 164 = .ok (.return_, 1) := by decide +kernel
def E_X11_takeImage_l39 (v0 : Nat) : KH → Nat → List (Nat × Value) → List Value → KH → Prop := fun (e : KH) pc ls st hh => pc = 98 ∧ ls = [(0, .ref v0)] ∧ st = [] ∧ e = hh
def B_X11_takeImage_l39 (v0 : Nat) : ((Int32 × KH) ⊕ (KH)) → Nat → List (Nat × Value) → List Value → KH → Prop := Sum.elim (fun (s : Int32 × KH) pc ls st hh => pc = 39 ∧ ls = [(0, .ref v0), (1, .int s.1)] ∧ st = [] ∧ hh = s.2) (E_X11_takeImage_l39 v0)
def f_X11_takeImage_l39 (v0 : Nat) (s : Int32 × KH) : Option ((Int32 × KH) ⊕ (KH)) :=
  if kkind v0 = 11 then if (kR s.2 v0 5) < 999999 then if kkind (kR s.2 v0 5) = 2 then if (kI s.2 (kR s.2 v0 5) 4) ≤ s.1 then
  some (.inr s.2)
  else
  if (kR s.2 v0 7) < 999999 then if kkind (kR s.2 v0 7) = 8 then if (kR s.2 (kR s.2 v0 7) 3) < 999999 then if (kR s.2 v0 0) < 999999 then if kkind (kR s.2 v0 0) = 9 then kb (f_X9_byteAt s.2 (kR s.2 v0 0) ((4 : Int32) + ((2 : Int32) * s.1))) fun r10 =>
  if kkind (kR s.2 (kR s.2 v0 7) 3) = 20 then if (s.1 < 0 ∨ klen (kR s.2 (kR s.2 v0 7) 3) ≤ (s.1).toNatClampNeg) then none else kl (ksI s.2 (kR s.2 (kR s.2 v0 7) 3) ((s.1).toNatClampNeg) r10) fun h15 =>
  if (kR h15 v0 7) < 999999 then if kkind (kR h15 v0 7) = 8 then if (kR h15 (kR h15 v0 7) 4) < 999999 then if (kR h15 v0 0) < 999999 then if kkind (kR h15 v0 0) = 9 then kb (f_X9_byteAt h15 (kR h15 v0 0) ((5 : Int32) + ((2 : Int32) * s.1))) fun r23 =>
  if kkind (kR h15 (kR h15 v0 7) 4) = 20 then if (s.1 < 0 ∨ klen (kR h15 (kR h15 v0 7) 4) ≤ (s.1).toNatClampNeg) then none else kl (ksI h15 (kR h15 (kR h15 v0 7) 4) ((s.1).toNatClampNeg) r23) fun h28 =>
  kl (s.1 + (1 : Int32)) fun x31 =>
  some (.inl (x31, h28)) else none else none else none else none else none else none else none else none else none else none else none else none else none else none else none
set_option maxHeartbeats 4000000 in
set_option maxRecDepth 100000 in
theorem s_X11_takeImage_l39 {Z : Nat → (Nat → Nat) → State → Prop} (v0 : Nat) (s : Int32 × KH) (t : (Int32 × KH) ⊕ (KH)) (hn : (s.2).1 = 243) (H : f_X11_takeImage_l39 v0 s = some t) : KX Z RX11 cX11_takeImage 2 false 4 (B_X11_takeImage_l39 v0 t) 39 [(0, .ref v0), (1, .int s.1)] [] s.2 := by
  unfold f_X11_takeImage_l39 at H
  refine x_iload_n (q := 40) dX11_takeImage_39 rfl rfl ?_
  refine x_aload_n (q := 41) dX11_takeImage_40 rfl rfl ?_
  replace H := kif H; obtain ⟨g1, H⟩ := H
  replace H := kif H; obtain ⟨g2, H⟩ := H
  refine x_getR (q := 44) dX11_takeImage_41 rfl kl_RX11_57 rfl (k243 g1 (by decide) hn) g2 ?_
  replace H := kif H; obtain ⟨g3, H⟩ := H
  refine x_getI (q := 47) dX11_takeImage_44 rfl kl_RX11_146 (Or.inl rfl) (k243 g3 (by decide) hn) ?_
  replace H := kite H; rcases H with ⟨g4, H⟩ | ⟨g4, H⟩
  · refine x_icmp_ge_t dX11_takeImage_47 (q := 98) (by decide) g4 ?_
    cases H
    refine x_sub (ls2 := [(0, .ref v0)]) [0] rfl ?_
    exact x_end (x_cfg rfl)
  · refine x_icmp_ge_f (q := 50) dX11_takeImage_47 (t := 98) (by decide) rfl g4 ?_
    refine x_aload_n (q := 51) dX11_takeImage_50 rfl rfl ?_
    replace H := kif H; obtain ⟨g5, H⟩ := H
    refine x_getR (q := 54) dX11_takeImage_51 rfl kl_RX11_67 rfl (k243 g1 (by decide) hn) g5 ?_
    replace H := kif H; obtain ⟨g6, H⟩ := H
    replace H := kif H; obtain ⟨g7, H⟩ := H
    refine x_getR (q := 57) dX11_takeImage_54 rfl kl_RX11_194 rfl (k243 g6 (by decide) hn) g7 ?_
    refine x_iload_n (q := 58) dX11_takeImage_57 rfl rfl ?_
    refine x_aload_n (q := 59) dX11_takeImage_58 rfl rfl ?_
    replace H := kif H; obtain ⟨g8, H⟩ := H
    refine x_getR (q := 62) dX11_takeImage_59 rfl kl_RX11_12 rfl (k243 g1 (by decide) hn) g8 ?_
    refine x_iconst (q := 63) (v := (4 : Int32)) dX11_takeImage_62 rfl (by decide) ?_
    refine x_iconst (q := 64) (v := (2 : Int32)) dX11_takeImage_63 rfl (by decide) ?_
    refine x_iload_n (q := 65) dX11_takeImage_64 rfl rfl ?_
    refine x_imul (q := 66) dX11_takeImage_65 rfl ?_
    refine x_iadd (q := 67) dX11_takeImage_66 rfl ?_
    replace H := kif H; obtain ⟨g9, H⟩ := H
    replace H := kbe H; obtain ⟨r10, c11, H⟩ := H
    have m12 := s_X9_byteAt (Z := Z) s.2 (kR s.2 v0 0) ((4 : Int32) + ((2 : Int32) * s.1)) hn c11
    refine x_callV (q := 70) (as := [.int ((4 : Int32) + ((2 : Int32) * s.1))]) (rest := [.int s.1, .ref (kR s.2 (kR s.2 v0 7) 3)]) dX11_takeImage_67 rfl kc_RX11_286 kh_X9_byteAt (by decide) (Nat.le_of_ble_eq_true rfl) m12 (ci := 9) (by exact ⟨rfl, by decide⟩) (k243 g9 (by decide) hn) ?_
    replace H := kif H; obtain ⟨g13, H⟩ := H
    replace H := kifn H; obtain ⟨g14, H⟩ := H
    replace H := kle H; obtain ⟨h15, q16, H⟩ := H
    refine x_iast (q := 71) dX11_takeImage_70 rfl (k243 g13 (by decide) hn) g14 ?_
    refine x_nmH q16 ?_
    have n17 : h15.1 = 243 := by rw [q16]; exact hn
    refine x_aload_n (q := 72) dX11_takeImage_71 rfl rfl ?_
    replace H := kif H; obtain ⟨g18, H⟩ := H
    refine x_getR (q := 75) dX11_takeImage_72 rfl kl_RX11_67 rfl (k243 g1 (by decide) n17) g18 ?_
    replace H := kif H; obtain ⟨g19, H⟩ := H
    replace H := kif H; obtain ⟨g20, H⟩ := H
    refine x_getR (q := 78) dX11_takeImage_75 rfl kl_RX11_197 rfl (k243 g19 (by decide) n17) g20 ?_
    refine x_iload_n (q := 79) dX11_takeImage_78 rfl rfl ?_
    refine x_aload_n (q := 80) dX11_takeImage_79 rfl rfl ?_
    replace H := kif H; obtain ⟨g21, H⟩ := H
    refine x_getR (q := 83) dX11_takeImage_80 rfl kl_RX11_12 rfl (k243 g1 (by decide) n17) g21 ?_
    refine x_iconst (q := 84) (v := (5 : Int32)) dX11_takeImage_83 rfl (by decide) ?_
    refine x_iconst (q := 85) (v := (2 : Int32)) dX11_takeImage_84 rfl (by decide) ?_
    refine x_iload_n (q := 86) dX11_takeImage_85 rfl rfl ?_
    refine x_imul (q := 87) dX11_takeImage_86 rfl ?_
    refine x_iadd (q := 88) dX11_takeImage_87 rfl ?_
    replace H := kif H; obtain ⟨g22, H⟩ := H
    replace H := kbe H; obtain ⟨r23, c24, H⟩ := H
    have m25 := s_X9_byteAt (Z := Z) h15 (kR h15 v0 0) ((5 : Int32) + ((2 : Int32) * s.1)) n17 c24
    refine x_callV (q := 91) (as := [.int ((5 : Int32) + ((2 : Int32) * s.1))]) (rest := [.int s.1, .ref (kR h15 (kR h15 v0 7) 4)]) dX11_takeImage_88 rfl kc_RX11_286 kh_X9_byteAt (by decide) (Nat.le_of_ble_eq_true rfl) m25 (ci := 9) (by exact ⟨rfl, by decide⟩) (k243 g22 (by decide) n17) ?_
    replace H := kif H; obtain ⟨g26, H⟩ := H
    replace H := kifn H; obtain ⟨g27, H⟩ := H
    replace H := kle H; obtain ⟨h28, q29, H⟩ := H
    refine x_iast (q := 92) dX11_takeImage_91 rfl (k243 g26 (by decide) n17) g27 ?_
    refine x_nmH q29 ?_
    have n30 : h28.1 = 243 := by rw [q29]; exact n17
    replace H := kle H; obtain ⟨x31, q32, H⟩ := H
    refine x_iinc (q := 95) (i := 1) (ls2 := [(1, .int x31), (0, .ref v0)]) dX11_takeImage_92 rfl rfl (by decide) (by rw [q32]; rfl) ?_
    refine x_goto dX11_takeImage_95 (q := 39) (by decide) ?_
    cases H
    refine x_sub (ls2 := [(0, .ref v0), (1, .int x31)]) [1, 0] rfl ?_
    exact x_end (x_cfg rfl)
theorem sl_X11_takeImage_l39 {Z : Nat → (Nat → Nat) → State → Prop} (v0 : Nat) (n : Nat) (s : Int32 × KH) (r : KH) (hn : (s.2).1 = 243) (H : kloop (f_X11_takeImage_l39 v0) n s = some r) : KX Z RX11 cX11_takeImage 2 false 4 (E_X11_takeImage_l39 v0 r) 39 [(0, .ref v0), (1, .int s.1)] [] s.2 :=
  k_loop (ls := (fun (s : Int32 × KH) => ([(0, .ref v0), (1, .int s.1)] : List (Nat × Value)))) (hp := (fun (s : Int32 × KH) => (s.2 : KH))) (G := E_X11_takeImage_l39 v0) (fun s t hn H => s_X11_takeImage_l39 v0 s t hn H) n s r hn H
def E_X11_takeImage_l100 (v0 : Nat) : KH → Nat → List (Nat × Value) → List Value → KH → Prop := fun (e : KH) pc ls st hh => pc = 148 ∧ ls = [(0, .ref v0)] ∧ st = [] ∧ e = hh
def B_X11_takeImage_l100 (v0 : Nat) : ((Int32 × KH) ⊕ (KH)) → Nat → List (Nat × Value) → List Value → KH → Prop := Sum.elim (fun (s : Int32 × KH) pc ls st hh => pc = 100 ∧ ls = [(0, .ref v0), (1, .int s.1)] ∧ st = [] ∧ hh = s.2) (E_X11_takeImage_l100 v0)
def f_X11_takeImage_l100 (v0 : Nat) (s : Int32 × KH) : Option ((Int32 × KH) ⊕ (KH)) :=
  if kkind v0 = 11 then if (kR s.2 v0 5) < 999999 then if kkind (kR s.2 v0 5) = 2 then if ((2 : Int32) * (kI s.2 (kR s.2 v0 5) 5)) ≤ s.1 then
  some (.inr s.2)
  else
  if (kR s.2 v0 7) < 999999 then if kkind (kR s.2 v0 7) = 8 then if (kR s.2 (kR s.2 v0 7) 5) < 999999 then if (kR s.2 v0 0) < 999999 then if kkind (kR s.2 v0 0) = 9 then kb (f_X9_byteAt s.2 (kR s.2 v0 0) (((4 : Int32) + ((2 : Int32) * (kI s.2 (kR s.2 v0 5) 4))) + s.1)) fun r10 =>
  if kkind (kR s.2 (kR s.2 v0 7) 5) = 20 then if (s.1 < 0 ∨ klen (kR s.2 (kR s.2 v0 7) 5) ≤ (s.1).toNatClampNeg) then none else kl (ksI s.2 (kR s.2 (kR s.2 v0 7) 5) ((s.1).toNatClampNeg) r10) fun h15 =>
  kl (s.1 + (1 : Int32)) fun x18 =>
  some (.inl (x18, h15)) else none else none else none else none else none else none else none else none else none
set_option maxHeartbeats 4000000 in
set_option maxRecDepth 100000 in
theorem s_X11_takeImage_l100 {Z : Nat → (Nat → Nat) → State → Prop} (v0 : Nat) (s : Int32 × KH) (t : (Int32 × KH) ⊕ (KH)) (hn : (s.2).1 = 243) (H : f_X11_takeImage_l100 v0 s = some t) : KX Z RX11 cX11_takeImage 2 false 4 (B_X11_takeImage_l100 v0 t) 100 [(0, .ref v0), (1, .int s.1)] [] s.2 := by
  unfold f_X11_takeImage_l100 at H
  refine x_iload_n (q := 101) dX11_takeImage_100 rfl rfl ?_
  refine x_iconst (q := 102) (v := (2 : Int32)) dX11_takeImage_101 rfl (by decide) ?_
  refine x_aload_n (q := 103) dX11_takeImage_102 rfl rfl ?_
  replace H := kif H; obtain ⟨g1, H⟩ := H
  replace H := kif H; obtain ⟨g2, H⟩ := H
  refine x_getR (q := 106) dX11_takeImage_103 rfl kl_RX11_57 rfl (k243 g1 (by decide) hn) g2 ?_
  replace H := kif H; obtain ⟨g3, H⟩ := H
  refine x_getI (q := 109) dX11_takeImage_106 rfl kl_RX11_149 (Or.inl rfl) (k243 g3 (by decide) hn) ?_
  refine x_imul (q := 110) dX11_takeImage_109 rfl ?_
  replace H := kite H; rcases H with ⟨g4, H⟩ | ⟨g4, H⟩
  · refine x_icmp_ge_t dX11_takeImage_110 (q := 148) (by decide) g4 ?_
    cases H
    refine x_sub (ls2 := [(0, .ref v0)]) [0] rfl ?_
    exact x_end (x_cfg rfl)
  · refine x_icmp_ge_f (q := 113) dX11_takeImage_110 (t := 148) (by decide) rfl g4 ?_
    refine x_aload_n (q := 114) dX11_takeImage_113 rfl rfl ?_
    replace H := kif H; obtain ⟨g5, H⟩ := H
    refine x_getR (q := 117) dX11_takeImage_114 rfl kl_RX11_67 rfl (k243 g1 (by decide) hn) g5 ?_
    replace H := kif H; obtain ⟨g6, H⟩ := H
    replace H := kif H; obtain ⟨g7, H⟩ := H
    refine x_getR (q := 120) dX11_takeImage_117 rfl kl_RX11_206 rfl (k243 g6 (by decide) hn) g7 ?_
    refine x_iload_n (q := 121) dX11_takeImage_120 rfl rfl ?_
    refine x_aload_n (q := 122) dX11_takeImage_121 rfl rfl ?_
    replace H := kif H; obtain ⟨g8, H⟩ := H
    refine x_getR (q := 125) dX11_takeImage_122 rfl kl_RX11_12 rfl (k243 g1 (by decide) hn) g8 ?_
    refine x_iconst (q := 126) (v := (4 : Int32)) dX11_takeImage_125 rfl (by decide) ?_
    refine x_iconst (q := 127) (v := (2 : Int32)) dX11_takeImage_126 rfl (by decide) ?_
    refine x_aload_n (q := 128) dX11_takeImage_127 rfl rfl ?_
    refine x_getR (q := 131) dX11_takeImage_128 rfl kl_RX11_57 rfl (k243 g1 (by decide) hn) g2 ?_
    refine x_getI (q := 134) dX11_takeImage_131 rfl kl_RX11_146 (Or.inl rfl) (k243 g3 (by decide) hn) ?_
    refine x_imul (q := 135) dX11_takeImage_134 rfl ?_
    refine x_iadd (q := 136) dX11_takeImage_135 rfl ?_
    refine x_iload_n (q := 137) dX11_takeImage_136 rfl rfl ?_
    refine x_iadd (q := 138) dX11_takeImage_137 rfl ?_
    replace H := kif H; obtain ⟨g9, H⟩ := H
    replace H := kbe H; obtain ⟨r10, c11, H⟩ := H
    have m12 := s_X9_byteAt (Z := Z) s.2 (kR s.2 v0 0) (((4 : Int32) + ((2 : Int32) * (kI s.2 (kR s.2 v0 5) 4))) + s.1) hn c11
    refine x_callV (q := 141) (as := [.int (((4 : Int32) + ((2 : Int32) * (kI s.2 (kR s.2 v0 5) 4))) + s.1)]) (rest := [.int s.1, .ref (kR s.2 (kR s.2 v0 7) 5)]) dX11_takeImage_138 rfl kc_RX11_286 kh_X9_byteAt (by decide) (Nat.le_of_ble_eq_true rfl) m12 (ci := 9) (by exact ⟨rfl, by decide⟩) (k243 g9 (by decide) hn) ?_
    replace H := kif H; obtain ⟨g13, H⟩ := H
    replace H := kifn H; obtain ⟨g14, H⟩ := H
    replace H := kle H; obtain ⟨h15, q16, H⟩ := H
    refine x_iast (q := 142) dX11_takeImage_141 rfl (k243 g13 (by decide) hn) g14 ?_
    refine x_nmH q16 ?_
    have n17 : h15.1 = 243 := by rw [q16]; exact hn
    replace H := kle H; obtain ⟨x18, q19, H⟩ := H
    refine x_iinc (q := 145) (i := 1) (ls2 := [(1, .int x18), (0, .ref v0)]) dX11_takeImage_142 rfl rfl (by decide) (by rw [q19]; rfl) ?_
    refine x_goto dX11_takeImage_145 (q := 100) (by decide) ?_
    cases H
    refine x_sub (ls2 := [(0, .ref v0), (1, .int x18)]) [1, 0] rfl ?_
    exact x_end (x_cfg rfl)
theorem sl_X11_takeImage_l100 {Z : Nat → (Nat → Nat) → State → Prop} (v0 : Nat) (n : Nat) (s : Int32 × KH) (r : KH) (hn : (s.2).1 = 243) (H : kloop (f_X11_takeImage_l100 v0) n s = some r) : KX Z RX11 cX11_takeImage 2 false 4 (E_X11_takeImage_l100 v0 r) 100 [(0, .ref v0), (1, .int s.1)] [] s.2 :=
  k_loop (ls := (fun (s : Int32 × KH) => ([(0, .ref v0), (1, .int s.1)] : List (Nat × Value)))) (hp := (fun (s : Int32 × KH) => (s.2 : KH))) (G := E_X11_takeImage_l100 v0) (fun s t hn H => s_X11_takeImage_l100 v0 s t hn H) n s r hn H
def f_X11_takeImage (h : KH) (v0 : Nat) : Option (KH) :=
  if kkind v0 = 11 then if (kR h v0 7) < 999999 then if kkind (kR h v0 7) = 8 then kb (f_X8_clear h (kR h v0 7)) fun r4 =>
  if (kR r4 v0 7) < 999999 then if (kR r4 v0 0) < 999999 then if kkind (kR r4 v0 0) = 9 then kb (f_X9_pairAt r4 (kR r4 v0 0) (0 : Int32)) fun r11 =>
  if kkind (kR r4 v0 7) = 8 then kl (ksI r4 (kR r4 v0 7) 0 r11) fun h15 =>
  if (kR h15 v0 7) < 999999 then if (kR h15 v0 0) < 999999 then if kkind (kR h15 v0 0) = 9 then kb (f_X9_pairAt h15 (kR h15 v0 0) (2 : Int32)) fun r21 =>
  if kkind (kR h15 v0 7) = 8 then kl (ksI h15 (kR h15 v0 7) 1 r21) fun h25 =>
  kb (kloop (f_X11_takeImage_l39 v0) KF ((0 : Int32), h25)) fun e28 =>
  kb (kloop (f_X11_takeImage_l100 v0) KF ((0 : Int32), e28)) fun e31 =>
  if (kR e31 v0 9) < 999999 then if kkind (kR e31 v0 9) = 5 then kl (ksI e31 (kR e31 v0 9) 3 (0 : Int32)) fun h36 =>
  if (kR h36 v0 10) < 999999 then if kkind (kR h36 v0 10) = 0 then kl (ksI h36 (kR h36 v0 10) 3 (0 : Int32)) fun h41 =>
  some h41 else none else none else none else none else none else none else none else none else none else none else none else none else none else none else none
set_option maxHeartbeats 4000000 in
set_option maxRecDepth 100000 in
theorem s0_X11_takeImage {Z : Nat → (Nat → Nat) → State → Prop} (h : KH) (v0 : Nat) {t : KH} (hn : h.1 = 243) (H : f_X11_takeImage h v0 = some t) : KX Z RX11 cX11_takeImage 2 false 4 (KRv cX11_takeImage t) 0 [(0, .ref v0)] [] h := by
  unfold f_X11_takeImage at H
  refine x_aload_n (q := 1) dX11_takeImage_0 rfl rfl ?_
  replace H := kif H; obtain ⟨g1, H⟩ := H
  replace H := kif H; obtain ⟨g2, H⟩ := H
  refine x_getR (q := 4) dX11_takeImage_1 rfl kl_RX11_67 rfl (k243 g1 (by decide) hn) g2 ?_
  replace H := kif H; obtain ⟨g3, H⟩ := H
  replace H := kbe H; obtain ⟨r4, c5, H⟩ := H
  have m6 := s_X8_clear (Z := Z) h (kR h v0 7) hn c5
  refine x_callV (q := 7) (as := []) (rest := []) dX11_takeImage_4 rfl kc_RX11_133 kh_X8_clear (by decide) (Nat.le_of_ble_eq_true rfl) m6 (ci := 8) (by exact ⟨rfl, by decide⟩) (k243 g3 (by decide) hn) ?_
  have n7 : (r4).1 = 243 := m6.1.full hn
  refine x_aload_n (q := 8) dX11_takeImage_7 rfl rfl ?_
  replace H := kif H; obtain ⟨g8, H⟩ := H
  refine x_getR (q := 11) dX11_takeImage_8 rfl kl_RX11_67 rfl (k243 g1 (by decide) n7) g8 ?_
  refine x_aload_n (q := 12) dX11_takeImage_11 rfl rfl ?_
  replace H := kif H; obtain ⟨g9, H⟩ := H
  refine x_getR (q := 15) dX11_takeImage_12 rfl kl_RX11_12 rfl (k243 g1 (by decide) n7) g9 ?_
  refine x_iconst (q := 16) (v := (0 : Int32)) dX11_takeImage_15 rfl (by decide) ?_
  replace H := kif H; obtain ⟨g10, H⟩ := H
  replace H := kbe H; obtain ⟨r11, c12, H⟩ := H
  have m13 := s_X9_pairAt (Z := Z) r4 (kR r4 v0 0) (0 : Int32) n7 c12
  refine x_callV (q := 19) (as := [.int (0 : Int32)]) (rest := [.ref (kR r4 v0 7)]) dX11_takeImage_16 rfl kc_RX11_378 kh_X9_pairAt (by decide) (Nat.le_of_ble_eq_true rfl) m13 (ci := 9) (by exact ⟨rfl, by decide⟩) (k243 g10 (by decide) n7) ?_
  replace H := kif H; obtain ⟨g14, H⟩ := H
  replace H := kle H; obtain ⟨h15, q16, H⟩ := H
  refine x_putI (q := 22) dX11_takeImage_19 rfl kl_RX11_155 (Or.inl rfl) rfl (k243 g14 (by decide) n7) ?_
  refine x_nmH q16 ?_
  have n17 : h15.1 = 243 := by rw [q16]; exact n7
  refine x_aload_n (q := 23) dX11_takeImage_22 rfl rfl ?_
  replace H := kif H; obtain ⟨g18, H⟩ := H
  refine x_getR (q := 26) dX11_takeImage_23 rfl kl_RX11_67 rfl (k243 g1 (by decide) n17) g18 ?_
  refine x_aload_n (q := 27) dX11_takeImage_26 rfl rfl ?_
  replace H := kif H; obtain ⟨g19, H⟩ := H
  refine x_getR (q := 30) dX11_takeImage_27 rfl kl_RX11_12 rfl (k243 g1 (by decide) n17) g19 ?_
  refine x_iconst (q := 31) (v := (2 : Int32)) dX11_takeImage_30 rfl (by decide) ?_
  replace H := kif H; obtain ⟨g20, H⟩ := H
  replace H := kbe H; obtain ⟨r21, c22, H⟩ := H
  have m23 := s_X9_pairAt (Z := Z) h15 (kR h15 v0 0) (2 : Int32) n17 c22
  refine x_callV (q := 34) (as := [.int (2 : Int32)]) (rest := [.ref (kR h15 v0 7)]) dX11_takeImage_31 rfl kc_RX11_378 kh_X9_pairAt (by decide) (Nat.le_of_ble_eq_true rfl) m23 (ci := 9) (by exact ⟨rfl, by decide⟩) (k243 g20 (by decide) n17) ?_
  replace H := kif H; obtain ⟨g24, H⟩ := H
  replace H := kle H; obtain ⟨h25, q26, H⟩ := H
  refine x_putI (q := 37) dX11_takeImage_34 rfl kl_RX11_158 (Or.inl rfl) rfl (k243 g24 (by decide) n17) ?_
  refine x_nmH q26 ?_
  have n27 : h25.1 = 243 := by rw [q26]; exact n17
  refine x_iconst (q := 38) (v := (0 : Int32)) dX11_takeImage_37 rfl (by decide) ?_
  refine x_istore_n (q := 39) (i := 1) (ls2 := [(1, .int (0 : Int32)), (0, .ref v0)]) dX11_takeImage_38 rfl rfl (by decide) rfl ?_
  refine x_sub (ls2 := [(0, .ref v0), (1, .int (0 : Int32))]) [1, 0] rfl ?_
  replace H := kbe H; obtain ⟨e28, c29, H⟩ := H
  refine x_app (sl_X11_takeImage_l39 v0 KF ((0 : Int32), h25) e28 n27 c29) fun pc2 ls2 st2 h2 hg m30 => ?_
  obtain ⟨rfl, rfl, rfl, rfl⟩ := hg
  refine x_iconst (q := 99) (v := (0 : Int32)) dX11_takeImage_98 rfl (by decide) ?_
  refine x_istore_n (q := 100) (i := 1) (ls2 := [(1, .int (0 : Int32)), (0, .ref v0)]) dX11_takeImage_99 rfl rfl (by decide) rfl ?_
  refine x_sub (ls2 := [(0, .ref v0), (1, .int (0 : Int32))]) [1, 0] rfl ?_
  replace H := kbe H; obtain ⟨e31, c32, H⟩ := H
  refine x_app (sl_X11_takeImage_l100 v0 KF ((0 : Int32), e28) e31 (m30.full n27) c32) fun pc2 ls2 st2 h2 hg m33 => ?_
  obtain ⟨rfl, rfl, rfl, rfl⟩ := hg
  refine x_aload_n (q := 149) dX11_takeImage_148 rfl rfl ?_
  replace H := kif H; obtain ⟨g34, H⟩ := H
  refine x_getR (q := 152) dX11_takeImage_149 rfl kl_RX11_77 rfl (k243 g1 (by decide) (m33.full (m30.full n27))) g34 ?_
  refine x_iconst (q := 153) (v := (0 : Int32)) dX11_takeImage_152 rfl (by decide) ?_
  replace H := kif H; obtain ⟨g35, H⟩ := H
  replace H := kle H; obtain ⟨h36, q37, H⟩ := H
  refine x_putI (q := 156) dX11_takeImage_153 rfl kl_RX11_136 (Or.inl rfl) rfl (k243 g35 (by decide) (m33.full (m30.full n27))) ?_
  refine x_nmH q37 ?_
  have n38 : h36.1 = 243 := by rw [q37]; exact (m33.full (m30.full n27))
  refine x_aload_n (q := 157) dX11_takeImage_156 rfl rfl ?_
  replace H := kif H; obtain ⟨g39, H⟩ := H
  refine x_getR (q := 160) dX11_takeImage_157 rfl kl_RX11_84 rfl (k243 g1 (by decide) n38) g39 ?_
  refine x_iconst (q := 161) (v := (0 : Int32)) dX11_takeImage_160 rfl (by decide) ?_
  replace H := kif H; obtain ⟨g40, H⟩ := H
  replace H := kle H; obtain ⟨h41, q42, H⟩ := H
  refine x_putI (q := 164) dX11_takeImage_161 rfl kl_RX11_139 (Or.inl rfl) rfl (k243 g40 (by decide) n38) ?_
  refine x_nmH q42 ?_
  have n43 : h41.1 = 243 := by rw [q42]; exact n38
  cases H
  exact x_end ⟨dX11_takeImage_164, rfl, rfl⟩
theorem s_X11_takeImage {Z : Nat → (Nat → Nat) → State → Prop} (h : KH) (v0 : Nat) {t : KH} (hn : h.1 = 243) (H : f_X11_takeImage h v0 = some t) : KM Z yX11_takeImage cX11_takeImage 2 none 4 [.ref v0] h none t :=
  kx_v (own := RX11) (ini := false) (by decide +kernel) (by decide +kernel) rfl (Nat.le_of_ble_eq_true rfl) (s0_X11_takeImage h v0 hn H)
theorem dX11_on_0 : decode cX11_on 0 = .ok (.aload_n 0, 1) := by decide +kernel
theorem dX11_on_1 : decode cX11_on 1 = .ok (.invokevirtual 337, 3) := by decide +kernel
theorem dX11_on_4 : decode cX11_on 4 = .ok (.istore_n 1, 1) := by decide +kernel
theorem dX11_on_5 : decode cX11_on 5 = .ok (.iload_n 1, 1) := by decide +kernel
theorem dX11_on_6 : decode cX11_on 6 = .ok (.ifCond .eq 10, 3) := by decide +kernel
theorem dX11_on_9 : decode cX11_on 9 = .ok (.aload_n 0, 1) := by decide +kernel
theorem dX11_on_10 : decode cX11_on 10 = .ok (.invokevirtual 340, 3) := by decide +kernel
theorem dX11_on_13 : decode cX11_on 13 = .ok (.goto 9, 3) := by decide +kernel
theorem dX11_on_16 : decode cX11_on 16 = .ok (.aload_n 0, 1) := by decide +kernel
theorem dX11_on_17 : decode cX11_on 17 = .ok (.iconst 5, 1) := by decide +kernel
theorem dX11_on_18 : decode cX11_on 18 = .ok (.invokevirtual 118, 3) := by decide +kernel
theorem dX11_on_21 : decode cX11_on 21 = .ok (.pop, 1) := by decide +kernel
theorem dX11_on_22 : decode cX11_on 22 = .ok (.aload_n 0, 1) := by decide +kernel
theorem dX11_on_23 : decode cX11_on 23 = .ok (.getfield 12, 3) := by decide +kernel
theorem dX11_on_26 : decode cX11_on 26 = .ok (.iconst 0, 1) := by decide +kernel
theorem dX11_on_27 : decode cX11_on 27 = .ok (.putfield 115, 3) := by decide +kernel
theorem dX11_on_30 : decode cX11_on 30 = .ok (.iload_n 1, 1) := by decide +kernel
theorem dX11_on_31 : decode cX11_on 31 = .ok (.ireturn, 1) := by decide +kernel
theorem kc_RX11_337 : Cond.methodLink RX11 337 yX11_isImage ∈ ktG ∧ (Cond.instanceMethod yX11_isImage ∈ ktG ∧ Cond.selects yX11_isImage.cls yX11_isImage yX11_isImage ∈ ktG) ∧ Cond.initialized yX11_isImage.cls ∈ ktG ∧ Cond.code yX11_isImage cX11_isImage 6 (some .boolean) ∈ ktG := ⟨(kwm 1174 (by decide +kernel) (by decide +kernel)), ⟨(kwm 1176 (by decide +kernel) (by decide +kernel)), (kwm 34 (by decide +kernel) (by decide +kernel))⟩, (kwm 123 (by decide +kernel) (by decide +kernel)), kwm 1177 (by decide +kernel) (by decide +kernel)⟩
theorem kh_X11_isImage : yX11_isImage.cls ≠ "java/lang/invoke/MethodHandle" ∧ yX11_isImage.cls ≠ "java/lang/invoke/VarHandle" ∧ (parseMethodDescriptor yX11_isImage.desc).map (fun d => d.parameters.length) = some 0 := by decide +kernel
theorem kc_RX11_340 : Cond.methodLink RX11 340 yX11_takeImage ∈ ktG ∧ (Cond.instanceMethod yX11_takeImage ∈ ktG ∧ Cond.selects yX11_takeImage.cls yX11_takeImage yX11_takeImage ∈ ktG) ∧ Cond.initialized yX11_takeImage.cls ∈ ktG ∧ Cond.code yX11_takeImage cX11_takeImage 2 none ∈ ktG := ⟨(kwm 1183 (by decide +kernel) (by decide +kernel)), ⟨(kwm 1185 (by decide +kernel) (by decide +kernel)), (kwm 35 (by decide +kernel) (by decide +kernel))⟩, (kwm 123 (by decide +kernel) (by decide +kernel)), kwm 1186 (by decide +kernel) (by decide +kernel)⟩
theorem kh_X11_takeImage : yX11_takeImage.cls ≠ "java/lang/invoke/MethodHandle" ∧ yX11_takeImage.cls ≠ "java/lang/invoke/VarHandle" ∧ (parseMethodDescriptor yX11_takeImage.desc).map (fun d => d.parameters.length) = some 0 := by decide +kernel
def f_X11_on_b22 (h : KH) (v0 : Nat) (v1 : Int32) : Option (Int32 × KH) :=
  if kkind v0 = 11 then if (kR h v0 0) < 999999 then if kkind (kR h v0 0) = 9 then kl (ksI h (kR h v0 0) 1 (0 : Int32)) fun h4 =>
  if (v1 = 0 ∨ v1 = 1) then some (v1, h4) else none else none else none else none
set_option maxHeartbeats 4000000 in
set_option maxRecDepth 100000 in
theorem s_X11_on_b22 {Z : Nat → (Nat → Nat) → State → Prop} (h : KH) (v0 : Nat) (v1 : Int32) {t : Int32 × KH} (hn : h.1 = 243) (H : f_X11_on_b22 h v0 v1 = some t) : KX Z RX11 cX11_on 2 false 5 (KRz cX11_on t.1 t.2) 22 [(0, .ref v0), (1, .int v1)] [] h := by
  unfold f_X11_on_b22 at H
  refine x_aload_n (q := 23) dX11_on_22 rfl rfl ?_
  replace H := kif H; obtain ⟨g1, H⟩ := H
  replace H := kif H; obtain ⟨g2, H⟩ := H
  refine x_getR (q := 26) dX11_on_23 rfl kl_RX11_12 rfl (k243 g1 (by decide) hn) g2 ?_
  refine x_iconst (q := 27) (v := (0 : Int32)) dX11_on_26 rfl (by decide) ?_
  replace H := kif H; obtain ⟨g3, H⟩ := H
  replace H := kle H; obtain ⟨h4, q5, H⟩ := H
  refine x_putI (q := 30) dX11_on_27 rfl kl_RX11_115 (Or.inl rfl) rfl (k243 g3 (by decide) hn) ?_
  refine x_nmH q5 ?_
  have n6 : h4.1 = 243 := by rw [q5]; exact hn
  refine x_iload_n (q := 31) dX11_on_30 rfl rfl ?_
  replace H := kif H; obtain ⟨g7, H⟩ := H
  cases H
  exact x_end ⟨g7, dX11_on_31, rfl, rfl⟩
def f_X11_on (h : KH) (v0 : Nat) : Option (Int32 × KH) :=
  if kkind v0 = 11 then kb (f_X11_isImage h v0) fun r2 =>
  if r2 = 0 then
  kb (f_X11_refuse h v0 (5 : Int32)) fun r6 =>
  f_X11_on_b22 r6.2 v0 r2
  else
  kb (f_X11_takeImage h v0) fun r10 =>
  f_X11_on_b22 r10 v0 r2 else none
set_option maxHeartbeats 4000000 in
set_option maxRecDepth 100000 in
theorem s0_X11_on {Z : Nat → (Nat → Nat) → State → Prop} (h : KH) (v0 : Nat) {t : Int32 × KH} (hn : h.1 = 243) (H : f_X11_on h v0 = some t) : KX Z RX11 cX11_on 2 false 5 (KRz cX11_on t.1 t.2) 0 [(0, .ref v0)] [] h := by
  unfold f_X11_on at H
  refine x_aload_n (q := 1) dX11_on_0 rfl rfl ?_
  replace H := kif H; obtain ⟨g1, H⟩ := H
  replace H := kbe H; obtain ⟨r2, c3, H⟩ := H
  have m4 := s_X11_isImage (Z := Z) h v0 hn c3
  refine x_callV (q := 4) (as := []) (rest := []) dX11_on_1 rfl kc_RX11_337 kh_X11_isImage (by decide) (Nat.le_of_ble_eq_true rfl) m4 (ci := 11) (by exact ⟨rfl, by decide⟩) (k243 g1 (by decide) hn) ?_
  refine x_istore_n (q := 5) (i := 1) (ls2 := [(1, .int r2), (0, .ref v0)]) dX11_on_4 rfl rfl (by decide) rfl ?_
  refine x_iload_n (q := 6) dX11_on_5 rfl rfl ?_
  replace H := kite H; rcases H with ⟨g5, H⟩ | ⟨g5, H⟩
  · refine x_if_eq_t dX11_on_6 (q := 16) (by decide) g5 ?_
    refine x_aload_n (q := 17) dX11_on_16 rfl rfl ?_
    refine x_iconst (q := 18) (v := (5 : Int32)) dX11_on_17 rfl (by decide) ?_
    replace H := kbe H; obtain ⟨r6, c7, H⟩ := H
    have m8 := s_X11_refuse (Z := Z) h v0 (5 : Int32) hn c7
    refine x_callV (q := 21) (as := [.int (5 : Int32)]) (rest := []) dX11_on_18 rfl kc_RX11_118 kh_X11_refuse (by decide) (Nat.le_of_ble_eq_true rfl) m8 (ci := 11) (by exact ⟨rfl, by decide⟩) (k243 g1 (by decide) hn) ?_
    have n9 : (r6.2).1 = 243 := m8.1.full hn
    refine x_pop (q := 22) dX11_on_21 rfl rfl ?_
    refine x_sub (ls2 := [(0, .ref v0), (1, .int r2)]) [1, 0] rfl ?_
    exact s_X11_on_b22 r6.2 v0 r2 n9 H
  · refine x_if_eq_f (q := 9) dX11_on_6 (t := 16) (by decide) rfl g5 ?_
    refine x_aload_n (q := 10) dX11_on_9 rfl rfl ?_
    replace H := kbe H; obtain ⟨r10, c11, H⟩ := H
    have m12 := s_X11_takeImage (Z := Z) h v0 hn c11
    refine x_callV (q := 13) (as := []) (rest := []) dX11_on_10 rfl kc_RX11_340 kh_X11_takeImage (by decide) (Nat.le_of_ble_eq_true rfl) m12 (ci := 11) (by exact ⟨rfl, by decide⟩) (k243 g1 (by decide) hn) ?_
    have n13 : (r10).1 = 243 := m12.1.full hn
    refine x_goto dX11_on_13 (q := 22) (by decide) ?_
    refine x_sub (ls2 := [(0, .ref v0), (1, .int r2)]) [1, 0] rfl ?_
    exact s_X11_on_b22 r10 v0 r2 n13 H
theorem s_X11_on {Z : Nat → (Nat → Nat) → State → Prop} (h : KH) (v0 : Nat) {t : Int32 × KH} (hn : h.1 = 243) (H : f_X11_on h v0 = some t) : KM Z yX11_on cX11_on 2 (some .boolean) 5 [.ref v0] h (some (.int t.1)) t.2 :=
  kx_z (own := RX11) (ini := false) (by decide +kernel) (by decide +kernel) rfl (Nat.le_of_ble_eq_true rfl) (s0_X11_on h v0 hn H)
theorem dX11_status_0 : decode cX11_status 0 = .ok (.iload_n 1, 1) := by decide +kernel
theorem dX11_status_1 : decode cX11_status 1 = .ok (.ifCond .lt 21, 3) := by decide +kernel
theorem dX11_status_4 : decode cX11_status 4 = .ok (.iload_n 1, 1) := by decide +kernel
theorem dX11_status_5 : decode cX11_status 5 = .ok (.aload_n 0, 1) := by decide +kernel
theorem dX11_status_6 : decode cX11_status 6 = .ok (.getfield 112, 3) := by decide +kernel
theorem dX11_status_9 : decode cX11_status 9 = .ok (.arraylength, 1) := by decide +kernel
theorem dX11_status_10 : decode cX11_status 10 = .ok (.if_icmp .ge 12, 3) := by decide +kernel
theorem dX11_status_13 : decode cX11_status 13 = .ok (.aload_n 0, 1) := by decide +kernel
theorem dX11_status_14 : decode cX11_status 14 = .ok (.getfield 112, 3) := by decide +kernel
theorem dX11_status_17 : decode cX11_status 17 = .ok (.iload_n 1, 1) := by decide +kernel
theorem dX11_status_18 : decode cX11_status 18 = .ok (.iaload, 1) := by decide +kernel
theorem dX11_status_19 : decode cX11_status 19 = .ok (.goto 4, 3) := by decide +kernel
theorem dX11_status_22 : decode cX11_status 22 = .ok (.iconst (-1), 1) := by decide +kernel
theorem dX11_status_23 : decode cX11_status 23 = .ok (.ireturn, 1) := by decide +kernel
def f_X11_status (h : KH) (v0 : Nat) (v1 : Int32) : Option (Int32) :=
  if v1 < 0 then
  some (-1 : Int32)
  else
  if kkind v0 = 11 then if (kR h v0 17) < 999999 then if kkind (kR h v0 17) = 20 then if (Int32.ofNat (klen (kR h v0 17))) ≤ v1 then
  some (-1 : Int32)
  else
  if (v1 < 0 ∨ klen (kR h v0 17) ≤ (v1).toNatClampNeg) then none else some (kI h (kR h v0 17) ((v1).toNatClampNeg)) else none else none else none
set_option maxHeartbeats 4000000 in
set_option maxRecDepth 100000 in
theorem s0_X11_status {Z : Nat → (Nat → Nat) → State → Prop} (h : KH) (v0 : Nat) (v1 : Int32) {t : Int32} (hn : h.1 = 243) (H : f_X11_status h v0 v1 = some t) : KX Z RX11 cX11_status 2 false 1 (KRi cX11_status t h) 0 [(0, .ref v0), (1, .int v1)] [] h := by
  unfold f_X11_status at H
  refine x_iload_n (q := 1) dX11_status_0 rfl rfl ?_
  replace H := kite H; rcases H with ⟨g1, H⟩ | ⟨g1, H⟩
  · refine x_if_lt_t dX11_status_1 (q := 22) (by decide) g1 ?_
    refine x_iconst (q := 23) (v := (-1 : Int32)) dX11_status_22 rfl (by decide) ?_
    cases H
    exact x_end ⟨dX11_status_23, rfl, rfl⟩
  · refine x_if_lt_f (q := 4) dX11_status_1 (t := 22) (by decide) rfl g1 ?_
    refine x_iload_n (q := 5) dX11_status_4 rfl rfl ?_
    refine x_aload_n (q := 6) dX11_status_5 rfl rfl ?_
    replace H := kif H; obtain ⟨g2, H⟩ := H
    replace H := kif H; obtain ⟨g3, H⟩ := H
    refine x_getR (q := 9) dX11_status_6 rfl kl_RX11_112 rfl (k243 g2 (by decide) hn) g3 ?_
    replace H := kif H; obtain ⟨g4, H⟩ := H
    refine x_alen (q := 10) dX11_status_9 rfl (by decide) (k243 g4 (by decide) hn) ?_
    replace H := kite H; rcases H with ⟨g5, H⟩ | ⟨g5, H⟩
    · refine x_icmp_ge_t dX11_status_10 (q := 22) (by decide) g5 ?_
      refine x_iconst (q := 23) (v := (-1 : Int32)) dX11_status_22 rfl (by decide) ?_
      cases H
      exact x_end ⟨dX11_status_23, rfl, rfl⟩
    · refine x_icmp_ge_f (q := 13) dX11_status_10 (t := 22) (by decide) rfl g5 ?_
      refine x_aload_n (q := 14) dX11_status_13 rfl rfl ?_
      refine x_getR (q := 17) dX11_status_14 rfl kl_RX11_112 rfl (k243 g2 (by decide) hn) g3 ?_
      refine x_iload_n (q := 18) dX11_status_17 rfl rfl ?_
      replace H := kifn H; obtain ⟨g6, H⟩ := H
      refine x_iald (q := 19) dX11_status_18 rfl (k243 g4 (by decide) hn) g6 ?_
      refine x_goto dX11_status_19 (q := 23) (by decide) ?_
      cases H
      exact x_end ⟨dX11_status_23, rfl, rfl⟩
theorem s_X11_status {Z : Nat → (Nat → Nat) → State → Prop} (h : KH) (v0 : Nat) (v1 : Int32) {t : Int32} (hn : h.1 = 243) (H : f_X11_status h v0 v1 = some t) : KM Z yX11_status cX11_status 2 (some .int) 1 [.ref v0, .int v1] h (some (.int t)) h :=
  kx_i (own := RX11) (ini := false) (by decide +kernel) (by decide +kernel) rfl (Nat.le_of_ble_eq_true rfl) (s0_X11_status h v0 v1 hn H)
theorem dX12_isIn_0 : decode cX12_isIn 0 = .ok (.lload_n 0, 1) := by decide +kernel
theorem dX12_isIn_1 : decode cX12_isIn 1 = .ok (.lload_n 2, 1) := by decide +kernel
theorem dX12_isIn_2 : decode cX12_isIn 2 = .ok (.lcmp, 1) := by decide +kernel
theorem dX12_isIn_3 : decode cX12_isIn 3 = .ok (.ifCond .lt 14, 3) := by decide +kernel
theorem dX12_isIn_6 : decode cX12_isIn 6 = .ok (.lload_n 0, 1) := by decide +kernel
theorem dX12_isIn_7 : decode cX12_isIn 7 = .ok (.lload 4, 2) := by decide +kernel
theorem dX12_isIn_9 : decode cX12_isIn 9 = .ok (.lcmp, 1) := by decide +kernel
theorem dX12_isIn_10 : decode cX12_isIn 10 = .ok (.ifCond .gt 7, 3) := by decide +kernel
theorem dX12_isIn_13 : decode cX12_isIn 13 = .ok (.iconst 1, 1) := by decide +kernel
theorem dX12_isIn_14 : decode cX12_isIn 14 = .ok (.goto 4, 3) := by decide +kernel
theorem dX12_isIn_17 : decode cX12_isIn 17 = .ok (.iconst 0, 1) := by decide +kernel
theorem dX12_isIn_18 : decode cX12_isIn 18 = .ok (.ireturn, 1) := by decide +kernel
def f_X12_isIn (h : KH) (v0 : Int64) (v2 : Int64) (v4 : Int64) : Option (Int32) :=
  if (lg_cmp v0 v2) < 0 then
  some (0 : Int32)
  else
  if 0 < (lg_cmp v0 v4) then
  some (0 : Int32)
  else
  some (1 : Int32)
set_option maxHeartbeats 4000000 in
set_option maxRecDepth 100000 in
theorem s0_X12_isIn {Z : Nat → (Nat → Nat) → State → Prop} (h : KH) (v0 : Int64) (v2 : Int64) (v4 : Int64) {t : Int32} (hn : h.1 = 243) (H : f_X12_isIn h v0 v2 v4 = some t) : KX Z RX12 cX12_isIn 6 false 1 (KRz cX12_isIn t h) 0 [(0, .long v0), (2, .long v2), (4, .long v4)] [] h := by
  unfold f_X12_isIn at H
  refine x_lload_n (q := 1) dX12_isIn_0 rfl rfl ?_
  refine x_lload_n (q := 2) dX12_isIn_1 rfl rfl ?_
  refine x_lcmp (q := 3) dX12_isIn_2 rfl ?_
  replace H := kite H; rcases H with ⟨g1, H⟩ | ⟨g1, H⟩
  · refine x_if_lt_t dX12_isIn_3 (q := 17) (by decide) g1 ?_
    refine x_iconst (q := 18) (v := (0 : Int32)) dX12_isIn_17 rfl (by decide) ?_
    cases H
    exact x_end ⟨(Or.inl rfl), dX12_isIn_18, rfl, rfl⟩
  · refine x_if_lt_f (q := 6) dX12_isIn_3 (t := 17) (by decide) rfl g1 ?_
    refine x_lload_n (q := 7) dX12_isIn_6 rfl rfl ?_
    refine x_lload (q := 9) dX12_isIn_7 rfl rfl ?_
    refine x_lcmp (q := 10) dX12_isIn_9 rfl ?_
    replace H := kite H; rcases H with ⟨g2, H⟩ | ⟨g2, H⟩
    · refine x_if_gt_t dX12_isIn_10 (q := 17) (by decide) g2 ?_
      refine x_iconst (q := 18) (v := (0 : Int32)) dX12_isIn_17 rfl (by decide) ?_
      cases H
      exact x_end ⟨(Or.inl rfl), dX12_isIn_18, rfl, rfl⟩
    · refine x_if_gt_f (q := 13) dX12_isIn_10 (t := 17) (by decide) rfl g2 ?_
      refine x_iconst (q := 14) (v := (1 : Int32)) dX12_isIn_13 rfl (by decide) ?_
      refine x_goto dX12_isIn_14 (q := 18) (by decide) ?_
      cases H
      exact x_end ⟨(Or.inr rfl), dX12_isIn_18, rfl, rfl⟩
theorem s_X12_isIn {Z : Nat → (Nat → Nat) → State → Prop} (h : KH) (v0 : Int64) (v2 : Int64) (v4 : Int64) {t : Int32} (hn : h.1 = 243) (H : f_X12_isIn h v0 v2 v4 = some t) : KM Z yX12_isIn cX12_isIn 6 (some .boolean) 1 [.long v0, .long v2, .long v4] h (some (.int t)) h :=
  kx_z (own := RX12) (ini := false) (by decide +kernel) (by decide +kernel) rfl (Nat.le_of_ble_eq_true rfl) (s0_X12_isIn h v0 v2 v4 hn H)
theorem dX12_feed_0 : decode cX12_feed 0 = .ok (.aload_n 0, 1) := by decide +kernel
theorem dX12_feed_1 : decode cX12_feed 1 = .ok (.getfield 227, 3) := by decide +kernel
theorem dX12_feed_4 : decode cX12_feed 4 = .ok (.bipush 20, 2) := by decide +kernel
theorem dX12_feed_6 : decode cX12_feed 6 = .ok (.iadd, 1) := by decide +kernel
theorem dX12_feed_7 : decode cX12_feed 7 = .ok (.sipush 1600, 3) := by decide +kernel
theorem dX12_feed_10 : decode cX12_feed 10 = .ok (.if_icmp .le 15, 3) := by decide +kernel
theorem dX12_feed_13 : decode cX12_feed 13 = .ok (.aload_n 0, 1) := by decide +kernel
theorem dX12_feed_14 : decode cX12_feed 14 = .ok (.getfield 17, 3) := by decide +kernel
theorem dX12_feed_17 : decode cX12_feed 17 = .ok (.iconst 0, 1) := by decide +kernel
theorem dX12_feed_18 : decode cX12_feed 18 = .ok (.dup2, 1) := by decide +kernel
theorem dX12_feed_19 : decode cX12_feed 19 = .ok (.iaload, 1) := by decide +kernel
theorem dX12_feed_20 : decode cX12_feed 20 = .ok (.iconst 1, 1) := by decide +kernel
theorem dX12_feed_21 : decode cX12_feed 21 = .ok (.iadd, 1) := by decide +kernel
theorem dX12_feed_22 : decode cX12_feed 22 = .ok (.iastore, 1) := by decide +kernel
theorem dX12_feed_23 : decode cX12_feed 23 = .ok (.iconst (-1), 1) := by decide +kernel
theorem dX12_feed_24 : decode cX12_feed 24 = .ok (.ireturn, 1) := by decide +kernel
theorem dX12_feed_25 : decode cX12_feed 25 = .ok (.iconst 0, 1) := by decide +kernel
theorem dX12_feed_26 : decode cX12_feed 26 = .ok (.istore 6, 2) := by decide +kernel
theorem dX12_feed_28 : decode cX12_feed 28 = .ok (.iload 6, 2) := by decide +kernel
theorem dX12_feed_30 : decode cX12_feed 30 = .ok (.bipush 20, 2) := by decide +kernel
theorem dX12_feed_32 : decode cX12_feed 32 = .ok (.if_icmp .ge 92, 3) := by decide +kernel
theorem dX12_feed_35 : decode cX12_feed 35 = .ok (.iload 6, 2) := by decide +kernel
theorem dX12_feed_37 : decode cX12_feed 37 = .ok (.iconst 4, 1) := by decide +kernel
theorem dX12_feed_38 : decode cX12_feed 38 = .ok (.if_icmp .ge 7, 3) := by decide +kernel
theorem dX12_feed_41 : decode cX12_feed 41 = .ok (.iload_n 1, 1) := by decide +kernel
theorem dX12_feed_42 : decode cX12_feed 42 = .ok (.goto 39, 3) := by decide +kernel
theorem dX12_feed_45 : decode cX12_feed 45 = .ok (.iload 6, 2) := by decide +kernel
theorem dX12_feed_47 : decode cX12_feed 47 = .ok (.bipush 8, 2) := by decide +kernel
theorem dX12_feed_49 : decode cX12_feed 49 = .ok (.if_icmp .ge 7, 3) := by decide +kernel
theorem dX12_feed_52 : decode cX12_feed 52 = .ok (.iload_n 2, 1) := by decide +kernel
theorem dX12_feed_53 : decode cX12_feed 53 = .ok (.goto 28, 3) := by decide +kernel
theorem dX12_feed_56 : decode cX12_feed 56 = .ok (.iload 6, 2) := by decide +kernel
theorem dX12_feed_58 : decode cX12_feed 58 = .ok (.bipush 12, 2) := by decide +kernel
theorem dX12_feed_60 : decode cX12_feed 60 = .ok (.if_icmp .ge 7, 3) := by decide +kernel
theorem dX12_feed_63 : decode cX12_feed 63 = .ok (.iload_n 3, 1) := by decide +kernel
theorem dX12_feed_64 : decode cX12_feed 64 = .ok (.goto 17, 3) := by decide +kernel
theorem dX12_feed_67 : decode cX12_feed 67 = .ok (.iload 6, 2) := by decide +kernel
theorem dX12_feed_69 : decode cX12_feed 69 = .ok (.bipush 16, 2) := by decide +kernel
theorem dX12_feed_71 : decode cX12_feed 71 = .ok (.if_icmp .ge 8, 3) := by decide +kernel
theorem dX12_feed_74 : decode cX12_feed 74 = .ok (.iload 4, 2) := by decide +kernel
theorem dX12_feed_76 : decode cX12_feed 76 = .ok (.goto 5, 3) := by decide +kernel
theorem dX12_feed_79 : decode cX12_feed 79 = .ok (.iload 5, 2) := by decide +kernel
theorem dX12_feed_81 : decode cX12_feed 81 = .ok (.istore 7, 2) := by decide +kernel
theorem dX12_feed_83 : decode cX12_feed 83 = .ok (.aload_n 0, 1) := by decide +kernel
theorem dX12_feed_84 : decode cX12_feed 84 = .ok (.getfield 7, 3) := by decide +kernel
theorem dX12_feed_87 : decode cX12_feed 87 = .ok (.aload_n 0, 1) := by decide +kernel
theorem dX12_feed_88 : decode cX12_feed 88 = .ok (.getfield 227, 3) := by decide +kernel
theorem dX12_feed_91 : decode cX12_feed 91 = .ok (.iload 7, 2) := by decide +kernel
theorem dX12_feed_93 : decode cX12_feed 93 = .ok (.bipush 8, 2) := by decide +kernel
theorem dX12_feed_95 : decode cX12_feed 95 = .ok (.iconst 3, 1) := by decide +kernel
theorem dX12_feed_96 : decode cX12_feed 96 = .ok (.iload 6, 2) := by decide +kernel
theorem dX12_feed_98 : decode cX12_feed 98 = .ok (.iconst 4, 1) := by decide +kernel
theorem dX12_feed_99 : decode cX12_feed 99 = .ok (.irem, 1) := by decide +kernel
theorem dX12_feed_100 : decode cX12_feed 100 = .ok (.isub, 1) := by decide +kernel
theorem dX12_feed_101 : decode cX12_feed 101 = .ok (.imul, 1) := by decide +kernel
theorem dX12_feed_102 : decode cX12_feed 102 = .ok (.ishr, 1) := by decide +kernel
theorem dX12_feed_103 : decode cX12_feed 103 = .ok (.sipush 255, 3) := by decide +kernel
theorem dX12_feed_106 : decode cX12_feed 106 = .ok (.iand, 1) := by decide +kernel
theorem dX12_feed_107 : decode cX12_feed 107 = .ok (.iastore, 1) := by decide +kernel
theorem dX12_feed_108 : decode cX12_feed 108 = .ok (.aload_n 0, 1) := by decide +kernel
theorem dX12_feed_109 : decode cX12_feed 109 = .ok (.dup, 1) := by decide +kernel
theorem dX12_feed_110 : decode cX12_feed 110 = .ok (.getfield 227, 3) := by decide +kernel
theorem dX12_feed_113 : decode cX12_feed 113 = .ok (.iconst 1, 1) := by decide +kernel
theorem dX12_feed_114 : decode cX12_feed 114 = .ok (.iadd, 1) := by decide +kernel
theorem dX12_feed_115 : decode cX12_feed 115 = .ok (.putfield 227, 3) := by decide +kernel
theorem dX12_feed_118 : decode cX12_feed 118 = .ok (.iinc 6 1, 3) := by decide +kernel
theorem dX12_feed_121 : decode cX12_feed 121 = .ok (.goto (-93), 3) := by decide +kernel
theorem dX12_feed_124 : decode cX12_feed 124 = .ok (.aload_n 0, 1) := by decide +kernel
theorem dX12_feed_125 : decode cX12_feed 125 = .ok (.getfield 227, 3) := by decide +kernel
theorem dX12_feed_128 : decode cX12_feed 128 = .ok (.ireturn, 1) := by decide +kernel
theorem kl_RX12_227 : KLk RX12 227 12 1 := ⟨RX12, TX12, 97, rfl, by decide, Or.inl (kwm 1198 (by decide +kernel) (by decide +kernel))⟩
theorem kl_RX12_7 : KLk RX12 7 12 0 := ⟨RX12, TX12, 97, rfl, by decide, Or.inl (kwm 1197 (by decide +kernel) (by decide +kernel))⟩
theorem kl_RX12_17 : KLk RX12 17 12 9 := ⟨RX12, TX12, 97, rfl, by decide, Or.inl (kwm 1206 (by decide +kernel) (by decide +kernel))⟩
def E_X12_feed_l28 (v0 : Nat) (v1 : Int32) (v2 : Int32) (v3 : Int32) (v4 : Int32) (v5 : Int32) : KH → Nat → List (Nat × Value) → List Value → KH → Prop := fun (e : KH) pc ls st hh => pc = 124 ∧ ls = [(0, .ref v0)] ∧ st = [] ∧ e = hh
def B_X12_feed_l28 (v0 : Nat) (v1 : Int32) (v2 : Int32) (v3 : Int32) (v4 : Int32) (v5 : Int32) : ((Int32 × KH) ⊕ (KH)) → Nat → List (Nat × Value) → List Value → KH → Prop := Sum.elim (fun (s : Int32 × KH) pc ls st hh => pc = 28 ∧ ls = [(0, .ref v0), (1, .int v1), (2, .int v2), (3, .int v3), (4, .int v4), (5, .int v5), (6, .int s.1)] ∧ st = [] ∧ hh = s.2) (E_X12_feed_l28 v0 v1 v2 v3 v4 v5)
def f_X12_feed_b81 (h : KH) (v0 : Nat) (v1 : Int32) (v2 : Int32) (v3 : Int32) (v4 : Int32) (v5 : Int32) (v6 : Int32) (w0 : Int32) : Option ((Int32 × KH) ⊕ (KH)) :=
  if kkind v0 = 12 then if (kR h v0 0) < 999999 then if kkind (kR h v0 0) = 20 then if ((kI h v0 1) < 0 ∨ klen (kR h v0 0) ≤ ((kI h v0 1)).toNatClampNeg) then none else kl (ksI h (kR h v0 0) (((kI h v0 1)).toNatClampNeg) ((w0 >>> (((8 : Int32) * ((3 : Int32) - (v6 - v6 / (4 : Int32) * (4 : Int32)))) &&& 31)) &&& (255 : Int32))) fun h5 =>
  kl (ksI h5 v0 1 ((kI h5 v0 1) + (1 : Int32))) fun h8 =>
  kl (v6 + (1 : Int32)) fun x11 =>
  some (.inl (x11, h8)) else none else none else none
set_option maxHeartbeats 4000000 in
set_option maxRecDepth 100000 in
theorem s_X12_feed_b81 {Z : Nat → (Nat → Nat) → State → Prop} (h : KH) (v0 : Nat) (v1 : Int32) (v2 : Int32) (v3 : Int32) (v4 : Int32) (v5 : Int32) (v6 : Int32) (w0 : Int32) {t : (Int32 × KH) ⊕ (KH)} (hn : h.1 = 243) (H : f_X12_feed_b81 h v0 v1 v2 v3 v4 v5 v6 w0 = some t) : KX Z RX12 cX12_feed 8 false 1 (B_X12_feed_l28 v0 v1 v2 v3 v4 v5 t) 81 [(0, .ref v0), (1, .int v1), (2, .int v2), (3, .int v3), (4, .int v4), (5, .int v5), (6, .int v6)] [.int w0] h := by
  unfold f_X12_feed_b81 at H
  refine x_istore (q := 83) (i := 7) (ls2 := [(7, .int w0), (0, .ref v0), (1, .int v1), (2, .int v2), (3, .int v3), (4, .int v4), (5, .int v5), (6, .int v6)]) dX12_feed_81 rfl (by decide) rfl ?_
  refine x_aload_n (q := 84) dX12_feed_83 rfl rfl ?_
  replace H := kif H; obtain ⟨g1, H⟩ := H
  replace H := kif H; obtain ⟨g2, H⟩ := H
  refine x_getR (q := 87) dX12_feed_84 rfl kl_RX12_7 rfl (k243 g1 (by decide) hn) g2 ?_
  refine x_aload_n (q := 88) dX12_feed_87 rfl rfl ?_
  refine x_getI (q := 91) dX12_feed_88 rfl kl_RX12_227 (Or.inl rfl) (k243 g1 (by decide) hn) ?_
  refine x_iload (q := 93) dX12_feed_91 rfl rfl ?_
  refine x_bipush (q := 95) (v := (8 : Int32)) dX12_feed_93 rfl (by decide) ?_
  refine x_iconst (q := 96) (v := (3 : Int32)) dX12_feed_95 rfl (by decide) ?_
  refine x_iload (q := 98) dX12_feed_96 rfl rfl ?_
  refine x_iconst (q := 99) (v := (4 : Int32)) dX12_feed_98 rfl (by decide) ?_
  refine x_irem (q := 100) dX12_feed_99 rfl (by decide) ?_
  refine x_isub (q := 101) dX12_feed_100 rfl ?_
  refine x_imul (q := 102) dX12_feed_101 rfl ?_
  refine x_ishr (q := 103) dX12_feed_102 rfl ?_
  refine x_sipush (q := 106) (v := (255 : Int32)) dX12_feed_103 rfl (by decide) ?_
  refine x_iand (q := 107) dX12_feed_106 rfl ?_
  replace H := kif H; obtain ⟨g3, H⟩ := H
  replace H := kifn H; obtain ⟨g4, H⟩ := H
  replace H := kle H; obtain ⟨h5, q6, H⟩ := H
  refine x_iast (q := 108) dX12_feed_107 rfl (k243 g3 (by decide) hn) g4 ?_
  refine x_nmH q6 ?_
  have n7 : h5.1 = 243 := by rw [q6]; exact hn
  refine x_aload_n (q := 109) dX12_feed_108 rfl rfl ?_
  refine x_dup (q := 110) dX12_feed_109 rfl rfl ?_
  refine x_getI (q := 113) dX12_feed_110 rfl kl_RX12_227 (Or.inl rfl) (k243 g1 (by decide) n7) ?_
  refine x_iconst (q := 114) (v := (1 : Int32)) dX12_feed_113 rfl (by decide) ?_
  refine x_iadd (q := 115) dX12_feed_114 rfl ?_
  replace H := kle H; obtain ⟨h8, q9, H⟩ := H
  refine x_putI (q := 118) dX12_feed_115 rfl kl_RX12_227 (Or.inl rfl) rfl (k243 g1 (by decide) n7) ?_
  refine x_nmH q9 ?_
  have n10 : h8.1 = 243 := by rw [q9]; exact n7
  replace H := kle H; obtain ⟨x11, q12, H⟩ := H
  refine x_iinc (q := 121) (i := 6) (ls2 := [(6, .int x11), (7, .int w0), (0, .ref v0), (1, .int v1), (2, .int v2), (3, .int v3), (4, .int v4), (5, .int v5)]) dX12_feed_118 rfl rfl (by decide) (by rw [q12]; rfl) ?_
  refine x_goto dX12_feed_121 (q := 28) (by decide) ?_
  cases H
  refine x_sub (ls2 := [(0, .ref v0), (1, .int v1), (2, .int v2), (3, .int v3), (4, .int v4), (5, .int v5), (6, .int x11)]) [2, 3, 4, 5, 6, 7, 0] rfl ?_
  exact x_end (x_cfg rfl)
def f_X12_feed_l28 (v0 : Nat) (v1 : Int32) (v2 : Int32) (v3 : Int32) (v4 : Int32) (v5 : Int32) (s : Int32 × KH) : Option ((Int32 × KH) ⊕ (KH)) :=
  if (20 : Int32) ≤ s.1 then
  some (.inr s.2)
  else
  if (4 : Int32) ≤ s.1 then
  if (8 : Int32) ≤ s.1 then
  if (12 : Int32) ≤ s.1 then
  if (16 : Int32) ≤ s.1 then
  f_X12_feed_b81 s.2 v0 v1 v2 v3 v4 v5 s.1 v5
  else
  f_X12_feed_b81 s.2 v0 v1 v2 v3 v4 v5 s.1 v4
  else
  f_X12_feed_b81 s.2 v0 v1 v2 v3 v4 v5 s.1 v3
  else
  f_X12_feed_b81 s.2 v0 v1 v2 v3 v4 v5 s.1 v2
  else
  f_X12_feed_b81 s.2 v0 v1 v2 v3 v4 v5 s.1 v1
set_option maxHeartbeats 4000000 in
set_option maxRecDepth 100000 in
theorem s_X12_feed_l28 {Z : Nat → (Nat → Nat) → State → Prop} (v0 : Nat) (v1 : Int32) (v2 : Int32) (v3 : Int32) (v4 : Int32) (v5 : Int32) (s : Int32 × KH) (t : (Int32 × KH) ⊕ (KH)) (hn : (s.2).1 = 243) (H : f_X12_feed_l28 v0 v1 v2 v3 v4 v5 s = some t) : KX Z RX12 cX12_feed 8 false 1 (B_X12_feed_l28 v0 v1 v2 v3 v4 v5 t) 28 [(0, .ref v0), (1, .int v1), (2, .int v2), (3, .int v3), (4, .int v4), (5, .int v5), (6, .int s.1)] [] s.2 := by
  unfold f_X12_feed_l28 at H
  refine x_iload (q := 30) dX12_feed_28 rfl rfl ?_
  refine x_bipush (q := 32) (v := (20 : Int32)) dX12_feed_30 rfl (by decide) ?_
  replace H := kite H; rcases H with ⟨g1, H⟩ | ⟨g1, H⟩
  · refine x_icmp_ge_t dX12_feed_32 (q := 124) (by decide) g1 ?_
    cases H
    refine x_sub (ls2 := [(0, .ref v0)]) [0] rfl ?_
    exact x_end (x_cfg rfl)
  · refine x_icmp_ge_f (q := 35) dX12_feed_32 (t := 124) (by decide) rfl g1 ?_
    refine x_iload (q := 37) dX12_feed_35 rfl rfl ?_
    refine x_iconst (q := 38) (v := (4 : Int32)) dX12_feed_37 rfl (by decide) ?_
    replace H := kite H; rcases H with ⟨g2, H⟩ | ⟨g2, H⟩
    · refine x_icmp_ge_t dX12_feed_38 (q := 45) (by decide) g2 ?_
      refine x_iload (q := 47) dX12_feed_45 rfl rfl ?_
      refine x_bipush (q := 49) (v := (8 : Int32)) dX12_feed_47 rfl (by decide) ?_
      replace H := kite H; rcases H with ⟨g3, H⟩ | ⟨g3, H⟩
      · refine x_icmp_ge_t dX12_feed_49 (q := 56) (by decide) g3 ?_
        refine x_iload (q := 58) dX12_feed_56 rfl rfl ?_
        refine x_bipush (q := 60) (v := (12 : Int32)) dX12_feed_58 rfl (by decide) ?_
        replace H := kite H; rcases H with ⟨g4, H⟩ | ⟨g4, H⟩
        · refine x_icmp_ge_t dX12_feed_60 (q := 67) (by decide) g4 ?_
          refine x_iload (q := 69) dX12_feed_67 rfl rfl ?_
          refine x_bipush (q := 71) (v := (16 : Int32)) dX12_feed_69 rfl (by decide) ?_
          replace H := kite H; rcases H with ⟨g5, H⟩ | ⟨g5, H⟩
          · refine x_icmp_ge_t dX12_feed_71 (q := 79) (by decide) g5 ?_
            refine x_iload (q := 81) dX12_feed_79 rfl rfl ?_
            refine x_sub (ls2 := [(0, .ref v0), (1, .int v1), (2, .int v2), (3, .int v3), (4, .int v4), (5, .int v5), (6, .int s.1)]) [0, 1, 2, 3, 4, 5, 6] rfl ?_
            exact s_X12_feed_b81 s.2 v0 v1 v2 v3 v4 v5 s.1 v5 hn H
          · refine x_icmp_ge_f (q := 74) dX12_feed_71 (t := 79) (by decide) rfl g5 ?_
            refine x_iload (q := 76) dX12_feed_74 rfl rfl ?_
            refine x_goto dX12_feed_76 (q := 81) (by decide) ?_
            refine x_sub (ls2 := [(0, .ref v0), (1, .int v1), (2, .int v2), (3, .int v3), (4, .int v4), (5, .int v5), (6, .int s.1)]) [0, 1, 2, 3, 4, 5, 6] rfl ?_
            exact s_X12_feed_b81 s.2 v0 v1 v2 v3 v4 v5 s.1 v4 hn H
        · refine x_icmp_ge_f (q := 63) dX12_feed_60 (t := 67) (by decide) rfl g4 ?_
          refine x_iload_n (q := 64) dX12_feed_63 rfl rfl ?_
          refine x_goto dX12_feed_64 (q := 81) (by decide) ?_
          refine x_sub (ls2 := [(0, .ref v0), (1, .int v1), (2, .int v2), (3, .int v3), (4, .int v4), (5, .int v5), (6, .int s.1)]) [0, 1, 2, 3, 4, 5, 6] rfl ?_
          exact s_X12_feed_b81 s.2 v0 v1 v2 v3 v4 v5 s.1 v3 hn H
      · refine x_icmp_ge_f (q := 52) dX12_feed_49 (t := 56) (by decide) rfl g3 ?_
        refine x_iload_n (q := 53) dX12_feed_52 rfl rfl ?_
        refine x_goto dX12_feed_53 (q := 81) (by decide) ?_
        refine x_sub (ls2 := [(0, .ref v0), (1, .int v1), (2, .int v2), (3, .int v3), (4, .int v4), (5, .int v5), (6, .int s.1)]) [0, 1, 2, 3, 4, 5, 6] rfl ?_
        exact s_X12_feed_b81 s.2 v0 v1 v2 v3 v4 v5 s.1 v2 hn H
    · refine x_icmp_ge_f (q := 41) dX12_feed_38 (t := 45) (by decide) rfl g2 ?_
      refine x_iload_n (q := 42) dX12_feed_41 rfl rfl ?_
      refine x_goto dX12_feed_42 (q := 81) (by decide) ?_
      refine x_sub (ls2 := [(0, .ref v0), (1, .int v1), (2, .int v2), (3, .int v3), (4, .int v4), (5, .int v5), (6, .int s.1)]) [0, 1, 2, 3, 4, 5, 6] rfl ?_
      exact s_X12_feed_b81 s.2 v0 v1 v2 v3 v4 v5 s.1 v1 hn H
theorem sl_X12_feed_l28 {Z : Nat → (Nat → Nat) → State → Prop} (v0 : Nat) (v1 : Int32) (v2 : Int32) (v3 : Int32) (v4 : Int32) (v5 : Int32) (n : Nat) (s : Int32 × KH) (r : KH) (hn : (s.2).1 = 243) (H : kloop (f_X12_feed_l28 v0 v1 v2 v3 v4 v5) n s = some r) : KX Z RX12 cX12_feed 8 false 1 (E_X12_feed_l28 v0 v1 v2 v3 v4 v5 r) 28 [(0, .ref v0), (1, .int v1), (2, .int v2), (3, .int v3), (4, .int v4), (5, .int v5), (6, .int s.1)] [] s.2 :=
  k_loop (ls := (fun (s : Int32 × KH) => ([(0, .ref v0), (1, .int v1), (2, .int v2), (3, .int v3), (4, .int v4), (5, .int v5), (6, .int s.1)] : List (Nat × Value)))) (hp := (fun (s : Int32 × KH) => (s.2 : KH))) (G := E_X12_feed_l28 v0 v1 v2 v3 v4 v5) (fun s t hn H => s_X12_feed_l28 v0 v1 v2 v3 v4 v5 s t hn H) n s r hn H
def f_X12_feed (h : KH) (v0 : Nat) (v1 : Int32) (v2 : Int32) (v3 : Int32) (v4 : Int32) (v5 : Int32) : Option (Int32 × KH) :=
  if kkind v0 = 12 then if ((kI h v0 1) + (20 : Int32)) ≤ (1600 : Int32) then
  kb (kloop (f_X12_feed_l28 v0 v1 v2 v3 v4 v5) KF ((0 : Int32), h)) fun e3 =>
  some ((kI e3 v0 1), e3)
  else
  if (kR h v0 9) < 999999 then if kkind (kR h v0 9) = 20 then if klen (kR h v0 9) ≤ 0 then none else kl (ksI h (kR h v0 9) 0 ((kI h (kR h v0 9) 0) + (1 : Int32))) fun h9 =>
  some ((-1 : Int32), h9) else none else none else none
set_option maxHeartbeats 4000000 in
set_option maxRecDepth 100000 in
theorem s0_X12_feed {Z : Nat → (Nat → Nat) → State → Prop} (h : KH) (v0 : Nat) (v1 : Int32) (v2 : Int32) (v3 : Int32) (v4 : Int32) (v5 : Int32) {t : Int32 × KH} (hn : h.1 = 243) (H : f_X12_feed h v0 v1 v2 v3 v4 v5 = some t) : KX Z RX12 cX12_feed 8 false 1 (KRi cX12_feed t.1 t.2) 0 [(0, .ref v0), (1, .int v1), (2, .int v2), (3, .int v3), (4, .int v4), (5, .int v5)] [] h := by
  unfold f_X12_feed at H
  refine x_aload_n (q := 1) dX12_feed_0 rfl rfl ?_
  replace H := kif H; obtain ⟨g1, H⟩ := H
  refine x_getI (q := 4) dX12_feed_1 rfl kl_RX12_227 (Or.inl rfl) (k243 g1 (by decide) hn) ?_
  refine x_bipush (q := 6) (v := (20 : Int32)) dX12_feed_4 rfl (by decide) ?_
  refine x_iadd (q := 7) dX12_feed_6 rfl ?_
  refine x_sipush (q := 10) (v := (1600 : Int32)) dX12_feed_7 rfl (by decide) ?_
  replace H := kite H; rcases H with ⟨g2, H⟩ | ⟨g2, H⟩
  · refine x_icmp_le_t dX12_feed_10 (q := 25) (by decide) g2 ?_
    refine x_iconst (q := 26) (v := (0 : Int32)) dX12_feed_25 rfl (by decide) ?_
    refine x_istore (q := 28) (i := 6) (ls2 := [(6, .int (0 : Int32)), (0, .ref v0), (1, .int v1), (2, .int v2), (3, .int v3), (4, .int v4), (5, .int v5)]) dX12_feed_26 rfl (by decide) rfl ?_
    refine x_sub (ls2 := [(0, .ref v0), (1, .int v1), (2, .int v2), (3, .int v3), (4, .int v4), (5, .int v5), (6, .int (0 : Int32))]) [1, 2, 3, 4, 5, 6, 0] rfl ?_
    replace H := kbe H; obtain ⟨e3, c4, H⟩ := H
    refine x_app (sl_X12_feed_l28 v0 v1 v2 v3 v4 v5 KF ((0 : Int32), h) e3 hn c4) fun pc2 ls2 st2 h2 hg m5 => ?_
    obtain ⟨rfl, rfl, rfl, rfl⟩ := hg
    refine x_aload_n (q := 125) dX12_feed_124 rfl rfl ?_
    refine x_getI (q := 128) dX12_feed_125 rfl kl_RX12_227 (Or.inl rfl) (k243 g1 (by decide) (m5.full hn)) ?_
    cases H
    exact x_end ⟨dX12_feed_128, rfl, rfl⟩
  · refine x_icmp_le_f (q := 13) dX12_feed_10 (t := 25) (by decide) rfl g2 ?_
    refine x_aload_n (q := 14) dX12_feed_13 rfl rfl ?_
    replace H := kif H; obtain ⟨g6, H⟩ := H
    refine x_getR (q := 17) dX12_feed_14 rfl kl_RX12_17 rfl (k243 g1 (by decide) hn) g6 ?_
    refine x_iconst (q := 18) (v := (0 : Int32)) dX12_feed_17 rfl (by decide) ?_
    refine x_dup2 (q := 19) dX12_feed_18 rfl ⟨rfl, rfl⟩ ?_
    replace H := kif H; obtain ⟨g7, H⟩ := H
    replace H := kifn H; obtain ⟨g8, H⟩ := H
    refine x_iald (q := 20) dX12_feed_19 rfl (k243 g7 (by decide) hn) (fun z => z.elim (by decide) g8) ?_
    refine x_iconst (q := 21) (v := (1 : Int32)) dX12_feed_20 rfl (by decide) ?_
    refine x_iadd (q := 22) dX12_feed_21 rfl ?_
    replace H := kle H; obtain ⟨h9, q10, H⟩ := H
    refine x_iast (q := 23) dX12_feed_22 rfl (k243 g7 (by decide) hn) (fun z => z.elim (by decide) g8) ?_
    refine x_nmH q10 ?_
    have n11 : h9.1 = 243 := by rw [q10]; exact hn
    refine x_iconst (q := 24) (v := (-1 : Int32)) dX12_feed_23 rfl (by decide) ?_
    cases H
    exact x_end ⟨dX12_feed_24, rfl, rfl⟩
theorem s_X12_feed {Z : Nat → (Nat → Nat) → State → Prop} (h : KH) (v0 : Nat) (v1 : Int32) (v2 : Int32) (v3 : Int32) (v4 : Int32) (v5 : Int32) {t : Int32 × KH} (hn : h.1 = 243) (H : f_X12_feed h v0 v1 v2 v3 v4 v5 = some t) : KM Z yX12_feed cX12_feed 8 (some .int) 1 [.ref v0, .int v1, .int v2, .int v3, .int v4, .int v5] h (some (.int t.1)) t.2 :=
  kx_i (own := RX12) (ini := false) (by decide +kernel) (by decide +kernel) rfl (Nat.le_of_ble_eq_true rfl) (s0_X12_feed h v0 v1 v2 v3 v4 v5 hn H)
theorem dX12_end_0 : decode cX12_end 0 = .ok (.iload_n 1, 1) := by decide +kernel
theorem dX12_end_1 : decode cX12_end 1 = .ok (.ifCond .lt 11, 3) := by decide +kernel
theorem dX12_end_4 : decode cX12_end 4 = .ok (.iload_n 1, 1) := by decide +kernel
theorem dX12_end_5 : decode cX12_end 5 = .ok (.aload_n 0, 1) := by decide +kernel
theorem dX12_end_6 : decode cX12_end 6 = .ok (.getfield 227, 3) := by decide +kernel
theorem dX12_end_9 : decode cX12_end 9 = .ok (.if_icmp .le 15, 3) := by decide +kernel
theorem dX12_end_12 : decode cX12_end 12 = .ok (.aload_n 0, 1) := by decide +kernel
theorem dX12_end_13 : decode cX12_end 13 = .ok (.getfield 17, 3) := by decide +kernel
theorem dX12_end_16 : decode cX12_end 16 = .ok (.iconst 0, 1) := by decide +kernel
theorem dX12_end_17 : decode cX12_end 17 = .ok (.dup2, 1) := by decide +kernel
theorem dX12_end_18 : decode cX12_end 18 = .ok (.iaload, 1) := by decide +kernel
theorem dX12_end_19 : decode cX12_end 19 = .ok (.iconst 1, 1) := by decide +kernel
theorem dX12_end_20 : decode cX12_end 20 = .ok (.iadd, 1) := by decide +kernel
theorem dX12_end_21 : decode cX12_end 21 = .ok (.iastore, 1) := by decide +kernel
theorem dX12_end_22 : decode cX12_end 22 = .ok (.iconst 0, 1) := by decide +kernel
theorem dX12_end_23 : decode cX12_end 23 = .ok (.ireturn, 1) := by decide +kernel
theorem dX12_end_24 : decode cX12_end 24 = .ok (.aload_n 0, 1) := by decide +kernel
theorem dX12_end_25 : decode cX12_end 25 = .ok (.iload_n 1, 1) := by decide +kernel
theorem dX12_end_26 : decode cX12_end 26 = .ok (.putfield 227, 3) := by decide +kernel
theorem dX12_end_29 : decode cX12_end 29 = .ok (.iconst 1, 1) := by decide +kernel
theorem dX12_end_30 : decode cX12_end 30 = .ok (.ireturn, 1) := by decide +kernel
def f_X12_end_b12 (h : KH) (v0 : Nat) : Option (Int32 × KH) :=
  if kkind v0 = 12 then if (kR h v0 9) < 999999 then if kkind (kR h v0 9) = 20 then if klen (kR h v0 9) ≤ 0 then none else kl (ksI h (kR h v0 9) 0 ((kI h (kR h v0 9) 0) + (1 : Int32))) fun h5 =>
  some ((0 : Int32), h5) else none else none else none
set_option maxHeartbeats 4000000 in
set_option maxRecDepth 100000 in
theorem s_X12_end_b12 {Z : Nat → (Nat → Nat) → State → Prop} (h : KH) (v0 : Nat) {t : Int32 × KH} (hn : h.1 = 243) (H : f_X12_end_b12 h v0 = some t) : KX Z RX12 cX12_end 2 false 1 (KRz cX12_end t.1 t.2) 12 [(0, .ref v0)] [] h := by
  unfold f_X12_end_b12 at H
  refine x_aload_n (q := 13) dX12_end_12 rfl rfl ?_
  replace H := kif H; obtain ⟨g1, H⟩ := H
  replace H := kif H; obtain ⟨g2, H⟩ := H
  refine x_getR (q := 16) dX12_end_13 rfl kl_RX12_17 rfl (k243 g1 (by decide) hn) g2 ?_
  refine x_iconst (q := 17) (v := (0 : Int32)) dX12_end_16 rfl (by decide) ?_
  refine x_dup2 (q := 18) dX12_end_17 rfl ⟨rfl, rfl⟩ ?_
  replace H := kif H; obtain ⟨g3, H⟩ := H
  replace H := kifn H; obtain ⟨g4, H⟩ := H
  refine x_iald (q := 19) dX12_end_18 rfl (k243 g3 (by decide) hn) (fun z => z.elim (by decide) g4) ?_
  refine x_iconst (q := 20) (v := (1 : Int32)) dX12_end_19 rfl (by decide) ?_
  refine x_iadd (q := 21) dX12_end_20 rfl ?_
  replace H := kle H; obtain ⟨h5, q6, H⟩ := H
  refine x_iast (q := 22) dX12_end_21 rfl (k243 g3 (by decide) hn) (fun z => z.elim (by decide) g4) ?_
  refine x_nmH q6 ?_
  have n7 : h5.1 = 243 := by rw [q6]; exact hn
  refine x_iconst (q := 23) (v := (0 : Int32)) dX12_end_22 rfl (by decide) ?_
  cases H
  exact x_end ⟨(Or.inl rfl), dX12_end_23, rfl, rfl⟩
def f_X12_end (h : KH) (v0 : Nat) (v1 : Int32) : Option (Int32 × KH) :=
  if v1 < 0 then
  f_X12_end_b12 h v0
  else
  if kkind v0 = 12 then if v1 ≤ (kI h v0 1) then
  kl (ksI h v0 1 v1) fun h4 =>
  some ((1 : Int32), h4)
  else
  f_X12_end_b12 h v0 else none
set_option maxHeartbeats 4000000 in
set_option maxRecDepth 100000 in
theorem s0_X12_end {Z : Nat → (Nat → Nat) → State → Prop} (h : KH) (v0 : Nat) (v1 : Int32) {t : Int32 × KH} (hn : h.1 = 243) (H : f_X12_end h v0 v1 = some t) : KX Z RX12 cX12_end 2 false 1 (KRz cX12_end t.1 t.2) 0 [(0, .ref v0), (1, .int v1)] [] h := by
  unfold f_X12_end at H
  refine x_iload_n (q := 1) dX12_end_0 rfl rfl ?_
  replace H := kite H; rcases H with ⟨g1, H⟩ | ⟨g1, H⟩
  · refine x_if_lt_t dX12_end_1 (q := 12) (by decide) g1 ?_
    refine x_sub (ls2 := [(0, .ref v0)]) [0] rfl ?_
    exact s_X12_end_b12 h v0 hn H
  · refine x_if_lt_f (q := 4) dX12_end_1 (t := 12) (by decide) rfl g1 ?_
    refine x_iload_n (q := 5) dX12_end_4 rfl rfl ?_
    refine x_aload_n (q := 6) dX12_end_5 rfl rfl ?_
    replace H := kif H; obtain ⟨g2, H⟩ := H
    refine x_getI (q := 9) dX12_end_6 rfl kl_RX12_227 (Or.inl rfl) (k243 g2 (by decide) hn) ?_
    replace H := kite H; rcases H with ⟨g3, H⟩ | ⟨g3, H⟩
    · refine x_icmp_le_t dX12_end_9 (q := 24) (by decide) g3 ?_
      refine x_aload_n (q := 25) dX12_end_24 rfl rfl ?_
      refine x_iload_n (q := 26) dX12_end_25 rfl rfl ?_
      replace H := kle H; obtain ⟨h4, q5, H⟩ := H
      refine x_putI (q := 29) dX12_end_26 rfl kl_RX12_227 (Or.inl rfl) rfl (k243 g2 (by decide) hn) ?_
      refine x_nmH q5 ?_
      have n6 : h4.1 = 243 := by rw [q5]; exact hn
      refine x_iconst (q := 30) (v := (1 : Int32)) dX12_end_29 rfl (by decide) ?_
      cases H
      exact x_end ⟨(Or.inr rfl), dX12_end_30, rfl, rfl⟩
    · refine x_icmp_le_f (q := 12) dX12_end_9 (t := 24) (by decide) rfl g3 ?_
      refine x_sub (ls2 := [(0, .ref v0)]) [0] rfl ?_
      exact s_X12_end_b12 h v0 hn H
theorem s_X12_end {Z : Nat → (Nat → Nat) → State → Prop} (h : KH) (v0 : Nat) (v1 : Int32) {t : Int32 × KH} (hn : h.1 = 243) (H : f_X12_end h v0 v1 = some t) : KM Z yX12_end cX12_end 2 (some .boolean) 1 [.ref v0, .int v1] h (some (.int t.1)) t.2 :=
  kx_z (own := RX12) (ini := false) (by decide +kernel) (by decide +kernel) rfl (Nat.le_of_ble_eq_true rfl) (s0_X12_end h v0 v1 hn H)
theorem dX12_fail_0 : decode cX12_fail 0 = .ok (.aload_n 0, 1) := by decide +kernel
theorem dX12_fail_1 : decode cX12_fail 1 = .ok (.getfield 230, 3) := by decide +kernel
theorem dX12_fail_4 : decode cX12_fail 4 = .ok (.ifCond .eq 4, 3) := by decide +kernel
theorem dX12_fail_7 : decode cX12_fail 7 = .ok (.return_, 1) := by decide +kernel
theorem dX12_fail_8 : decode cX12_fail 8 = .ok (.aload_n 0, 1) := by decide +kernel
theorem dX12_fail_9 : decode cX12_fail 9 = .ok (.iload_n 1, 1) := by decide +kernel
theorem dX12_fail_10 : decode cX12_fail 10 = .ok (.putfield 230, 3) := by decide +kernel
theorem dX12_fail_13 : decode cX12_fail 13 = .ok (.aload_n 0, 1) := by decide +kernel
theorem dX12_fail_14 : decode cX12_fail 14 = .ok (.iload_n 2, 1) := by decide +kernel
theorem dX12_fail_15 : decode cX12_fail 15 = .ok (.putfield 233, 3) := by decide +kernel
theorem dX12_fail_18 : decode cX12_fail 18 = .ok (.return_, 1) := by decide +kernel
theorem kl_RX12_230 : KLk RX12 230 12 5 := ⟨RX12, TX12, 97, rfl, by decide, Or.inl (kwm 1202 (by decide +kernel) (by decide +kernel))⟩
theorem kl_RX12_233 : KLk RX12 233 12 6 := ⟨RX12, TX12, 97, rfl, by decide, Or.inl (kwm 1203 (by decide +kernel) (by decide +kernel))⟩
def f_X12_fail (h : KH) (v0 : Nat) (v1 : Int32) (v2 : Int32) : Option (KH) :=
  if kkind v0 = 12 then if (kI h v0 5) = 0 then
  kl (ksI h v0 5 v1) fun h3 =>
  kl (ksI h3 v0 6 v2) fun h6 =>
  some h6
  else
  some h else none
set_option maxHeartbeats 4000000 in
set_option maxRecDepth 100000 in
theorem s0_X12_fail {Z : Nat → (Nat → Nat) → State → Prop} (h : KH) (v0 : Nat) (v1 : Int32) (v2 : Int32) {t : KH} (hn : h.1 = 243) (H : f_X12_fail h v0 v1 v2 = some t) : KX Z RX12 cX12_fail 3 false 1 (KRv cX12_fail t) 0 [(0, .ref v0), (1, .int v1), (2, .int v2)] [] h := by
  unfold f_X12_fail at H
  refine x_aload_n (q := 1) dX12_fail_0 rfl rfl ?_
  replace H := kif H; obtain ⟨g1, H⟩ := H
  refine x_getI (q := 4) dX12_fail_1 rfl kl_RX12_230 (Or.inl rfl) (k243 g1 (by decide) hn) ?_
  replace H := kite H; rcases H with ⟨g2, H⟩ | ⟨g2, H⟩
  · refine x_if_eq_t dX12_fail_4 (q := 8) (by decide) g2 ?_
    refine x_aload_n (q := 9) dX12_fail_8 rfl rfl ?_
    refine x_iload_n (q := 10) dX12_fail_9 rfl rfl ?_
    replace H := kle H; obtain ⟨h3, q4, H⟩ := H
    refine x_putI (q := 13) dX12_fail_10 rfl kl_RX12_230 (Or.inl rfl) rfl (k243 g1 (by decide) hn) ?_
    refine x_nmH q4 ?_
    have n5 : h3.1 = 243 := by rw [q4]; exact hn
    refine x_aload_n (q := 14) dX12_fail_13 rfl rfl ?_
    refine x_iload_n (q := 15) dX12_fail_14 rfl rfl ?_
    replace H := kle H; obtain ⟨h6, q7, H⟩ := H
    refine x_putI (q := 18) dX12_fail_15 rfl kl_RX12_233 (Or.inl rfl) rfl (k243 g1 (by decide) n5) ?_
    refine x_nmH q7 ?_
    have n8 : h6.1 = 243 := by rw [q7]; exact n5
    cases H
    exact x_end ⟨dX12_fail_18, rfl, rfl⟩
  · refine x_if_eq_f (q := 7) dX12_fail_4 (t := 8) (by decide) rfl g2 ?_
    cases H
    exact x_end ⟨dX12_fail_7, rfl, rfl⟩
theorem s_X12_fail {Z : Nat → (Nat → Nat) → State → Prop} (h : KH) (v0 : Nat) (v1 : Int32) (v2 : Int32) {t : KH} (hn : h.1 = 243) (H : f_X12_fail h v0 v1 v2 = some t) : KM Z yX12_fail cX12_fail 3 none 1 [.ref v0, .int v1, .int v2] h none t :=
  kx_v (own := RX12) (ini := false) (by decide +kernel) (by decide +kernel) rfl (Nat.le_of_ble_eq_true rfl) (s0_X12_fail h v0 v1 v2 hn H)
theorem dX12_isLetter_0 : decode cX12_isLetter 0 = .ok (.iload_n 0, 1) := by decide +kernel
theorem dX12_isLetter_1 : decode cX12_isLetter 1 = .ok (.bipush 97, 2) := by decide +kernel
theorem dX12_isLetter_3 : decode cX12_isLetter 3 = .ok (.if_icmp .lt 13, 3) := by decide +kernel
theorem dX12_isLetter_6 : decode cX12_isLetter 6 = .ok (.iload_n 0, 1) := by decide +kernel
theorem dX12_isLetter_7 : decode cX12_isLetter 7 = .ok (.bipush 122, 2) := by decide +kernel
theorem dX12_isLetter_9 : decode cX12_isLetter 9 = .ok (.if_icmp .gt 7, 3) := by decide +kernel
theorem dX12_isLetter_12 : decode cX12_isLetter 12 = .ok (.iconst 1, 1) := by decide +kernel
theorem dX12_isLetter_13 : decode cX12_isLetter 13 = .ok (.goto 4, 3) := by decide +kernel
theorem dX12_isLetter_16 : decode cX12_isLetter 16 = .ok (.iconst 0, 1) := by decide +kernel
theorem dX12_isLetter_17 : decode cX12_isLetter 17 = .ok (.ireturn, 1) := by decide +kernel
def f_X12_isLetter (h : KH) (v0 : Int32) : Option (Int32) :=
  if v0 < (97 : Int32) then
  some (0 : Int32)
  else
  if (122 : Int32) < v0 then
  some (0 : Int32)
  else
  some (1 : Int32)
set_option maxHeartbeats 4000000 in
set_option maxRecDepth 100000 in
theorem s0_X12_isLetter {Z : Nat → (Nat → Nat) → State → Prop} (h : KH) (v0 : Int32) {t : Int32} (hn : h.1 = 243) (H : f_X12_isLetter h v0 = some t) : KX Z RX12 cX12_isLetter 1 false 1 (KRz cX12_isLetter t h) 0 [(0, .int v0)] [] h := by
  unfold f_X12_isLetter at H
  refine x_iload_n (q := 1) dX12_isLetter_0 rfl rfl ?_
  refine x_bipush (q := 3) (v := (97 : Int32)) dX12_isLetter_1 rfl (by decide) ?_
  replace H := kite H; rcases H with ⟨g1, H⟩ | ⟨g1, H⟩
  · refine x_icmp_lt_t dX12_isLetter_3 (q := 16) (by decide) g1 ?_
    refine x_iconst (q := 17) (v := (0 : Int32)) dX12_isLetter_16 rfl (by decide) ?_
    cases H
    exact x_end ⟨(Or.inl rfl), dX12_isLetter_17, rfl, rfl⟩
  · refine x_icmp_lt_f (q := 6) dX12_isLetter_3 (t := 16) (by decide) rfl g1 ?_
    refine x_iload_n (q := 7) dX12_isLetter_6 rfl rfl ?_
    refine x_bipush (q := 9) (v := (122 : Int32)) dX12_isLetter_7 rfl (by decide) ?_
    replace H := kite H; rcases H with ⟨g2, H⟩ | ⟨g2, H⟩
    · refine x_icmp_gt_t dX12_isLetter_9 (q := 16) (by decide) g2 ?_
      refine x_iconst (q := 17) (v := (0 : Int32)) dX12_isLetter_16 rfl (by decide) ?_
      cases H
      exact x_end ⟨(Or.inl rfl), dX12_isLetter_17, rfl, rfl⟩
    · refine x_icmp_gt_f (q := 12) dX12_isLetter_9 (t := 16) (by decide) rfl g2 ?_
      refine x_iconst (q := 13) (v := (1 : Int32)) dX12_isLetter_12 rfl (by decide) ?_
      refine x_goto dX12_isLetter_13 (q := 17) (by decide) ?_
      cases H
      exact x_end ⟨(Or.inr rfl), dX12_isLetter_17, rfl, rfl⟩
theorem s_X12_isLetter {Z : Nat → (Nat → Nat) → State → Prop} (h : KH) (v0 : Int32) {t : Int32} (hn : h.1 = 243) (H : f_X12_isLetter h v0 = some t) : KM Z yX12_isLetter cX12_isLetter 1 (some .boolean) 1 [.int v0] h (some (.int t)) h :=
  kx_z (own := RX12) (ini := false) (by decide +kernel) (by decide +kernel) rfl (Nat.le_of_ble_eq_true rfl) (s0_X12_isLetter h v0 hn H)
theorem dX12_isDigit_0 : decode cX12_isDigit 0 = .ok (.iload_n 0, 1) := by decide +kernel
theorem dX12_isDigit_1 : decode cX12_isDigit 1 = .ok (.bipush 48, 2) := by decide +kernel
theorem dX12_isDigit_3 : decode cX12_isDigit 3 = .ok (.if_icmp .lt 13, 3) := by decide +kernel
theorem dX12_isDigit_6 : decode cX12_isDigit 6 = .ok (.iload_n 0, 1) := by decide +kernel
theorem dX12_isDigit_7 : decode cX12_isDigit 7 = .ok (.bipush 57, 2) := by decide +kernel
theorem dX12_isDigit_9 : decode cX12_isDigit 9 = .ok (.if_icmp .gt 7, 3) := by decide +kernel
theorem dX12_isDigit_12 : decode cX12_isDigit 12 = .ok (.iconst 1, 1) := by decide +kernel
theorem dX12_isDigit_13 : decode cX12_isDigit 13 = .ok (.goto 4, 3) := by decide +kernel
theorem dX12_isDigit_16 : decode cX12_isDigit 16 = .ok (.iconst 0, 1) := by decide +kernel
theorem dX12_isDigit_17 : decode cX12_isDigit 17 = .ok (.ireturn, 1) := by decide +kernel
def f_X12_isDigit (h : KH) (v0 : Int32) : Option (Int32) :=
  if v0 < (48 : Int32) then
  some (0 : Int32)
  else
  if (57 : Int32) < v0 then
  some (0 : Int32)
  else
  some (1 : Int32)
set_option maxHeartbeats 4000000 in
set_option maxRecDepth 100000 in
theorem s0_X12_isDigit {Z : Nat → (Nat → Nat) → State → Prop} (h : KH) (v0 : Int32) {t : Int32} (hn : h.1 = 243) (H : f_X12_isDigit h v0 = some t) : KX Z RX12 cX12_isDigit 1 false 1 (KRz cX12_isDigit t h) 0 [(0, .int v0)] [] h := by
  unfold f_X12_isDigit at H
  refine x_iload_n (q := 1) dX12_isDigit_0 rfl rfl ?_
  refine x_bipush (q := 3) (v := (48 : Int32)) dX12_isDigit_1 rfl (by decide) ?_
  replace H := kite H; rcases H with ⟨g1, H⟩ | ⟨g1, H⟩
  · refine x_icmp_lt_t dX12_isDigit_3 (q := 16) (by decide) g1 ?_
    refine x_iconst (q := 17) (v := (0 : Int32)) dX12_isDigit_16 rfl (by decide) ?_
    cases H
    exact x_end ⟨(Or.inl rfl), dX12_isDigit_17, rfl, rfl⟩
  · refine x_icmp_lt_f (q := 6) dX12_isDigit_3 (t := 16) (by decide) rfl g1 ?_
    refine x_iload_n (q := 7) dX12_isDigit_6 rfl rfl ?_
    refine x_bipush (q := 9) (v := (57 : Int32)) dX12_isDigit_7 rfl (by decide) ?_
    replace H := kite H; rcases H with ⟨g2, H⟩ | ⟨g2, H⟩
    · refine x_icmp_gt_t dX12_isDigit_9 (q := 16) (by decide) g2 ?_
      refine x_iconst (q := 17) (v := (0 : Int32)) dX12_isDigit_16 rfl (by decide) ?_
      cases H
      exact x_end ⟨(Or.inl rfl), dX12_isDigit_17, rfl, rfl⟩
    · refine x_icmp_gt_f (q := 12) dX12_isDigit_9 (t := 16) (by decide) rfl g2 ?_
      refine x_iconst (q := 13) (v := (1 : Int32)) dX12_isDigit_12 rfl (by decide) ?_
      refine x_goto dX12_isDigit_13 (q := 17) (by decide) ?_
      cases H
      exact x_end ⟨(Or.inr rfl), dX12_isDigit_17, rfl, rfl⟩
theorem s_X12_isDigit {Z : Nat → (Nat → Nat) → State → Prop} (h : KH) (v0 : Int32) {t : Int32} (hn : h.1 = 243) (H : f_X12_isDigit h v0 = some t) : KM Z yX12_isDigit cX12_isDigit 1 (some .boolean) 1 [.int v0] h (some (.int t)) h :=
  kx_z (own := RX12) (ini := false) (by decide +kernel) (by decide +kernel) rfl (Nat.le_of_ble_eq_true rfl) (s0_X12_isDigit h v0 hn H)
theorem dX12_look0_0 : decode cX12_look0 0 = .ok (.aload_n 0, 1) := by decide +kernel
theorem dX12_look0_1 : decode cX12_look0 1 = .ok (.getfield 236, 3) := by decide +kernel
theorem dX12_look0_4 : decode cX12_look0 4 = .ok (.aload_n 0, 1) := by decide +kernel
theorem dX12_look0_5 : decode cX12_look0 5 = .ok (.getfield 239, 3) := by decide +kernel
theorem dX12_look0_8 : decode cX12_look0 8 = .ok (.if_icmp .ge 44, 3) := by decide +kernel
theorem dX12_look0_11 : decode cX12_look0 11 = .ok (.aload_n 0, 1) := by decide +kernel
theorem dX12_look0_12 : decode cX12_look0 12 = .ok (.getfield 7, 3) := by decide +kernel
theorem dX12_look0_15 : decode cX12_look0 15 = .ok (.aload_n 0, 1) := by decide +kernel
theorem dX12_look0_16 : decode cX12_look0 16 = .ok (.getfield 236, 3) := by decide +kernel
theorem dX12_look0_19 : decode cX12_look0 19 = .ok (.iaload, 1) := by decide +kernel
theorem dX12_look0_20 : decode cX12_look0 20 = .ok (.bipush 10, 2) := by decide +kernel
theorem dX12_look0_22 : decode cX12_look0 22 = .ok (.if_icmp .eq 17, 3) := by decide +kernel
theorem dX12_look0_25 : decode cX12_look0 25 = .ok (.aload_n 0, 1) := by decide +kernel
theorem dX12_look0_26 : decode cX12_look0 26 = .ok (.getfield 7, 3) := by decide +kernel
theorem dX12_look0_29 : decode cX12_look0 29 = .ok (.aload_n 0, 1) := by decide +kernel
theorem dX12_look0_30 : decode cX12_look0 30 = .ok (.getfield 236, 3) := by decide +kernel
theorem dX12_look0_33 : decode cX12_look0 33 = .ok (.iaload, 1) := by decide +kernel
theorem dX12_look0_34 : decode cX12_look0 34 = .ok (.bipush 32, 2) := by decide +kernel
theorem dX12_look0_36 : decode cX12_look0 36 = .ok (.if_icmp .ne 16, 3) := by decide +kernel
theorem dX12_look0_39 : decode cX12_look0 39 = .ok (.aload_n 0, 1) := by decide +kernel
theorem dX12_look0_40 : decode cX12_look0 40 = .ok (.dup, 1) := by decide +kernel
theorem dX12_look0_41 : decode cX12_look0 41 = .ok (.getfield 236, 3) := by decide +kernel
theorem dX12_look0_44 : decode cX12_look0 44 = .ok (.iconst 1, 1) := by decide +kernel
theorem dX12_look0_45 : decode cX12_look0 45 = .ok (.iadd, 1) := by decide +kernel
theorem dX12_look0_46 : decode cX12_look0 46 = .ok (.putfield 236, 3) := by decide +kernel
theorem dX12_look0_49 : decode cX12_look0 49 = .ok (.goto (-49), 3) := by decide +kernel
theorem dX12_look0_52 : decode cX12_look0 52 = .ok (.aload_n 0, 1) := by decide +kernel
theorem dX12_look0_53 : decode cX12_look0 53 = .ok (.getfield 236, 3) := by decide +kernel
theorem dX12_look0_56 : decode cX12_look0 56 = .ok (.aload_n 0, 1) := by decide +kernel
theorem dX12_look0_57 : decode cX12_look0 57 = .ok (.getfield 239, 3) := by decide +kernel
theorem dX12_look0_60 : decode cX12_look0 60 = .ok (.if_icmp .ge 15, 3) := by decide +kernel
theorem dX12_look0_63 : decode cX12_look0 63 = .ok (.aload_n 0, 1) := by decide +kernel
theorem dX12_look0_64 : decode cX12_look0 64 = .ok (.getfield 7, 3) := by decide +kernel
theorem dX12_look0_67 : decode cX12_look0 67 = .ok (.aload_n 0, 1) := by decide +kernel
theorem dX12_look0_68 : decode cX12_look0 68 = .ok (.getfield 236, 3) := by decide +kernel
theorem dX12_look0_71 : decode cX12_look0 71 = .ok (.iaload, 1) := by decide +kernel
theorem dX12_look0_72 : decode cX12_look0 72 = .ok (.goto 4, 3) := by decide +kernel
theorem dX12_look0_75 : decode cX12_look0 75 = .ok (.iconst (-1), 1) := by decide +kernel
theorem dX12_look0_76 : decode cX12_look0 76 = .ok (.ireturn, 1) := by decide +kernel
theorem kl_RX12_236 : KLk RX12 236 12 2 := ⟨RX12, TX12, 97, rfl, by decide, Or.inl (kwm 1199 (by decide +kernel) (by decide +kernel))⟩
theorem kl_RX12_239 : KLk RX12 239 12 3 := ⟨RX12, TX12, 97, rfl, by decide, Or.inl (kwm 1200 (by decide +kernel) (by decide +kernel))⟩
def E_X12_look0_l0 (v0 : Nat) : KH → Nat → List (Nat × Value) → List Value → KH → Prop := fun (e : KH) pc ls st hh => pc = 52 ∧ ls = [(0, .ref v0)] ∧ st = [] ∧ e = hh
def B_X12_look0_l0 (v0 : Nat) : ((KH) ⊕ (KH)) → Nat → List (Nat × Value) → List Value → KH → Prop := Sum.elim (fun (s : KH) pc ls st hh => pc = 0 ∧ ls = [(0, .ref v0)] ∧ st = [] ∧ hh = s) (E_X12_look0_l0 v0)
def f_X12_look0_b39 (h : KH) (v0 : Nat) : Option ((KH) ⊕ (KH)) :=
  if kkind v0 = 12 then kl (ksI h v0 2 ((kI h v0 2) + (1 : Int32))) fun h2 =>
  some (.inl h2) else none
set_option maxHeartbeats 4000000 in
set_option maxRecDepth 100000 in
theorem s_X12_look0_b39 {Z : Nat → (Nat → Nat) → State → Prop} (h : KH) (v0 : Nat) {t : (KH) ⊕ (KH)} (hn : h.1 = 243) (H : f_X12_look0_b39 h v0 = some t) : KX Z RX12 cX12_look0 1 false 1 (B_X12_look0_l0 v0 t) 39 [(0, .ref v0)] [] h := by
  unfold f_X12_look0_b39 at H
  refine x_aload_n (q := 40) dX12_look0_39 rfl rfl ?_
  refine x_dup (q := 41) dX12_look0_40 rfl rfl ?_
  replace H := kif H; obtain ⟨g1, H⟩ := H
  refine x_getI (q := 44) dX12_look0_41 rfl kl_RX12_236 (Or.inl rfl) (k243 g1 (by decide) hn) ?_
  refine x_iconst (q := 45) (v := (1 : Int32)) dX12_look0_44 rfl (by decide) ?_
  refine x_iadd (q := 46) dX12_look0_45 rfl ?_
  replace H := kle H; obtain ⟨h2, q3, H⟩ := H
  refine x_putI (q := 49) dX12_look0_46 rfl kl_RX12_236 (Or.inl rfl) rfl (k243 g1 (by decide) hn) ?_
  refine x_nmH q3 ?_
  have n4 : h2.1 = 243 := by rw [q3]; exact hn
  refine x_goto dX12_look0_49 (q := 0) (by decide) ?_
  cases H
  refine x_sub (ls2 := [(0, .ref v0)]) [0] rfl ?_
  exact x_end (x_cfg rfl)
def f_X12_look0_l0 (v0 : Nat) (s : KH) : Option ((KH) ⊕ (KH)) :=
  if kkind v0 = 12 then if (kI s v0 3) ≤ (kI s v0 2) then
  some (.inr s)
  else
  if (kR s v0 0) < 999999 then if kkind (kR s v0 0) = 20 then if ((kI s v0 2) < 0 ∨ klen (kR s v0 0) ≤ ((kI s v0 2)).toNatClampNeg) then none else if (kI s (kR s v0 0) (((kI s v0 2)).toNatClampNeg)) = (10 : Int32) then
  f_X12_look0_b39 s v0
  else
  if (kI s (kR s v0 0) (((kI s v0 2)).toNatClampNeg)) = (32 : Int32) then
  f_X12_look0_b39 s v0
  else
  some (.inr s) else none else none else none
set_option maxHeartbeats 4000000 in
set_option maxRecDepth 100000 in
theorem s_X12_look0_l0 {Z : Nat → (Nat → Nat) → State → Prop} (v0 : Nat) (s : KH) (t : (KH) ⊕ (KH)) (hn : (s).1 = 243) (H : f_X12_look0_l0 v0 s = some t) : KX Z RX12 cX12_look0 1 false 1 (B_X12_look0_l0 v0 t) 0 [(0, .ref v0)] [] s := by
  unfold f_X12_look0_l0 at H
  refine x_aload_n (q := 1) dX12_look0_0 rfl rfl ?_
  replace H := kif H; obtain ⟨g1, H⟩ := H
  refine x_getI (q := 4) dX12_look0_1 rfl kl_RX12_236 (Or.inl rfl) (k243 g1 (by decide) hn) ?_
  refine x_aload_n (q := 5) dX12_look0_4 rfl rfl ?_
  refine x_getI (q := 8) dX12_look0_5 rfl kl_RX12_239 (Or.inl rfl) (k243 g1 (by decide) hn) ?_
  replace H := kite H; rcases H with ⟨g2, H⟩ | ⟨g2, H⟩
  · refine x_icmp_ge_t dX12_look0_8 (q := 52) (by decide) g2 ?_
    cases H
    refine x_sub (ls2 := [(0, .ref v0)]) [0] rfl ?_
    exact x_end (x_cfg rfl)
  · refine x_icmp_ge_f (q := 11) dX12_look0_8 (t := 52) (by decide) rfl g2 ?_
    refine x_aload_n (q := 12) dX12_look0_11 rfl rfl ?_
    replace H := kif H; obtain ⟨g3, H⟩ := H
    refine x_getR (q := 15) dX12_look0_12 rfl kl_RX12_7 rfl (k243 g1 (by decide) hn) g3 ?_
    refine x_aload_n (q := 16) dX12_look0_15 rfl rfl ?_
    refine x_getI (q := 19) dX12_look0_16 rfl kl_RX12_236 (Or.inl rfl) (k243 g1 (by decide) hn) ?_
    replace H := kif H; obtain ⟨g4, H⟩ := H
    replace H := kifn H; obtain ⟨g5, H⟩ := H
    refine x_iald (q := 20) dX12_look0_19 rfl (k243 g4 (by decide) hn) g5 ?_
    refine x_bipush (q := 22) (v := (10 : Int32)) dX12_look0_20 rfl (by decide) ?_
    replace H := kite H; rcases H with ⟨g6, H⟩ | ⟨g6, H⟩
    · refine x_icmp_eq_t dX12_look0_22 (q := 39) (by decide) g6 ?_
      refine x_sub (ls2 := [(0, .ref v0)]) [0] rfl ?_
      exact s_X12_look0_b39 s v0 hn H
    · refine x_icmp_eq_f (q := 25) dX12_look0_22 (t := 39) (by decide) rfl g6 ?_
      refine x_aload_n (q := 26) dX12_look0_25 rfl rfl ?_
      refine x_getR (q := 29) dX12_look0_26 rfl kl_RX12_7 rfl (k243 g1 (by decide) hn) g3 ?_
      refine x_aload_n (q := 30) dX12_look0_29 rfl rfl ?_
      refine x_getI (q := 33) dX12_look0_30 rfl kl_RX12_236 (Or.inl rfl) (k243 g1 (by decide) hn) ?_
      refine x_iald (q := 34) dX12_look0_33 rfl (k243 g4 (by decide) hn) g5 ?_
      refine x_bipush (q := 36) (v := (32 : Int32)) dX12_look0_34 rfl (by decide) ?_
      replace H := kite H; rcases H with ⟨g7, H⟩ | ⟨g7, H⟩
      · refine x_icmp_ne_f (q := 39) dX12_look0_36 (t := 52) (by decide) rfl g7 ?_
        refine x_sub (ls2 := [(0, .ref v0)]) [0] rfl ?_
        exact s_X12_look0_b39 s v0 hn H
      · refine x_icmp_ne_t dX12_look0_36 (q := 52) (by decide) g7 ?_
        cases H
        refine x_sub (ls2 := [(0, .ref v0)]) [0] rfl ?_
        exact x_end (x_cfg rfl)
theorem sl_X12_look0_l0 {Z : Nat → (Nat → Nat) → State → Prop} (v0 : Nat) (n : Nat) (s : KH) (r : KH) (hn : (s).1 = 243) (H : kloop (f_X12_look0_l0 v0) n s = some r) : KX Z RX12 cX12_look0 1 false 1 (E_X12_look0_l0 v0 r) 0 [(0, .ref v0)] [] s :=
  k_loop (ls := (fun (s : KH) => ([(0, .ref v0)] : List (Nat × Value)))) (hp := (fun (s : KH) => (s : KH))) (G := E_X12_look0_l0 v0) (fun s t hn H => s_X12_look0_l0 v0 s t hn H) n s r hn H
def f_X12_look0_b52 (h : KH) (v0 : Nat) : Option (Int32 × KH) :=
  if kkind v0 = 12 then if (kI h v0 3) ≤ (kI h v0 2) then
  some ((-1 : Int32), h)
  else
  if (kR h v0 0) < 999999 then if kkind (kR h v0 0) = 20 then if ((kI h v0 2) < 0 ∨ klen (kR h v0 0) ≤ ((kI h v0 2)).toNatClampNeg) then none else some ((kI h (kR h v0 0) (((kI h v0 2)).toNatClampNeg)), h) else none else none else none
set_option maxHeartbeats 4000000 in
set_option maxRecDepth 100000 in
theorem s_X12_look0_b52 {Z : Nat → (Nat → Nat) → State → Prop} (h : KH) (v0 : Nat) {t : Int32 × KH} (hn : h.1 = 243) (H : f_X12_look0_b52 h v0 = some t) : KX Z RX12 cX12_look0 1 false 1 (KRi cX12_look0 t.1 t.2) 52 [(0, .ref v0)] [] h := by
  unfold f_X12_look0_b52 at H
  refine x_aload_n (q := 53) dX12_look0_52 rfl rfl ?_
  replace H := kif H; obtain ⟨g1, H⟩ := H
  refine x_getI (q := 56) dX12_look0_53 rfl kl_RX12_236 (Or.inl rfl) (k243 g1 (by decide) hn) ?_
  refine x_aload_n (q := 57) dX12_look0_56 rfl rfl ?_
  refine x_getI (q := 60) dX12_look0_57 rfl kl_RX12_239 (Or.inl rfl) (k243 g1 (by decide) hn) ?_
  replace H := kite H; rcases H with ⟨g2, H⟩ | ⟨g2, H⟩
  · refine x_icmp_ge_t dX12_look0_60 (q := 75) (by decide) g2 ?_
    refine x_iconst (q := 76) (v := (-1 : Int32)) dX12_look0_75 rfl (by decide) ?_
    cases H
    exact x_end ⟨dX12_look0_76, rfl, rfl⟩
  · refine x_icmp_ge_f (q := 63) dX12_look0_60 (t := 75) (by decide) rfl g2 ?_
    refine x_aload_n (q := 64) dX12_look0_63 rfl rfl ?_
    replace H := kif H; obtain ⟨g3, H⟩ := H
    refine x_getR (q := 67) dX12_look0_64 rfl kl_RX12_7 rfl (k243 g1 (by decide) hn) g3 ?_
    refine x_aload_n (q := 68) dX12_look0_67 rfl rfl ?_
    refine x_getI (q := 71) dX12_look0_68 rfl kl_RX12_236 (Or.inl rfl) (k243 g1 (by decide) hn) ?_
    replace H := kif H; obtain ⟨g4, H⟩ := H
    replace H := kifn H; obtain ⟨g5, H⟩ := H
    refine x_iald (q := 72) dX12_look0_71 rfl (k243 g4 (by decide) hn) g5 ?_
    refine x_goto dX12_look0_72 (q := 76) (by decide) ?_
    cases H
    exact x_end ⟨dX12_look0_76, rfl, rfl⟩
def f_X12_look0 (h : KH) (v0 : Nat) : Option (Int32 × KH) :=
  kb (kloop (f_X12_look0_l0 v0) KF h) fun e1 =>
  f_X12_look0_b52 e1 v0
set_option maxHeartbeats 4000000 in
set_option maxRecDepth 100000 in
theorem s0_X12_look0 {Z : Nat → (Nat → Nat) → State → Prop} (h : KH) (v0 : Nat) {t : Int32 × KH} (hn : h.1 = 243) (H : f_X12_look0 h v0 = some t) : KX Z RX12 cX12_look0 1 false 1 (KRi cX12_look0 t.1 t.2) 0 [(0, .ref v0)] [] h := by
  unfold f_X12_look0 at H
  refine x_sub (ls2 := [(0, .ref v0)]) [0] rfl ?_
  replace H := kbe H; obtain ⟨e1, c2, H⟩ := H
  refine x_app (sl_X12_look0_l0 v0 KF h e1 hn c2) fun pc2 ls2 st2 h2 hg m3 => ?_
  obtain ⟨rfl, rfl, rfl, rfl⟩ := hg
  refine x_sub (ls2 := [(0, .ref v0)]) [0] rfl ?_
  exact s_X12_look0_b52 e1 v0 (m3.full hn) H
theorem s_X12_look0 {Z : Nat → (Nat → Nat) → State → Prop} (h : KH) (v0 : Nat) {t : Int32 × KH} (hn : h.1 = 243) (H : f_X12_look0 h v0 = some t) : KM Z yX12_look0 cX12_look0 1 (some .int) 1 [.ref v0] h (some (.int t.1)) t.2 :=
  kx_i (own := RX12) (ini := false) (by decide +kernel) (by decide +kernel) rfl (Nat.le_of_ble_eq_true rfl) (s0_X12_look0 h v0 hn H)
theorem dX12_isHere_0 : decode cX12_isHere 0 = .ok (.aload_n 0, 1) := by decide +kernel
theorem dX12_isHere_1 : decode cX12_isHere 1 = .ok (.getfield 230, 3) := by decide +kernel
theorem dX12_isHere_4 : decode cX12_isHere 4 = .ok (.ifCond .ne 24, 3) := by decide +kernel
theorem dX12_isHere_7 : decode cX12_isHere 7 = .ok (.aload_n 0, 1) := by decide +kernel
theorem dX12_isHere_8 : decode cX12_isHere 8 = .ok (.invokevirtual 242, 3) := by decide +kernel
theorem dX12_isHere_11 : decode cX12_isHere 11 = .ok (.invokestatic 246, 3) := by decide +kernel
theorem dX12_isHere_14 : decode cX12_isHere 14 = .ok (.ifCond .eq 14, 3) := by decide +kernel
theorem dX12_isHere_17 : decode cX12_isHere 17 = .ok (.aload_n 0, 1) := by decide +kernel
theorem dX12_isHere_18 : decode cX12_isHere 18 = .ok (.getfield 236, 3) := by decide +kernel
theorem dX12_isHere_21 : decode cX12_isHere 21 = .ok (.aload_n 0, 1) := by decide +kernel
theorem dX12_isHere_22 : decode cX12_isHere 22 = .ok (.getfield 250, 3) := by decide +kernel
theorem dX12_isHere_25 : decode cX12_isHere 25 = .ok (.if_icmp .ne 5, 3) := by decide +kernel
theorem dX12_isHere_28 : decode cX12_isHere 28 = .ok (.iconst 0, 1) := by decide +kernel
theorem dX12_isHere_29 : decode cX12_isHere 29 = .ok (.ireturn, 1) := by decide +kernel
theorem dX12_isHere_30 : decode cX12_isHere 30 = .ok (.aload_n 0, 1) := by decide +kernel
theorem dX12_isHere_31 : decode cX12_isHere 31 = .ok (.getfield 236, 3) := by decide +kernel
theorem dX12_isHere_34 : decode cX12_isHere 34 = .ok (.istore_n 2, 1) := by decide +kernel
theorem dX12_isHere_35 : decode cX12_isHere 35 = .ok (.iload_n 2, 1) := by decide +kernel
theorem dX12_isHere_36 : decode cX12_isHere 36 = .ok (.aload_n 0, 1) := by decide +kernel
theorem dX12_isHere_37 : decode cX12_isHere 37 = .ok (.getfield 239, 3) := by decide +kernel
theorem dX12_isHere_40 : decode cX12_isHere 40 = .ok (.if_icmp .ge 21, 3) := by decide +kernel
theorem dX12_isHere_43 : decode cX12_isHere 43 = .ok (.aload_n 0, 1) := by decide +kernel
theorem dX12_isHere_44 : decode cX12_isHere 44 = .ok (.getfield 7, 3) := by decide +kernel
theorem dX12_isHere_47 : decode cX12_isHere 47 = .ok (.iload_n 2, 1) := by decide +kernel
theorem dX12_isHere_48 : decode cX12_isHere 48 = .ok (.iaload, 1) := by decide +kernel
theorem dX12_isHere_49 : decode cX12_isHere 49 = .ok (.invokestatic 246, 3) := by decide +kernel
theorem dX12_isHere_52 : decode cX12_isHere 52 = .ok (.ifCond .eq 9, 3) := by decide +kernel
theorem dX12_isHere_55 : decode cX12_isHere 55 = .ok (.iinc 2 1, 3) := by decide +kernel
theorem dX12_isHere_58 : decode cX12_isHere 58 = .ok (.goto (-23), 3) := by decide +kernel
theorem dX12_isHere_61 : decode cX12_isHere 61 = .ok (.iload_n 2, 1) := by decide +kernel
theorem dX12_isHere_62 : decode cX12_isHere 62 = .ok (.aload_n 0, 1) := by decide +kernel
theorem dX12_isHere_63 : decode cX12_isHere 63 = .ok (.getfield 236, 3) := by decide +kernel
theorem dX12_isHere_66 : decode cX12_isHere 66 = .ok (.isub, 1) := by decide +kernel
theorem dX12_isHere_67 : decode cX12_isHere 67 = .ok (.aload_n 1, 1) := by decide +kernel
theorem dX12_isHere_68 : decode cX12_isHere 68 = .ok (.arraylength, 1) := by decide +kernel
theorem dX12_isHere_69 : decode cX12_isHere 69 = .ok (.if_icmp .eq 5, 3) := by decide +kernel
theorem dX12_isHere_72 : decode cX12_isHere 72 = .ok (.iconst 0, 1) := by decide +kernel
theorem dX12_isHere_73 : decode cX12_isHere 73 = .ok (.ireturn, 1) := by decide +kernel
theorem dX12_isHere_74 : decode cX12_isHere 74 = .ok (.iconst 0, 1) := by decide +kernel
theorem dX12_isHere_75 : decode cX12_isHere 75 = .ok (.istore_n 3, 1) := by decide +kernel
theorem dX12_isHere_76 : decode cX12_isHere 76 = .ok (.iload_n 3, 1) := by decide +kernel
theorem dX12_isHere_77 : decode cX12_isHere 77 = .ok (.aload_n 1, 1) := by decide +kernel
theorem dX12_isHere_78 : decode cX12_isHere 78 = .ok (.arraylength, 1) := by decide +kernel
theorem dX12_isHere_79 : decode cX12_isHere 79 = .ok (.if_icmp .ge 28, 3) := by decide +kernel
theorem dX12_isHere_82 : decode cX12_isHere 82 = .ok (.aload_n 0, 1) := by decide +kernel
theorem dX12_isHere_83 : decode cX12_isHere 83 = .ok (.getfield 7, 3) := by decide +kernel
theorem dX12_isHere_86 : decode cX12_isHere 86 = .ok (.aload_n 0, 1) := by decide +kernel
theorem dX12_isHere_87 : decode cX12_isHere 87 = .ok (.getfield 236, 3) := by decide +kernel
theorem dX12_isHere_90 : decode cX12_isHere 90 = .ok (.iload_n 3, 1) := by decide +kernel
theorem dX12_isHere_91 : decode cX12_isHere 91 = .ok (.iadd, 1) := by decide +kernel
theorem dX12_isHere_92 : decode cX12_isHere 92 = .ok (.iaload, 1) := by decide +kernel
theorem dX12_isHere_93 : decode cX12_isHere 93 = .ok (.aload_n 1, 1) := by decide +kernel
theorem dX12_isHere_94 : decode cX12_isHere 94 = .ok (.iload_n 3, 1) := by decide +kernel
theorem dX12_isHere_95 : decode cX12_isHere 95 = .ok (.caload, 1) := by decide +kernel
theorem dX12_isHere_96 : decode cX12_isHere 96 = .ok (.if_icmp .eq 5, 3) := by decide +kernel
theorem dX12_isHere_99 : decode cX12_isHere 99 = .ok (.iconst 0, 1) := by decide +kernel
theorem dX12_isHere_100 : decode cX12_isHere 100 = .ok (.ireturn, 1) := by decide +kernel
theorem dX12_isHere_101 : decode cX12_isHere 101 = .ok (.iinc 3 1, 3) := by decide +kernel
theorem dX12_isHere_104 : decode cX12_isHere 104 = .ok (.goto (-28), 3) := by decide +kernel
theorem dX12_isHere_107 : decode cX12_isHere 107 = .ok (.iconst 1, 1) := by decide +kernel
theorem dX12_isHere_108 : decode cX12_isHere 108 = .ok (.ireturn, 1) := by decide +kernel
theorem kc_RX12_242 : Cond.methodLink RX12 242 yX12_look0 ∈ ktG ∧ (Cond.instanceMethod yX12_look0 ∈ ktG ∧ Cond.selects yX12_look0.cls yX12_look0 yX12_look0 ∈ ktG) ∧ Cond.initialized yX12_look0.cls ∈ ktG ∧ Cond.code yX12_look0 cX12_look0 1 (some .int) ∈ ktG := ⟨(kwm 1502 (by decide +kernel) (by decide +kernel)), ⟨(kwm 1504 (by decide +kernel) (by decide +kernel)), (kwm 36 (by decide +kernel) (by decide +kernel))⟩, (kwm 139 (by decide +kernel) (by decide +kernel)), kwm 1505 (by decide +kernel) (by decide +kernel)⟩
theorem kh_X12_look0 : yX12_look0.cls ≠ "java/lang/invoke/MethodHandle" ∧ yX12_look0.cls ≠ "java/lang/invoke/VarHandle" ∧ (parseMethodDescriptor yX12_look0.desc).map (fun d => d.parameters.length) = some 0 := by decide +kernel
theorem kc_RX12_246 : Cond.methodLink RX12 246 yX12_isLetter ∈ ktG ∧ Cond.static yX12_isLetter ∈ ktG ∧ Cond.initialized yX12_isLetter.cls ∈ ktG ∧ Cond.code yX12_isLetter cX12_isLetter 1 (some .boolean) ∈ ktG := ⟨(kwm 1522 (by decide +kernel) (by decide +kernel)), (kwm 1523 (by decide +kernel) (by decide +kernel)), (kwm 139 (by decide +kernel) (by decide +kernel)), kwm 1524 (by decide +kernel) (by decide +kernel)⟩
theorem kh_X12_isLetter : yX12_isLetter.cls ≠ "java/lang/invoke/MethodHandle" ∧ yX12_isLetter.cls ≠ "java/lang/invoke/VarHandle" ∧ (parseMethodDescriptor yX12_isLetter.desc).map (fun d => d.parameters.length) = some 1 := by decide +kernel
theorem kl_RX12_250 : KLk RX12 250 12 4 := ⟨RX12, TX12, 97, rfl, by decide, Or.inl (kwm 1201 (by decide +kernel) (by decide +kernel))⟩
def E_X12_isHere_l35 (h : KH) (v0 : Nat) (v1 : Nat) : Int32 → Nat → List (Nat × Value) → List Value → KH → Prop := fun (e : Int32) pc ls st hh => pc = 61 ∧ ls = [(0, .ref v0), (1, .ref v1), (2, .int e)] ∧ st = [] ∧ h = hh
def B_X12_isHere_l35 (h : KH) (v0 : Nat) (v1 : Nat) : ((Int32) ⊕ (Int32)) → Nat → List (Nat × Value) → List Value → KH → Prop := Sum.elim (fun (s : Int32) pc ls st hh => pc = 35 ∧ ls = [(0, .ref v0), (1, .ref v1), (2, .int s)] ∧ st = [] ∧ hh = h) (E_X12_isHere_l35 h v0 v1)
def f_X12_isHere_l35 (h : KH) (v0 : Nat) (v1 : Nat) (s : Int32) : Option ((Int32) ⊕ (Int32)) :=
  if kkind v0 = 12 then if (kI h v0 3) ≤ s then
  some (.inr s)
  else
  if (kR h v0 0) < 999999 then if kkind (kR h v0 0) = 20 then if (s < 0 ∨ klen (kR h v0 0) ≤ (s).toNatClampNeg) then none else kb (f_X12_isLetter h (kI h (kR h v0 0) ((s).toNatClampNeg))) fun r6 =>
  if r6 = 0 then
  some (.inr s)
  else
  kl (s + (1 : Int32)) fun x10 =>
  some (.inl x10) else none else none else none
set_option maxHeartbeats 4000000 in
set_option maxRecDepth 100000 in
theorem s_X12_isHere_l35 {Z : Nat → (Nat → Nat) → State → Prop} (h : KH) (v0 : Nat) (v1 : Nat) (s : Int32) (t : (Int32) ⊕ (Int32)) (hn : (h).1 = 243) (H : f_X12_isHere_l35 h v0 v1 s = some t) : KX Z RX12 cX12_isHere 4 false 2 (B_X12_isHere_l35 h v0 v1 t) 35 [(0, .ref v0), (1, .ref v1), (2, .int s)] [] h := by
  unfold f_X12_isHere_l35 at H
  refine x_iload_n (q := 36) dX12_isHere_35 rfl rfl ?_
  refine x_aload_n (q := 37) dX12_isHere_36 rfl rfl ?_
  replace H := kif H; obtain ⟨g1, H⟩ := H
  refine x_getI (q := 40) dX12_isHere_37 rfl kl_RX12_239 (Or.inl rfl) (k243 g1 (by decide) hn) ?_
  replace H := kite H; rcases H with ⟨g2, H⟩ | ⟨g2, H⟩
  · refine x_icmp_ge_t dX12_isHere_40 (q := 61) (by decide) g2 ?_
    cases H
    refine x_sub (ls2 := [(0, .ref v0), (1, .ref v1), (2, .int s)]) [0, 1, 2] rfl ?_
    exact x_end (x_cfg rfl)
  · refine x_icmp_ge_f (q := 43) dX12_isHere_40 (t := 61) (by decide) rfl g2 ?_
    refine x_aload_n (q := 44) dX12_isHere_43 rfl rfl ?_
    replace H := kif H; obtain ⟨g3, H⟩ := H
    refine x_getR (q := 47) dX12_isHere_44 rfl kl_RX12_7 rfl (k243 g1 (by decide) hn) g3 ?_
    refine x_iload_n (q := 48) dX12_isHere_47 rfl rfl ?_
    replace H := kif H; obtain ⟨g4, H⟩ := H
    replace H := kifn H; obtain ⟨g5, H⟩ := H
    refine x_iald (q := 49) dX12_isHere_48 rfl (k243 g4 (by decide) hn) g5 ?_
    replace H := kbe H; obtain ⟨r6, c7, H⟩ := H
    have m8 := s_X12_isLetter (Z := Z) h (kI h (kR h v0 0) ((s).toNatClampNeg)) hn c7
    refine x_callS (q := 52) (as := [.int (kI h (kR h v0 0) ((s).toNatClampNeg))]) (rest := []) dX12_isHere_49 rfl kc_RX12_246 kh_X12_isLetter (by decide) (Nat.le_of_ble_eq_true rfl) m8 ?_
    replace H := kite H; rcases H with ⟨g9, H⟩ | ⟨g9, H⟩
    · refine x_if_eq_t dX12_isHere_52 (q := 61) (by decide) g9 ?_
      cases H
      refine x_sub (ls2 := [(0, .ref v0), (1, .ref v1), (2, .int s)]) [0, 1, 2] rfl ?_
      exact x_end (x_cfg rfl)
    · refine x_if_eq_f (q := 55) dX12_isHere_52 (t := 61) (by decide) rfl g9 ?_
      replace H := kle H; obtain ⟨x10, q11, H⟩ := H
      refine x_iinc (q := 58) (i := 2) (ls2 := [(2, .int x10), (0, .ref v0), (1, .ref v1)]) dX12_isHere_55 rfl rfl (by decide) (by rw [q11]; rfl) ?_
      refine x_goto dX12_isHere_58 (q := 35) (by decide) ?_
      cases H
      refine x_sub (ls2 := [(0, .ref v0), (1, .ref v1), (2, .int x10)]) [1, 2, 0] rfl ?_
      exact x_end (x_cfg rfl)
theorem sl_X12_isHere_l35 {Z : Nat → (Nat → Nat) → State → Prop} (h : KH) (v0 : Nat) (v1 : Nat) (n : Nat) (s : Int32) (r : Int32) (hn : (h).1 = 243) (H : kloop (f_X12_isHere_l35 h v0 v1) n s = some r) : KX Z RX12 cX12_isHere 4 false 2 (E_X12_isHere_l35 h v0 v1 r) 35 [(0, .ref v0), (1, .ref v1), (2, .int s)] [] h :=
  k_loop (ls := (fun (s : Int32) => ([(0, .ref v0), (1, .ref v1), (2, .int s)] : List (Nat × Value)))) (hp := (fun (s : Int32) => (h : KH))) (G := E_X12_isHere_l35 h v0 v1) (fun s t hn H => s_X12_isHere_l35 h v0 v1 s t hn H) n s r hn H
def E_X12_isHere_l76 (h : KH) (v0 : Nat) (v1 : Nat) : ((Unit) ⊕ (Int32 × KH)) → Nat → List (Nat × Value) → List Value → KH → Prop := Sum.elim (fun (e : Unit) pc ls st hh => pc = 107 ∧ ls = [] ∧ st = [] ∧ h = hh) (fun o => (KRz cX12_isHere o.1 o.2))
def B_X12_isHere_l76 (h : KH) (v0 : Nat) (v1 : Nat) : ((Int32) ⊕ ((Unit) ⊕ (Int32 × KH))) → Nat → List (Nat × Value) → List Value → KH → Prop := Sum.elim (fun (s : Int32) pc ls st hh => pc = 76 ∧ ls = [(0, .ref v0), (1, .ref v1), (3, .int s)] ∧ st = [] ∧ hh = h) (E_X12_isHere_l76 h v0 v1)
def f_X12_isHere_l76 (h : KH) (v0 : Nat) (v1 : Nat) (s : Int32) : Option ((Int32) ⊕ ((Unit) ⊕ (Int32 × KH))) :=
  if kkind v1 = 22 then if (Int32.ofNat (klen v1)) ≤ s then
  some (.inr (.inl ()))
  else
  if kkind v0 = 12 then if (kR h v0 0) < 999999 then if kkind (kR h v0 0) = 20 then if (((kI h v0 2) + s) < 0 ∨ klen (kR h v0 0) ≤ (((kI h v0 2) + s)).toNatClampNeg) then none else if (s < 0 ∨ klen v1 ≤ (s).toNatClampNeg) then none else if (kI h (kR h v0 0) ((((kI h v0 2) + s)).toNatClampNeg)) = (kI h v1 ((s).toNatClampNeg)) then
  kl (s + (1 : Int32)) fun x9 =>
  some (.inl x9)
  else
  kout2 (some ((0 : Int32), h)) else none else none else none else none
set_option maxHeartbeats 4000000 in
set_option maxRecDepth 100000 in
theorem s_X12_isHere_l76 {Z : Nat → (Nat → Nat) → State → Prop} (h : KH) (v0 : Nat) (v1 : Nat) (s : Int32) (t : (Int32) ⊕ ((Unit) ⊕ (Int32 × KH))) (hn : (h).1 = 243) (H : f_X12_isHere_l76 h v0 v1 s = some t) : KX Z RX12 cX12_isHere 4 false 2 (B_X12_isHere_l76 h v0 v1 t) 76 [(0, .ref v0), (1, .ref v1), (3, .int s)] [] h := by
  unfold f_X12_isHere_l76 at H
  refine x_iload_n (q := 77) dX12_isHere_76 rfl rfl ?_
  refine x_aload_n (q := 78) dX12_isHere_77 rfl rfl ?_
  replace H := kif H; obtain ⟨g1, H⟩ := H
  refine x_alen (q := 79) dX12_isHere_78 rfl (by decide) (k243 g1 (by decide) hn) ?_
  replace H := kite H; rcases H with ⟨g2, H⟩ | ⟨g2, H⟩
  · refine x_icmp_ge_t dX12_isHere_79 (q := 107) (by decide) g2 ?_
    cases H
    refine x_sub (ls2 := []) [] rfl ?_
    exact x_end (x_cfg rfl)
  · refine x_icmp_ge_f (q := 82) dX12_isHere_79 (t := 107) (by decide) rfl g2 ?_
    refine x_aload_n (q := 83) dX12_isHere_82 rfl rfl ?_
    replace H := kif H; obtain ⟨g3, H⟩ := H
    replace H := kif H; obtain ⟨g4, H⟩ := H
    refine x_getR (q := 86) dX12_isHere_83 rfl kl_RX12_7 rfl (k243 g3 (by decide) hn) g4 ?_
    refine x_aload_n (q := 87) dX12_isHere_86 rfl rfl ?_
    refine x_getI (q := 90) dX12_isHere_87 rfl kl_RX12_236 (Or.inl rfl) (k243 g3 (by decide) hn) ?_
    refine x_iload_n (q := 91) dX12_isHere_90 rfl rfl ?_
    refine x_iadd (q := 92) dX12_isHere_91 rfl ?_
    replace H := kif H; obtain ⟨g5, H⟩ := H
    replace H := kifn H; obtain ⟨g6, H⟩ := H
    refine x_iald (q := 93) dX12_isHere_92 rfl (k243 g5 (by decide) hn) g6 ?_
    refine x_aload_n (q := 94) dX12_isHere_93 rfl rfl ?_
    refine x_iload_n (q := 95) dX12_isHere_94 rfl rfl ?_
    replace H := kifn H; obtain ⟨g7, H⟩ := H
    refine x_cald (q := 96) dX12_isHere_95 rfl (k243 g1 (by decide) hn) g7 ?_
    replace H := kite H; rcases H with ⟨g8, H⟩ | ⟨g8, H⟩
    · refine x_icmp_eq_t dX12_isHere_96 (q := 101) (by decide) g8 ?_
      replace H := kle H; obtain ⟨x9, q10, H⟩ := H
      refine x_iinc (q := 104) (i := 3) (ls2 := [(3, .int x9), (0, .ref v0), (1, .ref v1)]) dX12_isHere_101 rfl rfl (by decide) (by rw [q10]; rfl) ?_
      refine x_goto dX12_isHere_104 (q := 76) (by decide) ?_
      cases H
      refine x_sub (ls2 := [(0, .ref v0), (1, .ref v1), (3, .int x9)]) [1, 2, 0] rfl ?_
      exact x_end (x_cfg rfl)
    · refine x_icmp_eq_f (q := 99) dX12_isHere_96 (t := 101) (by decide) rfl g8 ?_
      replace H := ko2e H; obtain ⟨o11, H, rfl⟩ := H
      refine x_iconst (q := 100) (v := (0 : Int32)) dX12_isHere_99 rfl (by decide) ?_
      cases H
      exact x_end ⟨(Or.inl rfl), dX12_isHere_100, rfl, rfl⟩
theorem sl_X12_isHere_l76 {Z : Nat → (Nat → Nat) → State → Prop} (h : KH) (v0 : Nat) (v1 : Nat) (n : Nat) (s : Int32) (r : (Unit) ⊕ (Int32 × KH)) (hn : (h).1 = 243) (H : kloop (f_X12_isHere_l76 h v0 v1) n s = some r) : KX Z RX12 cX12_isHere 4 false 2 (E_X12_isHere_l76 h v0 v1 r) 76 [(0, .ref v0), (1, .ref v1), (3, .int s)] [] h :=
  k_loop (ls := (fun (s : Int32) => ([(0, .ref v0), (1, .ref v1), (3, .int s)] : List (Nat × Value)))) (hp := (fun (s : Int32) => (h : KH))) (G := E_X12_isHere_l76 h v0 v1) (fun s t hn H => s_X12_isHere_l76 h v0 v1 s t hn H) n s r hn H
def f_X12_isHere_b61 (h : KH) (v0 : Nat) (v1 : Nat) (v2 : Int32) : Option (Int32 × KH) :=
  if kkind v0 = 12 then if kkind v1 = 22 then if (v2 - (kI h v0 2)) = (Int32.ofNat (klen v1)) then
  kb (kloop (f_X12_isHere_l76 h v0 v1) KF (0 : Int32)) fun e4 =>
  ksum e4 (fun x7 =>
  some ((1 : Int32), h)) (fun o8 => some o8)
  else
  some ((0 : Int32), h) else none else none
set_option maxHeartbeats 4000000 in
set_option maxRecDepth 100000 in
theorem s_X12_isHere_b61 {Z : Nat → (Nat → Nat) → State → Prop} (h : KH) (v0 : Nat) (v1 : Nat) (v2 : Int32) {t : Int32 × KH} (hn : h.1 = 243) (H : f_X12_isHere_b61 h v0 v1 v2 = some t) : KX Z RX12 cX12_isHere 4 false 2 (KRz cX12_isHere t.1 t.2) 61 [(0, .ref v0), (1, .ref v1), (2, .int v2)] [] h := by
  unfold f_X12_isHere_b61 at H
  refine x_iload_n (q := 62) dX12_isHere_61 rfl rfl ?_
  refine x_aload_n (q := 63) dX12_isHere_62 rfl rfl ?_
  replace H := kif H; obtain ⟨g1, H⟩ := H
  refine x_getI (q := 66) dX12_isHere_63 rfl kl_RX12_236 (Or.inl rfl) (k243 g1 (by decide) hn) ?_
  refine x_isub (q := 67) dX12_isHere_66 rfl ?_
  refine x_aload_n (q := 68) dX12_isHere_67 rfl rfl ?_
  replace H := kif H; obtain ⟨g2, H⟩ := H
  refine x_alen (q := 69) dX12_isHere_68 rfl (by decide) (k243 g2 (by decide) hn) ?_
  replace H := kite H; rcases H with ⟨g3, H⟩ | ⟨g3, H⟩
  · refine x_icmp_eq_t dX12_isHere_69 (q := 74) (by decide) g3 ?_
    refine x_iconst (q := 75) (v := (0 : Int32)) dX12_isHere_74 rfl (by decide) ?_
    refine x_istore_n (q := 76) (i := 3) (ls2 := [(3, .int (0 : Int32)), (0, .ref v0), (1, .ref v1), (2, .int v2)]) dX12_isHere_75 rfl rfl (by decide) rfl ?_
    refine x_sub (ls2 := [(0, .ref v0), (1, .ref v1), (3, .int (0 : Int32))]) [1, 2, 0] rfl ?_
    replace H := kbe H; obtain ⟨e4, c5, H⟩ := H
    refine x_app (sl_X12_isHere_l76 h v0 v1 KF (0 : Int32) e4 hn c5) fun pc2 ls2 st2 h2 hg m6 => ?_
    replace H := kse H; rcases H with ⟨x7, rfl, H⟩ | ⟨o8, rfl, H⟩
    · obtain ⟨rfl, rfl, rfl, rfl⟩ := hg
      refine x_iconst (q := 108) (v := (1 : Int32)) dX12_isHere_107 rfl (by decide) ?_
      cases H
      exact x_end ⟨(Or.inr rfl), dX12_isHere_108, rfl, rfl⟩
    · cases H
      exact x_end hg
  · refine x_icmp_eq_f (q := 72) dX12_isHere_69 (t := 74) (by decide) rfl g3 ?_
    refine x_iconst (q := 73) (v := (0 : Int32)) dX12_isHere_72 rfl (by decide) ?_
    cases H
    exact x_end ⟨(Or.inl rfl), dX12_isHere_73, rfl, rfl⟩
def f_X12_isHere (h : KH) (v0 : Nat) (v1 : Nat) : Option (Int32 × KH) :=
  if kkind v0 = 12 then if (kI h v0 5) = 0 then
  kb (f_X12_look0 h v0) fun r3 =>
  kb (f_X12_isLetter r3.2 r3.1) fun r7 =>
  if r7 = 0 then
  some ((0 : Int32), r3.2)
  else
  if (kI r3.2 v0 2) = (kI r3.2 v0 4) then
  some ((0 : Int32), r3.2)
  else
  kl (kI r3.2 v0 2) fun x12 =>
  kb (kloop (f_X12_isHere_l35 r3.2 v0 v1) KF x12) fun e14 =>
  f_X12_isHere_b61 r3.2 v0 v1 e14
  else
  some ((0 : Int32), h) else none
set_option maxHeartbeats 4000000 in
set_option maxRecDepth 100000 in
theorem s0_X12_isHere {Z : Nat → (Nat → Nat) → State → Prop} (h : KH) (v0 : Nat) (v1 : Nat) {t : Int32 × KH} (hn : h.1 = 243) (H : f_X12_isHere h v0 v1 = some t) : KX Z RX12 cX12_isHere 4 false 2 (KRz cX12_isHere t.1 t.2) 0 [(0, .ref v0), (1, .ref v1)] [] h := by
  unfold f_X12_isHere at H
  refine x_aload_n (q := 1) dX12_isHere_0 rfl rfl ?_
  replace H := kif H; obtain ⟨g1, H⟩ := H
  refine x_getI (q := 4) dX12_isHere_1 rfl kl_RX12_230 (Or.inl rfl) (k243 g1 (by decide) hn) ?_
  replace H := kite H; rcases H with ⟨g2, H⟩ | ⟨g2, H⟩
  · refine x_if_ne_f (q := 7) dX12_isHere_4 (t := 28) (by decide) rfl g2 ?_
    refine x_aload_n (q := 8) dX12_isHere_7 rfl rfl ?_
    replace H := kbe H; obtain ⟨r3, c4, H⟩ := H
    have m5 := s_X12_look0 (Z := Z) h v0 hn c4
    refine x_callV (q := 11) (as := []) (rest := []) dX12_isHere_8 rfl kc_RX12_242 kh_X12_look0 (by decide) (Nat.le_of_ble_eq_true rfl) m5 (ci := 12) (by exact ⟨rfl, by decide⟩) (k243 g1 (by decide) hn) ?_
    have n6 : (r3.2).1 = 243 := m5.1.full hn
    replace H := kbe H; obtain ⟨r7, c8, H⟩ := H
    have m9 := s_X12_isLetter (Z := Z) r3.2 r3.1 n6 c8
    refine x_callS (q := 14) (as := [.int r3.1]) (rest := []) dX12_isHere_11 rfl kc_RX12_246 kh_X12_isLetter (by decide) (Nat.le_of_ble_eq_true rfl) m9 ?_
    replace H := kite H; rcases H with ⟨g10, H⟩ | ⟨g10, H⟩
    · refine x_if_eq_t dX12_isHere_14 (q := 28) (by decide) g10 ?_
      refine x_iconst (q := 29) (v := (0 : Int32)) dX12_isHere_28 rfl (by decide) ?_
      cases H
      exact x_end ⟨(Or.inl rfl), dX12_isHere_29, rfl, rfl⟩
    · refine x_if_eq_f (q := 17) dX12_isHere_14 (t := 28) (by decide) rfl g10 ?_
      refine x_aload_n (q := 18) dX12_isHere_17 rfl rfl ?_
      refine x_getI (q := 21) dX12_isHere_18 rfl kl_RX12_236 (Or.inl rfl) (k243 g1 (by decide) n6) ?_
      refine x_aload_n (q := 22) dX12_isHere_21 rfl rfl ?_
      refine x_getI (q := 25) dX12_isHere_22 rfl kl_RX12_250 (Or.inl rfl) (k243 g1 (by decide) n6) ?_
      replace H := kite H; rcases H with ⟨g11, H⟩ | ⟨g11, H⟩
      · refine x_icmp_ne_f (q := 28) dX12_isHere_25 (t := 30) (by decide) rfl g11 ?_
        refine x_iconst (q := 29) (v := (0 : Int32)) dX12_isHere_28 rfl (by decide) ?_
        cases H
        exact x_end ⟨(Or.inl rfl), dX12_isHere_29, rfl, rfl⟩
      · refine x_icmp_ne_t dX12_isHere_25 (q := 30) (by decide) g11 ?_
        refine x_aload_n (q := 31) dX12_isHere_30 rfl rfl ?_
        refine x_getI (q := 34) dX12_isHere_31 rfl kl_RX12_236 (Or.inl rfl) (k243 g1 (by decide) n6) ?_
        replace H := kle H; obtain ⟨x12, q13, H⟩ := H
        refine x_nmI q13 ?_
        refine x_istore_n (q := 35) (i := 2) (ls2 := [(2, .int x12), (0, .ref v0), (1, .ref v1)]) dX12_isHere_34 rfl rfl (by decide) rfl ?_
        refine x_sub (ls2 := [(0, .ref v0), (1, .ref v1), (2, .int x12)]) [1, 2, 0] rfl ?_
        replace H := kbe H; obtain ⟨e14, c15, H⟩ := H
        refine x_app (sl_X12_isHere_l35 r3.2 v0 v1 KF x12 e14 n6 c15) fun pc2 ls2 st2 h2 hg m16 => ?_
        obtain ⟨rfl, rfl, rfl, rfl⟩ := hg
        refine x_sub (ls2 := [(0, .ref v0), (1, .ref v1), (2, .int e14)]) [0, 1, 2] rfl ?_
        exact s_X12_isHere_b61 r3.2 v0 v1 e14 n6 H
  · refine x_if_ne_t dX12_isHere_4 (q := 28) (by decide) g2 ?_
    refine x_iconst (q := 29) (v := (0 : Int32)) dX12_isHere_28 rfl (by decide) ?_
    cases H
    exact x_end ⟨(Or.inl rfl), dX12_isHere_29, rfl, rfl⟩
theorem s_X12_isHere {Z : Nat → (Nat → Nat) → State → Prop} (h : KH) (v0 : Nat) (v1 : Nat) {t : Int32 × KH} (hn : h.1 = 243) (H : f_X12_isHere h v0 v1 = some t) : KM Z yX12_isHere cX12_isHere 4 (some .boolean) 2 [.ref v0, .ref v1] h (some (.int t.1)) t.2 :=
  kx_z (own := RX12) (ini := false) (by decide +kernel) (by decide +kernel) rfl (Nat.le_of_ble_eq_true rfl) (s0_X12_isHere h v0 v1 hn H)
theorem dX12_takes_0 : decode cX12_takes 0 = .ok (.aload_n 0, 1) := by decide +kernel
theorem dX12_takes_1 : decode cX12_takes 1 = .ok (.aload_n 1, 1) := by decide +kernel
theorem dX12_takes_2 : decode cX12_takes 2 = .ok (.invokevirtual 253, 3) := by decide +kernel
theorem dX12_takes_5 : decode cX12_takes 5 = .ok (.ifCond .ne 5, 3) := by decide +kernel
theorem dX12_takes_8 : decode cX12_takes 8 = .ok (.iconst 0, 1) := by decide +kernel
theorem dX12_takes_9 : decode cX12_takes 9 = .ok (.ireturn, 1) := by decide +kernel
theorem dX12_takes_10 : decode cX12_takes 10 = .ok (.aload_n 0, 1) := by decide +kernel
theorem dX12_takes_11 : decode cX12_takes 11 = .ok (.dup, 1) := by decide +kernel
theorem dX12_takes_12 : decode cX12_takes 12 = .ok (.getfield 236, 3) := by decide +kernel
theorem dX12_takes_15 : decode cX12_takes 15 = .ok (.aload_n 1, 1) := by decide +kernel
theorem dX12_takes_16 : decode cX12_takes 16 = .ok (.arraylength, 1) := by decide +kernel
theorem dX12_takes_17 : decode cX12_takes 17 = .ok (.iadd, 1) := by decide +kernel
theorem dX12_takes_18 : decode cX12_takes 18 = .ok (.putfield 236, 3) := by decide +kernel
theorem dX12_takes_21 : decode cX12_takes 21 = .ok (.aload_n 0, 1) := by decide +kernel
theorem dX12_takes_22 : decode cX12_takes 22 = .ok (.aload_n 0, 1) := by decide +kernel
theorem dX12_takes_23 : decode cX12_takes 23 = .ok (.getfield 236, 3) := by decide +kernel
theorem dX12_takes_26 : decode cX12_takes 26 = .ok (.putfield 250, 3) := by decide +kernel
theorem dX12_takes_29 : decode cX12_takes 29 = .ok (.iconst 1, 1) := by decide +kernel
theorem dX12_takes_30 : decode cX12_takes 30 = .ok (.ireturn, 1) := by decide +kernel
theorem kc_RX12_253 : Cond.methodLink RX12 253 yX12_isHere ∈ ktG ∧ (Cond.instanceMethod yX12_isHere ∈ ktG ∧ Cond.selects yX12_isHere.cls yX12_isHere yX12_isHere ∈ ktG) ∧ Cond.initialized yX12_isHere.cls ∈ ktG ∧ Cond.code yX12_isHere cX12_isHere 4 (some .boolean) ∈ ktG := ⟨(kwm 1518 (by decide +kernel) (by decide +kernel)), ⟨(kwm 1520 (by decide +kernel) (by decide +kernel)), (kwm 40 (by decide +kernel) (by decide +kernel))⟩, (kwm 139 (by decide +kernel) (by decide +kernel)), kwm 1521 (by decide +kernel) (by decide +kernel)⟩
theorem kh_X12_isHere : yX12_isHere.cls ≠ "java/lang/invoke/MethodHandle" ∧ yX12_isHere.cls ≠ "java/lang/invoke/VarHandle" ∧ (parseMethodDescriptor yX12_isHere.desc).map (fun d => d.parameters.length) = some 1 := by decide +kernel
def f_X12_takes (h : KH) (v0 : Nat) (v1 : Nat) : Option (Int32 × KH) :=
  if kkind v0 = 12 then kb (f_X12_isHere h v0 v1) fun r2 =>
  if r2.1 = 0 then
  some ((0 : Int32), r2.2)
  else
  if kkind v1 = 22 then kl (ksI r2.2 v0 2 ((kI r2.2 v0 2) + (Int32.ofNat (klen v1)))) fun h8 =>
  kl (ksI h8 v0 4 (kI h8 v0 2)) fun h11 =>
  some ((1 : Int32), h11) else none else none
set_option maxHeartbeats 4000000 in
set_option maxRecDepth 100000 in
theorem s0_X12_takes {Z : Nat → (Nat → Nat) → State → Prop} (h : KH) (v0 : Nat) (v1 : Nat) {t : Int32 × KH} (hn : h.1 = 243) (H : f_X12_takes h v0 v1 = some t) : KX Z RX12 cX12_takes 2 false 3 (KRz cX12_takes t.1 t.2) 0 [(0, .ref v0), (1, .ref v1)] [] h := by
  unfold f_X12_takes at H
  refine x_aload_n (q := 1) dX12_takes_0 rfl rfl ?_
  refine x_aload_n (q := 2) dX12_takes_1 rfl rfl ?_
  replace H := kif H; obtain ⟨g1, H⟩ := H
  replace H := kbe H; obtain ⟨r2, c3, H⟩ := H
  have m4 := s_X12_isHere (Z := Z) h v0 v1 hn c3
  refine x_callV (q := 5) (as := [.ref v1]) (rest := []) dX12_takes_2 rfl kc_RX12_253 kh_X12_isHere (by decide) (Nat.le_of_ble_eq_true rfl) m4 (ci := 12) (by exact ⟨rfl, by decide⟩) (k243 g1 (by decide) hn) ?_
  have n5 : (r2.2).1 = 243 := m4.1.full hn
  replace H := kite H; rcases H with ⟨g6, H⟩ | ⟨g6, H⟩
  · refine x_if_ne_f (q := 8) dX12_takes_5 (t := 10) (by decide) rfl g6 ?_
    refine x_iconst (q := 9) (v := (0 : Int32)) dX12_takes_8 rfl (by decide) ?_
    cases H
    exact x_end ⟨(Or.inl rfl), dX12_takes_9, rfl, rfl⟩
  · refine x_if_ne_t dX12_takes_5 (q := 10) (by decide) g6 ?_
    refine x_aload_n (q := 11) dX12_takes_10 rfl rfl ?_
    refine x_dup (q := 12) dX12_takes_11 rfl rfl ?_
    refine x_getI (q := 15) dX12_takes_12 rfl kl_RX12_236 (Or.inl rfl) (k243 g1 (by decide) n5) ?_
    refine x_aload_n (q := 16) dX12_takes_15 rfl rfl ?_
    replace H := kif H; obtain ⟨g7, H⟩ := H
    refine x_alen (q := 17) dX12_takes_16 rfl (by decide) (k243 g7 (by decide) n5) ?_
    refine x_iadd (q := 18) dX12_takes_17 rfl ?_
    replace H := kle H; obtain ⟨h8, q9, H⟩ := H
    refine x_putI (q := 21) dX12_takes_18 rfl kl_RX12_236 (Or.inl rfl) rfl (k243 g1 (by decide) n5) ?_
    refine x_nmH q9 ?_
    have n10 : h8.1 = 243 := by rw [q9]; exact n5
    refine x_aload_n (q := 22) dX12_takes_21 rfl rfl ?_
    refine x_aload_n (q := 23) dX12_takes_22 rfl rfl ?_
    refine x_getI (q := 26) dX12_takes_23 rfl kl_RX12_236 (Or.inl rfl) (k243 g1 (by decide) n10) ?_
    replace H := kle H; obtain ⟨h11, q12, H⟩ := H
    refine x_putI (q := 29) dX12_takes_26 rfl kl_RX12_250 (Or.inl rfl) rfl (k243 g1 (by decide) n10) ?_
    refine x_nmH q12 ?_
    have n13 : h11.1 = 243 := by rw [q12]; exact n10
    refine x_iconst (q := 30) (v := (1 : Int32)) dX12_takes_29 rfl (by decide) ?_
    cases H
    exact x_end ⟨(Or.inr rfl), dX12_takes_30, rfl, rfl⟩
theorem s_X12_takes {Z : Nat → (Nat → Nat) → State → Prop} (h : KH) (v0 : Nat) (v1 : Nat) {t : Int32 × KH} (hn : h.1 = 243) (H : f_X12_takes h v0 v1 = some t) : KM Z yX12_takes cX12_takes 2 (some .boolean) 3 [.ref v0, .ref v1] h (some (.int t.1)) t.2 :=
  kx_z (own := RX12) (ini := false) (by decide +kernel) (by decide +kernel) rfl (Nat.le_of_ble_eq_true rfl) (s0_X12_takes h v0 v1 hn H)
theorem dX12_asks_0 : decode cX12_asks 0 = .ok (.aload_n 0, 1) := by decide +kernel
theorem dX12_asks_1 : decode cX12_asks 1 = .ok (.getfield 230, 3) := by decide +kernel
theorem dX12_asks_4 : decode cX12_asks 4 = .ok (.ifCond .ne 20, 3) := by decide +kernel
theorem dX12_asks_7 : decode cX12_asks 7 = .ok (.aload_n 0, 1) := by decide +kernel
theorem dX12_asks_8 : decode cX12_asks 8 = .ok (.aload_n 1, 1) := by decide +kernel
theorem dX12_asks_9 : decode cX12_asks 9 = .ok (.invokevirtual 257, 3) := by decide +kernel
theorem dX12_asks_12 : decode cX12_asks 12 = .ok (.ifCond .ne 12, 3) := by decide +kernel
theorem dX12_asks_15 : decode cX12_asks 15 = .ok (.aload_n 0, 1) := by decide +kernel
theorem dX12_asks_16 : decode cX12_asks 16 = .ok (.iconst 1, 1) := by decide +kernel
theorem dX12_asks_17 : decode cX12_asks 17 = .ok (.aload_n 0, 1) := by decide +kernel
theorem dX12_asks_18 : decode cX12_asks 18 = .ok (.getfield 236, 3) := by decide +kernel
theorem dX12_asks_21 : decode cX12_asks 21 = .ok (.invokevirtual 260, 3) := by decide +kernel
theorem dX12_asks_24 : decode cX12_asks 24 = .ok (.return_, 1) := by decide +kernel
theorem kc_RX12_257 : Cond.methodLink RX12 257 yX12_takes ∈ ktG ∧ (Cond.instanceMethod yX12_takes ∈ ktG ∧ Cond.selects yX12_takes.cls yX12_takes yX12_takes ∈ ktG) ∧ Cond.initialized yX12_takes.cls ∈ ktG ∧ Cond.code yX12_takes cX12_takes 2 (some .boolean) ∈ ktG := ⟨(kwm 1514 (by decide +kernel) (by decide +kernel)), ⟨(kwm 1516 (by decide +kernel) (by decide +kernel)), (kwm 39 (by decide +kernel) (by decide +kernel))⟩, (kwm 139 (by decide +kernel) (by decide +kernel)), kwm 1517 (by decide +kernel) (by decide +kernel)⟩
theorem kh_X12_takes : yX12_takes.cls ≠ "java/lang/invoke/MethodHandle" ∧ yX12_takes.cls ≠ "java/lang/invoke/VarHandle" ∧ (parseMethodDescriptor yX12_takes.desc).map (fun d => d.parameters.length) = some 1 := by decide +kernel
theorem kc_RX12_260 : Cond.methodLink RX12 260 yX12_fail ∈ ktG ∧ (Cond.instanceMethod yX12_fail ∈ ktG ∧ Cond.selects yX12_fail.cls yX12_fail yX12_fail ∈ ktG) ∧ Cond.initialized yX12_fail.cls ∈ ktG ∧ Cond.code yX12_fail cX12_fail 3 none ∈ ktG := ⟨(kwm 1510 (by decide +kernel) (by decide +kernel)), ⟨(kwm 1512 (by decide +kernel) (by decide +kernel)), (kwm 38 (by decide +kernel) (by decide +kernel))⟩, (kwm 139 (by decide +kernel) (by decide +kernel)), kwm 1513 (by decide +kernel) (by decide +kernel)⟩
theorem kh_X12_fail : yX12_fail.cls ≠ "java/lang/invoke/MethodHandle" ∧ yX12_fail.cls ≠ "java/lang/invoke/VarHandle" ∧ (parseMethodDescriptor yX12_fail.desc).map (fun d => d.parameters.length) = some 2 := by decide +kernel
def f_X12_asks (h : KH) (v0 : Nat) (v1 : Nat) : Option (KH) :=
  if kkind v0 = 12 then if (kI h v0 5) = 0 then
  kb (f_X12_takes h v0 v1) fun r3 =>
  if r3.1 = 0 then
  kb (f_X12_fail r3.2 v0 (1 : Int32) (kI r3.2 v0 2)) fun r8 =>
  some r8
  else
  some r3.2
  else
  some h else none
set_option maxHeartbeats 4000000 in
set_option maxRecDepth 100000 in
theorem s0_X12_asks {Z : Nat → (Nat → Nat) → State → Prop} (h : KH) (v0 : Nat) (v1 : Nat) {t : KH} (hn : h.1 = 243) (H : f_X12_asks h v0 v1 = some t) : KX Z RX12 cX12_asks 2 false 4 (KRv cX12_asks t) 0 [(0, .ref v0), (1, .ref v1)] [] h := by
  unfold f_X12_asks at H
  refine x_aload_n (q := 1) dX12_asks_0 rfl rfl ?_
  replace H := kif H; obtain ⟨g1, H⟩ := H
  refine x_getI (q := 4) dX12_asks_1 rfl kl_RX12_230 (Or.inl rfl) (k243 g1 (by decide) hn) ?_
  replace H := kite H; rcases H with ⟨g2, H⟩ | ⟨g2, H⟩
  · refine x_if_ne_f (q := 7) dX12_asks_4 (t := 24) (by decide) rfl g2 ?_
    refine x_aload_n (q := 8) dX12_asks_7 rfl rfl ?_
    refine x_aload_n (q := 9) dX12_asks_8 rfl rfl ?_
    replace H := kbe H; obtain ⟨r3, c4, H⟩ := H
    have m5 := s_X12_takes (Z := Z) h v0 v1 hn c4
    refine x_callV (q := 12) (as := [.ref v1]) (rest := []) dX12_asks_9 rfl kc_RX12_257 kh_X12_takes (by decide) (Nat.le_of_ble_eq_true rfl) m5 (ci := 12) (by exact ⟨rfl, by decide⟩) (k243 g1 (by decide) hn) ?_
    have n6 : (r3.2).1 = 243 := m5.1.full hn
    replace H := kite H; rcases H with ⟨g7, H⟩ | ⟨g7, H⟩
    · refine x_if_ne_f (q := 15) dX12_asks_12 (t := 24) (by decide) rfl g7 ?_
      refine x_aload_n (q := 16) dX12_asks_15 rfl rfl ?_
      refine x_iconst (q := 17) (v := (1 : Int32)) dX12_asks_16 rfl (by decide) ?_
      refine x_aload_n (q := 18) dX12_asks_17 rfl rfl ?_
      refine x_getI (q := 21) dX12_asks_18 rfl kl_RX12_236 (Or.inl rfl) (k243 g1 (by decide) n6) ?_
      replace H := kbe H; obtain ⟨r8, c9, H⟩ := H
      have m10 := s_X12_fail (Z := Z) r3.2 v0 (1 : Int32) (kI r3.2 v0 2) n6 c9
      refine x_callV (q := 24) (as := [.int (1 : Int32), .int (kI r3.2 v0 2)]) (rest := []) dX12_asks_21 rfl kc_RX12_260 kh_X12_fail (by decide) (Nat.le_of_ble_eq_true rfl) m10 (ci := 12) (by exact ⟨rfl, by decide⟩) (k243 g1 (by decide) n6) ?_
      have n11 : (r8).1 = 243 := m10.1.full n6
      cases H
      exact x_end ⟨dX12_asks_24, rfl, rfl⟩
    · refine x_if_ne_t dX12_asks_12 (q := 24) (by decide) g7 ?_
      cases H
      exact x_end ⟨dX12_asks_24, rfl, rfl⟩
  · refine x_if_ne_t dX12_asks_4 (q := 24) (by decide) g2 ?_
    cases H
    exact x_end ⟨dX12_asks_24, rfl, rfl⟩
theorem s_X12_asks {Z : Nat → (Nat → Nat) → State → Prop} (h : KH) (v0 : Nat) (v1 : Nat) {t : KH} (hn : h.1 = 243) (H : f_X12_asks h v0 v1 = some t) : KM Z yX12_asks cX12_asks 2 none 4 [.ref v0, .ref v1] h none t :=
  kx_v (own := RX12) (ini := false) (by decide +kernel) (by decide +kernel) rfl (Nat.le_of_ble_eq_true rfl) (s0_X12_asks h v0 v1 hn H)
