-- methods as functions, and that the machine does as they say (by wip/whole/gen_all.py): X12_undo, X12_isRefused, X12_hear, X12_look, X12_isJudged, X12_judge, X12_seed, X12_drawOf, X12_drawnKind, X12_likelier, X12_caseGoes, X12_chance, X12_qOf
theorem dX12_undo_0 : decode cX12_undo 0 = .ok (.aload_n 0, 1) := by decide +kernel
theorem dX12_undo_1 : decode cX12_undo 1 = .ok (.getfield 358, 3) := by decide +kernel
theorem dX12_undo_4 : decode cX12_undo 4 = .ok (.ifCond .ne 15, 3) := by decide +kernel
theorem dX12_undo_7 : decode cX12_undo 7 = .ok (.aload_n 0, 1) := by decide +kernel
theorem dX12_undo_8 : decode cX12_undo 8 = .ok (.getfield 17, 3) := by decide +kernel
theorem dX12_undo_11 : decode cX12_undo 11 = .ok (.iconst 4, 1) := by decide +kernel
theorem dX12_undo_12 : decode cX12_undo 12 = .ok (.dup2, 1) := by decide +kernel
theorem dX12_undo_13 : decode cX12_undo 13 = .ok (.iaload, 1) := by decide +kernel
theorem dX12_undo_14 : decode cX12_undo 14 = .ok (.iconst 1, 1) := by decide +kernel
theorem dX12_undo_15 : decode cX12_undo 15 = .ok (.iadd, 1) := by decide +kernel
theorem dX12_undo_16 : decode cX12_undo 16 = .ok (.iastore, 1) := by decide +kernel
theorem dX12_undo_17 : decode cX12_undo 17 = .ok (.iconst 0, 1) := by decide +kernel
theorem dX12_undo_18 : decode cX12_undo 18 = .ok (.ireturn, 1) := by decide +kernel
theorem dX12_undo_19 : decode cX12_undo 19 = .ok (.iconst 0, 1) := by decide +kernel
theorem dX12_undo_20 : decode cX12_undo 20 = .ok (.istore_n 1, 1) := by decide +kernel
theorem dX12_undo_21 : decode cX12_undo 21 = .ok (.iload_n 1, 1) := by decide +kernel
theorem dX12_undo_22 : decode cX12_undo 22 = .ok (.sipush 185, 3) := by decide +kernel
theorem dX12_undo_25 : decode cX12_undo 25 = .ok (.if_icmp .ge 30, 3) := by decide +kernel
theorem dX12_undo_28 : decode cX12_undo 28 = .ok (.aload_n 0, 1) := by decide +kernel
theorem dX12_undo_29 : decode cX12_undo 29 = .ok (.getfield 115, 3) := by decide +kernel
theorem dX12_undo_32 : decode cX12_undo 32 = .ok (.iload_n 1, 1) := by decide +kernel
theorem dX12_undo_33 : decode cX12_undo 33 = .ok (.aload_n 0, 1) := by decide +kernel
theorem dX12_undo_34 : decode cX12_undo 34 = .ok (.getfield 145, 3) := by decide +kernel
theorem dX12_undo_37 : decode cX12_undo 37 = .ok (.sipush 185, 3) := by decide +kernel
theorem dX12_undo_40 : decode cX12_undo 40 = .ok (.aload_n 0, 1) := by decide +kernel
theorem dX12_undo_41 : decode cX12_undo 41 = .ok (.getfield 514, 3) := by decide +kernel
theorem dX12_undo_44 : decode cX12_undo 44 = .ok (.imul, 1) := by decide +kernel
theorem dX12_undo_45 : decode cX12_undo 45 = .ok (.iload_n 1, 1) := by decide +kernel
theorem dX12_undo_46 : decode cX12_undo 46 = .ok (.iadd, 1) := by decide +kernel
theorem dX12_undo_47 : decode cX12_undo 47 = .ok (.iaload, 1) := by decide +kernel
theorem dX12_undo_48 : decode cX12_undo 48 = .ok (.iastore, 1) := by decide +kernel
theorem dX12_undo_49 : decode cX12_undo 49 = .ok (.iinc 1 1, 3) := by decide +kernel
theorem dX12_undo_52 : decode cX12_undo 52 = .ok (.goto (-31), 3) := by decide +kernel
theorem dX12_undo_55 : decode cX12_undo 55 = .ok (.aload_n 0, 1) := by decide +kernel
theorem dX12_undo_56 : decode cX12_undo 56 = .ok (.aload_n 0, 1) := by decide +kernel
theorem dX12_undo_57 : decode cX12_undo 57 = .ok (.getfield 514, 3) := by decide +kernel
theorem dX12_undo_60 : decode cX12_undo 60 = .ok (.bipush 20, 2) := by decide +kernel
theorem dX12_undo_62 : decode cX12_undo 62 = .ok (.iadd, 1) := by decide +kernel
theorem dX12_undo_63 : decode cX12_undo 63 = .ok (.iconst 1, 1) := by decide +kernel
theorem dX12_undo_64 : decode cX12_undo 64 = .ok (.isub, 1) := by decide +kernel
theorem dX12_undo_65 : decode cX12_undo 65 = .ok (.bipush 20, 2) := by decide +kernel
theorem dX12_undo_67 : decode cX12_undo 67 = .ok (.irem, 1) := by decide +kernel
theorem dX12_undo_68 : decode cX12_undo 68 = .ok (.putfield 514, 3) := by decide +kernel
theorem dX12_undo_71 : decode cX12_undo 71 = .ok (.aload_n 0, 1) := by decide +kernel
theorem dX12_undo_72 : decode cX12_undo 72 = .ok (.dup, 1) := by decide +kernel
theorem dX12_undo_73 : decode cX12_undo 73 = .ok (.getfield 358, 3) := by decide +kernel
theorem dX12_undo_76 : decode cX12_undo 76 = .ok (.iconst 1, 1) := by decide +kernel
theorem dX12_undo_77 : decode cX12_undo 77 = .ok (.isub, 1) := by decide +kernel
theorem dX12_undo_78 : decode cX12_undo 78 = .ok (.putfield 358, 3) := by decide +kernel
theorem dX12_undo_81 : decode cX12_undo 81 = .ok (.iconst 1, 1) := by decide +kernel
theorem dX12_undo_82 : decode cX12_undo 82 = .ok (.ireturn, 1) := by decide +kernel
def E_X12_undo_l21 (v0 : Nat) : KH → Nat → List (Nat × Value) → List Value → KH → Prop := fun (e : KH) pc ls st hh => pc = 55 ∧ ls = [(0, .ref v0)] ∧ st = [] ∧ e = hh
def B_X12_undo_l21 (v0 : Nat) : ((Int32 × KH) ⊕ (KH)) → Nat → List (Nat × Value) → List Value → KH → Prop := Sum.elim (fun (s : Int32 × KH) pc ls st hh => pc = 21 ∧ ls = [(0, .ref v0), (1, .int s.1)] ∧ st = [] ∧ hh = s.2) (E_X12_undo_l21 v0)
def f_X12_undo_l21 (v0 : Nat) (s : Int32 × KH) : Option ((Int32 × KH) ⊕ (KH)) :=
  if (185 : Int32) ≤ s.1 then
  some (.inr s.2)
  else
  if kkind v0 = 12 then if (kR s.2 v0 45) < 999999 then if (kR s.2 v0 60) < 999999 then if kkind (kR s.2 v0 60) = 20 then if ((((185 : Int32) * (kI s.2 v0 62)) + s.1) < 0 ∨ klen (kR s.2 v0 60) ≤ ((((185 : Int32) * (kI s.2 v0 62)) + s.1)).toNatClampNeg) then none else if kkind (kR s.2 v0 45) = 20 then if (s.1 < 0 ∨ klen (kR s.2 v0 45) ≤ (s.1).toNatClampNeg) then none else kl (ksI s.2 (kR s.2 v0 45) ((s.1).toNatClampNeg) (kI s.2 (kR s.2 v0 60) (((((185 : Int32) * (kI s.2 v0 62)) + s.1)).toNatClampNeg))) fun h9 =>
  kl (s.1 + (1 : Int32)) fun x12 =>
  some (.inl (x12, h9)) else none else none else none else none else none
set_option maxHeartbeats 4000000 in
set_option maxRecDepth 100000 in
theorem s_X12_undo_l21 {Z : Nat → (Nat → Nat) → State → Prop} (v0 : Nat) (s : Int32 × KH) (t : (Int32 × KH) ⊕ (KH)) (hn : (s.2).1 = 243) (H : f_X12_undo_l21 v0 s = some t) : KX Z RX12 cX12_undo 2 false 1 (B_X12_undo_l21 v0 t) 21 [(0, .ref v0), (1, .int s.1)] [] s.2 := by
  unfold f_X12_undo_l21 at H
  refine x_iload_n (q := 22) dX12_undo_21 rfl rfl ?_
  refine x_sipush (q := 25) (v := (185 : Int32)) dX12_undo_22 rfl (by decide) ?_
  replace H := kite H; rcases H with ⟨g1, H⟩ | ⟨g1, H⟩
  · refine x_icmp_ge_t dX12_undo_25 (q := 55) (by decide) g1 ?_
    cases H
    refine x_sub (ls2 := [(0, .ref v0)]) [0] rfl ?_
    exact x_end (x_cfg rfl)
  · refine x_icmp_ge_f (q := 28) dX12_undo_25 (t := 55) (by decide) rfl g1 ?_
    refine x_aload_n (q := 29) dX12_undo_28 rfl rfl ?_
    replace H := kif H; obtain ⟨g2, H⟩ := H
    replace H := kif H; obtain ⟨g3, H⟩ := H
    refine x_getR (q := 32) dX12_undo_29 rfl kl_RX12_115 rfl (k243 g2 (by decide) hn) g3 ?_
    refine x_iload_n (q := 33) dX12_undo_32 rfl rfl ?_
    refine x_aload_n (q := 34) dX12_undo_33 rfl rfl ?_
    replace H := kif H; obtain ⟨g4, H⟩ := H
    refine x_getR (q := 37) dX12_undo_34 rfl kl_RX12_145 rfl (k243 g2 (by decide) hn) g4 ?_
    refine x_sipush (q := 40) (v := (185 : Int32)) dX12_undo_37 rfl (by decide) ?_
    refine x_aload_n (q := 41) dX12_undo_40 rfl rfl ?_
    refine x_getI (q := 44) dX12_undo_41 rfl kl_RX12_514 (Or.inl rfl) (k243 g2 (by decide) hn) ?_
    refine x_imul (q := 45) dX12_undo_44 rfl ?_
    refine x_iload_n (q := 46) dX12_undo_45 rfl rfl ?_
    refine x_iadd (q := 47) dX12_undo_46 rfl ?_
    replace H := kif H; obtain ⟨g5, H⟩ := H
    replace H := kifn H; obtain ⟨g6, H⟩ := H
    refine x_iald (q := 48) dX12_undo_47 rfl (k243 g5 (by decide) hn) g6 ?_
    replace H := kif H; obtain ⟨g7, H⟩ := H
    replace H := kifn H; obtain ⟨g8, H⟩ := H
    replace H := kle H; obtain ⟨h9, q10, H⟩ := H
    refine x_iast (q := 49) dX12_undo_48 rfl (k243 g7 (by decide) hn) g8 ?_
    refine x_nmH q10 ?_
    have n11 : h9.1 = 243 := by rw [q10]; exact hn
    replace H := kle H; obtain ⟨x12, q13, H⟩ := H
    refine x_iinc (q := 52) (i := 1) (ls2 := [(1, .int x12), (0, .ref v0)]) dX12_undo_49 rfl rfl (by decide) (by rw [q13]; rfl) ?_
    refine x_goto dX12_undo_52 (q := 21) (by decide) ?_
    cases H
    refine x_sub (ls2 := [(0, .ref v0), (1, .int x12)]) [1, 0] rfl ?_
    exact x_end (x_cfg rfl)
theorem sl_X12_undo_l21 {Z : Nat → (Nat → Nat) → State → Prop} (v0 : Nat) (n : Nat) (s : Int32 × KH) (r : KH) (hn : (s.2).1 = 243) (H : kloop (f_X12_undo_l21 v0) n s = some r) : KX Z RX12 cX12_undo 2 false 1 (E_X12_undo_l21 v0 r) 21 [(0, .ref v0), (1, .int s.1)] [] s.2 :=
  k_loop (ls := (fun (s : Int32 × KH) => ([(0, .ref v0), (1, .int s.1)] : List (Nat × Value)))) (hp := (fun (s : Int32 × KH) => (s.2 : KH))) (G := E_X12_undo_l21 v0) (fun s t hn H => s_X12_undo_l21 v0 s t hn H) n s r hn H
def f_X12_undo (h : KH) (v0 : Nat) : Option (Int32 × KH) :=
  if kkind v0 = 12 then if (kI h v0 61) = 0 then
  if (kR h v0 9) < 999999 then if kkind (kR h v0 9) = 20 then if klen (kR h v0 9) ≤ 4 then none else kl (ksI h (kR h v0 9) 4 ((kI h (kR h v0 9) 4) + (1 : Int32))) fun h15 =>
  some ((0 : Int32), h15) else none else none
  else
  kb (kloop (f_X12_undo_l21 v0) KF ((0 : Int32), h)) fun e3 =>
  kl (ksI e3 v0 62 ((((kI e3 v0 62) + (20 : Int32)) - (1 : Int32)) - (((kI e3 v0 62) + (20 : Int32)) - (1 : Int32)) / (20 : Int32) * (20 : Int32))) fun h6 =>
  kl (ksI h6 v0 61 ((kI h6 v0 61) - (1 : Int32))) fun h9 =>
  some ((1 : Int32), h9) else none
set_option maxHeartbeats 4000000 in
set_option maxRecDepth 100000 in
theorem s0_X12_undo {Z : Nat → (Nat → Nat) → State → Prop} (h : KH) (v0 : Nat) {t : Int32 × KH} (hn : h.1 = 243) (H : f_X12_undo h v0 = some t) : KX Z RX12 cX12_undo 2 false 1 (KRz cX12_undo t.1 t.2) 0 [(0, .ref v0)] [] h := by
  unfold f_X12_undo at H
  refine x_aload_n (q := 1) dX12_undo_0 rfl rfl ?_
  replace H := kif H; obtain ⟨g1, H⟩ := H
  refine x_getI (q := 4) dX12_undo_1 rfl kl_RX12_358 (Or.inl rfl) (k243 g1 (by decide) hn) ?_
  replace H := kite H; rcases H with ⟨g2, H⟩ | ⟨g2, H⟩
  · refine x_if_ne_f (q := 7) dX12_undo_4 (t := 19) (by decide) rfl g2 ?_
    refine x_aload_n (q := 8) dX12_undo_7 rfl rfl ?_
    replace H := kif H; obtain ⟨g12, H⟩ := H
    refine x_getR (q := 11) dX12_undo_8 rfl kl_RX12_17 rfl (k243 g1 (by decide) hn) g12 ?_
    refine x_iconst (q := 12) (v := (4 : Int32)) dX12_undo_11 rfl (by decide) ?_
    refine x_dup2 (q := 13) dX12_undo_12 rfl ⟨rfl, rfl⟩ ?_
    replace H := kif H; obtain ⟨g13, H⟩ := H
    replace H := kifn H; obtain ⟨g14, H⟩ := H
    refine x_iald (q := 14) dX12_undo_13 rfl (k243 g13 (by decide) hn) (fun z => z.elim (by decide) g14) ?_
    refine x_iconst (q := 15) (v := (1 : Int32)) dX12_undo_14 rfl (by decide) ?_
    refine x_iadd (q := 16) dX12_undo_15 rfl ?_
    replace H := kle H; obtain ⟨h15, q16, H⟩ := H
    refine x_iast (q := 17) dX12_undo_16 rfl (k243 g13 (by decide) hn) (fun z => z.elim (by decide) g14) ?_
    refine x_nmH q16 ?_
    have n17 : h15.1 = 243 := by rw [q16]; exact hn
    refine x_iconst (q := 18) (v := (0 : Int32)) dX12_undo_17 rfl (by decide) ?_
    cases H
    exact x_end ⟨(Or.inl rfl), dX12_undo_18, rfl, rfl⟩
  · refine x_if_ne_t dX12_undo_4 (q := 19) (by decide) g2 ?_
    refine x_iconst (q := 20) (v := (0 : Int32)) dX12_undo_19 rfl (by decide) ?_
    refine x_istore_n (q := 21) (i := 1) (ls2 := [(1, .int (0 : Int32)), (0, .ref v0)]) dX12_undo_20 rfl rfl (by decide) rfl ?_
    refine x_sub (ls2 := [(0, .ref v0), (1, .int (0 : Int32))]) [1, 0] rfl ?_
    replace H := kbe H; obtain ⟨e3, c4, H⟩ := H
    refine x_app (sl_X12_undo_l21 v0 KF ((0 : Int32), h) e3 hn c4) fun pc2 ls2 st2 h2 hg m5 => ?_
    obtain ⟨rfl, rfl, rfl, rfl⟩ := hg
    refine x_aload_n (q := 56) dX12_undo_55 rfl rfl ?_
    refine x_aload_n (q := 57) dX12_undo_56 rfl rfl ?_
    refine x_getI (q := 60) dX12_undo_57 rfl kl_RX12_514 (Or.inl rfl) (k243 g1 (by decide) (m5.full hn)) ?_
    refine x_bipush (q := 62) (v := (20 : Int32)) dX12_undo_60 rfl (by decide) ?_
    refine x_iadd (q := 63) dX12_undo_62 rfl ?_
    refine x_iconst (q := 64) (v := (1 : Int32)) dX12_undo_63 rfl (by decide) ?_
    refine x_isub (q := 65) dX12_undo_64 rfl ?_
    refine x_bipush (q := 67) (v := (20 : Int32)) dX12_undo_65 rfl (by decide) ?_
    refine x_irem (q := 68) dX12_undo_67 rfl (by decide) ?_
    replace H := kle H; obtain ⟨h6, q7, H⟩ := H
    refine x_putI (q := 71) dX12_undo_68 rfl kl_RX12_514 (Or.inl rfl) rfl (k243 g1 (by decide) (m5.full hn)) ?_
    refine x_nmH q7 ?_
    have n8 : h6.1 = 243 := by rw [q7]; exact (m5.full hn)
    refine x_aload_n (q := 72) dX12_undo_71 rfl rfl ?_
    refine x_dup (q := 73) dX12_undo_72 rfl rfl ?_
    refine x_getI (q := 76) dX12_undo_73 rfl kl_RX12_358 (Or.inl rfl) (k243 g1 (by decide) n8) ?_
    refine x_iconst (q := 77) (v := (1 : Int32)) dX12_undo_76 rfl (by decide) ?_
    refine x_isub (q := 78) dX12_undo_77 rfl ?_
    replace H := kle H; obtain ⟨h9, q10, H⟩ := H
    refine x_putI (q := 81) dX12_undo_78 rfl kl_RX12_358 (Or.inl rfl) rfl (k243 g1 (by decide) n8) ?_
    refine x_nmH q10 ?_
    have n11 : h9.1 = 243 := by rw [q10]; exact n8
    refine x_iconst (q := 82) (v := (1 : Int32)) dX12_undo_81 rfl (by decide) ?_
    cases H
    exact x_end ⟨(Or.inr rfl), dX12_undo_82, rfl, rfl⟩
theorem s_X12_undo {Z : Nat → (Nat → Nat) → State → Prop} (h : KH) (v0 : Nat) {t : Int32 × KH} (hn : h.1 = 243) (H : f_X12_undo h v0 = some t) : KM Z yX12_undo cX12_undo 2 (some .boolean) 1 [.ref v0] h (some (.int t.1)) t.2 :=
  kx_z (own := RX12) (ini := false) (by decide +kernel) (by decide +kernel) rfl (Nat.le_of_ble_eq_true rfl) (s0_X12_undo h v0 hn H)
theorem dX12_isRefused_0 : decode cX12_isRefused 0 = .ok (.aload_n 0, 1) := by decide +kernel
theorem dX12_isRefused_1 : decode cX12_isRefused 1 = .ok (.getfield 17, 3) := by decide +kernel
theorem dX12_isRefused_4 : decode cX12_isRefused 4 = .ok (.iconst 2, 1) := by decide +kernel
theorem dX12_isRefused_5 : decode cX12_isRefused 5 = .ok (.dup2, 1) := by decide +kernel
theorem dX12_isRefused_6 : decode cX12_isRefused 6 = .ok (.iaload, 1) := by decide +kernel
theorem dX12_isRefused_7 : decode cX12_isRefused 7 = .ok (.iconst 1, 1) := by decide +kernel
theorem dX12_isRefused_8 : decode cX12_isRefused 8 = .ok (.iadd, 1) := by decide +kernel
theorem dX12_isRefused_9 : decode cX12_isRefused 9 = .ok (.iastore, 1) := by decide +kernel
theorem dX12_isRefused_10 : decode cX12_isRefused 10 = .ok (.iconst 0, 1) := by decide +kernel
theorem dX12_isRefused_11 : decode cX12_isRefused 11 = .ok (.ireturn, 1) := by decide +kernel
def f_X12_isRefused (h : KH) (v0 : Nat) : Option (Int32 × KH) :=
  if kkind v0 = 12 then if (kR h v0 9) < 999999 then if kkind (kR h v0 9) = 20 then if klen (kR h v0 9) ≤ 2 then none else kl (ksI h (kR h v0 9) 2 ((kI h (kR h v0 9) 2) + (1 : Int32))) fun h5 =>
  some ((0 : Int32), h5) else none else none else none
set_option maxHeartbeats 4000000 in
set_option maxRecDepth 100000 in
theorem s0_X12_isRefused {Z : Nat → (Nat → Nat) → State → Prop} (h : KH) (v0 : Nat) {t : Int32 × KH} (hn : h.1 = 243) (H : f_X12_isRefused h v0 = some t) : KX Z RX12 cX12_isRefused 1 false 1 (KRz cX12_isRefused t.1 t.2) 0 [(0, .ref v0)] [] h := by
  unfold f_X12_isRefused at H
  refine x_aload_n (q := 1) dX12_isRefused_0 rfl rfl ?_
  replace H := kif H; obtain ⟨g1, H⟩ := H
  replace H := kif H; obtain ⟨g2, H⟩ := H
  refine x_getR (q := 4) dX12_isRefused_1 rfl kl_RX12_17 rfl (k243 g1 (by decide) hn) g2 ?_
  refine x_iconst (q := 5) (v := (2 : Int32)) dX12_isRefused_4 rfl (by decide) ?_
  refine x_dup2 (q := 6) dX12_isRefused_5 rfl ⟨rfl, rfl⟩ ?_
  replace H := kif H; obtain ⟨g3, H⟩ := H
  replace H := kifn H; obtain ⟨g4, H⟩ := H
  refine x_iald (q := 7) dX12_isRefused_6 rfl (k243 g3 (by decide) hn) (fun z => z.elim (by decide) g4) ?_
  refine x_iconst (q := 8) (v := (1 : Int32)) dX12_isRefused_7 rfl (by decide) ?_
  refine x_iadd (q := 9) dX12_isRefused_8 rfl ?_
  replace H := kle H; obtain ⟨h5, q6, H⟩ := H
  refine x_iast (q := 10) dX12_isRefused_9 rfl (k243 g3 (by decide) hn) (fun z => z.elim (by decide) g4) ?_
  refine x_nmH q6 ?_
  have n7 : h5.1 = 243 := by rw [q6]; exact hn
  refine x_iconst (q := 11) (v := (0 : Int32)) dX12_isRefused_10 rfl (by decide) ?_
  cases H
  exact x_end ⟨(Or.inl rfl), dX12_isRefused_11, rfl, rfl⟩
theorem s_X12_isRefused {Z : Nat → (Nat → Nat) → State → Prop} (h : KH) (v0 : Nat) {t : Int32 × KH} (hn : h.1 = 243) (H : f_X12_isRefused h v0 = some t) : KM Z yX12_isRefused cX12_isRefused 1 (some .boolean) 1 [.ref v0] h (some (.int t.1)) t.2 :=
  kx_z (own := RX12) (ini := false) (by decide +kernel) (by decide +kernel) rfl (Nat.le_of_ble_eq_true rfl) (s0_X12_isRefused h v0 hn H)
theorem dX12_hear_0 : decode cX12_hear 0 = .ok (.aload_n 0, 1) := by decide +kernel
theorem dX12_hear_1 : decode cX12_hear 1 = .ok (.iload_n 1, 1) := by decide +kernel
theorem dX12_hear_2 : decode cX12_hear 2 = .ok (.invokevirtual 473, 3) := by decide +kernel
theorem dX12_hear_5 : decode cX12_hear 5 = .ok (.ifCond .eq 31, 3) := by decide +kernel
theorem dX12_hear_8 : decode cX12_hear 8 = .ok (.aload_n 0, 1) := by decide +kernel
theorem dX12_hear_9 : decode cX12_hear 9 = .ok (.iload_n 1, 1) := by decide +kernel
theorem dX12_hear_10 : decode cX12_hear 10 = .ok (.invokevirtual 400, 3) := by decide +kernel
theorem dX12_hear_13 : decode cX12_hear 13 = .ok (.ifCond .ne 23, 3) := by decide +kernel
theorem dX12_hear_16 : decode cX12_hear 16 = .ok (.iload_n 2, 1) := by decide +kernel
theorem dX12_hear_17 : decode cX12_hear 17 = .ok (.i2l, 1) := by decide +kernel
theorem dX12_hear_18 : decode cX12_hear 18 = .ok (.lconst 0, 1) := by decide +kernel
theorem dX12_hear_19 : decode cX12_hear 19 = .ok (.lconst 1, 1) := by decide +kernel
theorem dX12_hear_20 : decode cX12_hear 20 = .ok (.invokestatic 270, 3) := by decide +kernel
theorem dX12_hear_23 : decode cX12_hear 23 = .ok (.ifCond .eq 13, 3) := by decide +kernel
theorem dX12_hear_26 : decode cX12_hear 26 = .ok (.iload_n 3, 1) := by decide +kernel
theorem dX12_hear_27 : decode cX12_hear 27 = .ok (.i2l, 1) := by decide +kernel
theorem dX12_hear_28 : decode cX12_hear 28 = .ok (.lconst 0, 1) := by decide +kernel
theorem dX12_hear_29 : decode cX12_hear 29 = .ok (.lconst 1, 1) := by decide +kernel
theorem dX12_hear_30 : decode cX12_hear 30 = .ok (.invokestatic 270, 3) := by decide +kernel
theorem dX12_hear_33 : decode cX12_hear 33 = .ok (.ifCond .ne 8, 3) := by decide +kernel
theorem dX12_hear_36 : decode cX12_hear 36 = .ok (.aload_n 0, 1) := by decide +kernel
theorem dX12_hear_37 : decode cX12_hear 37 = .ok (.invokevirtual 517, 3) := by decide +kernel
theorem dX12_hear_40 : decode cX12_hear 40 = .ok (.ireturn, 1) := by decide +kernel
theorem dX12_hear_41 : decode cX12_hear 41 = .ok (.iconst 2, 1) := by decide +kernel
theorem dX12_hear_42 : decode cX12_hear 42 = .ok (.iconst 2, 1) := by decide +kernel
theorem dX12_hear_43 : decode cX12_hear 43 = .ok (.iload_n 1, 1) := by decide +kernel
theorem dX12_hear_44 : decode cX12_hear 44 = .ok (.imul, 1) := by decide +kernel
theorem dX12_hear_45 : decode cX12_hear 45 = .ok (.iadd, 1) := by decide +kernel
theorem dX12_hear_46 : decode cX12_hear 46 = .ok (.iconst 1, 1) := by decide +kernel
theorem dX12_hear_47 : decode cX12_hear 47 = .ok (.iadd, 1) := by decide +kernel
theorem dX12_hear_48 : decode cX12_hear 48 = .ok (.istore 4, 2) := by decide +kernel
theorem dX12_hear_50 : decode cX12_hear 50 = .ok (.aload_n 0, 1) := by decide +kernel
theorem dX12_hear_51 : decode cX12_hear 51 = .ok (.getfield 115, 3) := by decide +kernel
theorem dX12_hear_54 : decode cX12_hear 54 = .ok (.iload 4, 2) := by decide +kernel
theorem dX12_hear_56 : decode cX12_hear 56 = .ok (.iconst 1, 1) := by decide +kernel
theorem dX12_hear_57 : decode cX12_hear 57 = .ok (.iload_n 2, 1) := by decide +kernel
theorem dX12_hear_58 : decode cX12_hear 58 = .ok (.iadd, 1) := by decide +kernel
theorem dX12_hear_59 : decode cX12_hear 59 = .ok (.iconst 2, 1) := by decide +kernel
theorem dX12_hear_60 : decode cX12_hear 60 = .ok (.iload_n 3, 1) := by decide +kernel
theorem dX12_hear_61 : decode cX12_hear 61 = .ok (.imul, 1) := by decide +kernel
theorem dX12_hear_62 : decode cX12_hear 62 = .ok (.iadd, 1) := by decide +kernel
theorem dX12_hear_63 : decode cX12_hear 63 = .ok (.iastore, 1) := by decide +kernel
theorem dX12_hear_64 : decode cX12_hear 64 = .ok (.aload_n 0, 1) := by decide +kernel
theorem dX12_hear_65 : decode cX12_hear 65 = .ok (.iconst 0, 1) := by decide +kernel
theorem dX12_hear_66 : decode cX12_hear 66 = .ok (.invokevirtual 478, 3) := by decide +kernel
theorem dX12_hear_69 : decode cX12_hear 69 = .ok (.aload_n 0, 1) := by decide +kernel
theorem dX12_hear_70 : decode cX12_hear 70 = .ok (.getfield 115, 3) := by decide +kernel
theorem dX12_hear_73 : decode cX12_hear 73 = .ok (.iload 4, 2) := by decide +kernel
theorem dX12_hear_75 : decode cX12_hear 75 = .ok (.iconst 0, 1) := by decide +kernel
theorem dX12_hear_76 : decode cX12_hear 76 = .ok (.iastore, 1) := by decide +kernel
theorem dX12_hear_77 : decode cX12_hear 77 = .ok (.aload_n 0, 1) := by decide +kernel
theorem dX12_hear_78 : decode cX12_hear 78 = .ok (.getfield 422, 3) := by decide +kernel
theorem dX12_hear_81 : decode cX12_hear 81 = .ok (.lconst 0, 1) := by decide +kernel
theorem dX12_hear_82 : decode cX12_hear 82 = .ok (.lcmp, 1) := by decide +kernel
theorem dX12_hear_83 : decode cX12_hear 83 = .ok (.ifCond .ne 8, 3) := by decide +kernel
theorem dX12_hear_86 : decode cX12_hear 86 = .ok (.aload_n 0, 1) := by decide +kernel
theorem dX12_hear_87 : decode cX12_hear 87 = .ok (.invokevirtual 517, 3) := by decide +kernel
theorem dX12_hear_90 : decode cX12_hear 90 = .ok (.ireturn, 1) := by decide +kernel
theorem dX12_hear_91 : decode cX12_hear 91 = .ok (.aload_n 0, 1) := by decide +kernel
theorem dX12_hear_92 : decode cX12_hear 92 = .ok (.invokevirtual 520, 3) := by decide +kernel
theorem dX12_hear_95 : decode cX12_hear 95 = .ok (.aload_n 0, 1) := by decide +kernel
theorem dX12_hear_96 : decode cX12_hear 96 = .ok (.getfield 115, 3) := by decide +kernel
theorem dX12_hear_99 : decode cX12_hear 99 = .ok (.iload 4, 2) := by decide +kernel
theorem dX12_hear_101 : decode cX12_hear 101 = .ok (.iconst 1, 1) := by decide +kernel
theorem dX12_hear_102 : decode cX12_hear 102 = .ok (.iload_n 2, 1) := by decide +kernel
theorem dX12_hear_103 : decode cX12_hear 103 = .ok (.iadd, 1) := by decide +kernel
theorem dX12_hear_104 : decode cX12_hear 104 = .ok (.iconst 2, 1) := by decide +kernel
theorem dX12_hear_105 : decode cX12_hear 105 = .ok (.iload_n 3, 1) := by decide +kernel
theorem dX12_hear_106 : decode cX12_hear 106 = .ok (.imul, 1) := by decide +kernel
theorem dX12_hear_107 : decode cX12_hear 107 = .ok (.iadd, 1) := by decide +kernel
theorem dX12_hear_108 : decode cX12_hear 108 = .ok (.iastore, 1) := by decide +kernel
theorem dX12_hear_109 : decode cX12_hear 109 = .ok (.iconst 1, 1) := by decide +kernel
theorem dX12_hear_110 : decode cX12_hear 110 = .ok (.ireturn, 1) := by decide +kernel
theorem kc_RX12_517 : Cond.methodLink RX12 517 yX12_isRefused ∈ ktG ∧ (Cond.instanceMethod yX12_isRefused ∈ ktG ∧ Cond.selects yX12_isRefused.cls yX12_isRefused yX12_isRefused ∈ ktG) ∧ Cond.initialized yX12_isRefused.cls ∈ ktG ∧ Cond.code yX12_isRefused cX12_isRefused 1 (some .boolean) ∈ ktG := ⟨(kwm 1915 (by decide +kernel) (by decide +kernel)), ⟨(kwm 1917 (by decide +kernel) (by decide +kernel)), (kwm 107 (by decide +kernel) (by decide +kernel))⟩, (kwm 139 (by decide +kernel) (by decide +kernel)), kwm 1918 (by decide +kernel) (by decide +kernel)⟩
theorem kh_X12_isRefused : yX12_isRefused.cls ≠ "java/lang/invoke/MethodHandle" ∧ yX12_isRefused.cls ≠ "java/lang/invoke/VarHandle" ∧ (parseMethodDescriptor yX12_isRefused.desc).map (fun d => d.parameters.length) = some 0 := by decide +kernel
theorem kc_RX12_520 : Cond.methodLink RX12 520 yX12_keeps ∈ ktG ∧ (Cond.instanceMethod yX12_keeps ∈ ktG ∧ Cond.selects yX12_keeps.cls yX12_keeps yX12_keeps ∈ ktG) ∧ Cond.initialized yX12_keeps.cls ∈ ktG ∧ Cond.code yX12_keeps cX12_keeps 2 none ∈ ktG := ⟨(kwm 1919 (by decide +kernel) (by decide +kernel)), ⟨(kwm 1921 (by decide +kernel) (by decide +kernel)), (kwm 108 (by decide +kernel) (by decide +kernel))⟩, (kwm 139 (by decide +kernel) (by decide +kernel)), kwm 1922 (by decide +kernel) (by decide +kernel)⟩
theorem kh_X12_keeps : yX12_keeps.cls ≠ "java/lang/invoke/MethodHandle" ∧ yX12_keeps.cls ≠ "java/lang/invoke/VarHandle" ∧ (parseMethodDescriptor yX12_keeps.desc).map (fun d => d.parameters.length) = some 0 := by decide +kernel
def f_X12_hear_b36 (h : KH) (v0 : Nat) : Option (Int32 × KH) :=
  if kkind v0 = 12 then kb (f_X12_isRefused h v0) fun r2 =>
  if (r2.1 = 0 ∨ r2.1 = 1) then some (r2.1, r2.2) else none else none
set_option maxHeartbeats 4000000 in
set_option maxRecDepth 100000 in
theorem s_X12_hear_b36 {Z : Nat → (Nat → Nat) → State → Prop} (h : KH) (v0 : Nat) {t : Int32 × KH} (hn : h.1 = 243) (H : f_X12_hear_b36 h v0 = some t) : KX Z RX12 cX12_hear 5 false 6 (KRz cX12_hear t.1 t.2) 36 [(0, .ref v0)] [] h := by
  unfold f_X12_hear_b36 at H
  refine x_aload_n (q := 37) dX12_hear_36 rfl rfl ?_
  replace H := kif H; obtain ⟨g1, H⟩ := H
  replace H := kbe H; obtain ⟨r2, c3, H⟩ := H
  have m4 := s_X12_isRefused (Z := Z) h v0 hn c3
  refine x_callV (q := 40) (as := []) (rest := []) dX12_hear_37 rfl kc_RX12_517 kh_X12_isRefused (by decide) (Nat.le_of_ble_eq_true rfl) m4 (ci := 12) (by exact ⟨rfl, by decide⟩) (k243 g1 (by decide) hn) ?_
  have n5 : (r2.2).1 = 243 := m4.1.full hn
  replace H := kif H; obtain ⟨g6, H⟩ := H
  cases H
  exact x_end ⟨g6, dX12_hear_40, rfl, rfl⟩
def f_X12_hear (h : KH) (v0 : Nat) (v1 : Int32) (v2 : Int32) (v3 : Int32) : Option (Int32 × KH) :=
  if kkind v0 = 12 then kb (f_X12_isTest h v0 v1) fun r2 =>
  if r2 = 0 then
  f_X12_hear_b36 h v0
  else
  kb (f_X12_stateOf h v0 v1) fun r6 =>
  if r6 = 0 then
  kb (f_X12_isIn h ((v2).toInt64) (0 : Int64) (1 : Int64)) fun r10 =>
  if r10 = 0 then
  f_X12_hear_b36 h v0
  else
  kb (f_X12_isIn h ((v3).toInt64) (0 : Int64) (1 : Int64)) fun r14 =>
  if r14 = 0 then
  f_X12_hear_b36 h v0
  else
  kl (((2 : Int32) + ((2 : Int32) * v1)) + (1 : Int32)) fun x18 =>
  if (kR h v0 45) < 999999 then if kkind (kR h v0 45) = 20 then if (x18 < 0 ∨ klen (kR h v0 45) ≤ (x18).toNatClampNeg) then none else kl (ksI h (kR h v0 45) ((x18).toNatClampNeg) (((1 : Int32) + v2) + ((2 : Int32) * v3))) fun h23 =>
  kb (f_X12_laysWorlds h23 v0 (0 : Int32)) fun r26 =>
  if (kR r26 v0 45) < 999999 then if kkind (kR r26 v0 45) = 20 then if (x18 < 0 ∨ klen (kR r26 v0 45) ≤ (x18).toNatClampNeg) then none else kl (ksI r26 (kR r26 v0 45) ((x18).toNatClampNeg) (0 : Int32)) fun h33 =>
  if (lg_cmp (kL h33 v0 56) (0 : Int64)) = 0 then
  kb (f_X12_isRefused h33 v0) fun r47 =>
  if (r47.1 = 0 ∨ r47.1 = 1) then some (r47.1, r47.2) else none
  else
  kb (f_X12_keeps h33 v0) fun r37 =>
  if (kR r37 v0 45) < 999999 then if kkind (kR r37 v0 45) = 20 then if (x18 < 0 ∨ klen (kR r37 v0 45) ≤ (x18).toNatClampNeg) then none else kl (ksI r37 (kR r37 v0 45) ((x18).toNatClampNeg) (((1 : Int32) + v2) + ((2 : Int32) * v3))) fun h44 =>
  some ((1 : Int32), h44) else none else none else none else none else none else none
  else
  f_X12_hear_b36 h v0 else none
set_option maxHeartbeats 4000000 in
set_option maxRecDepth 100000 in
theorem s0_X12_hear {Z : Nat → (Nat → Nat) → State → Prop} (h : KH) (v0 : Nat) (v1 : Int32) (v2 : Int32) (v3 : Int32) {t : Int32 × KH} (hn : h.1 = 243) (H : f_X12_hear h v0 v1 v2 v3 = some t) : KX Z RX12 cX12_hear 5 false 6 (KRz cX12_hear t.1 t.2) 0 [(0, .ref v0), (1, .int v1), (2, .int v2), (3, .int v3)] [] h := by
  unfold f_X12_hear at H
  refine x_aload_n (q := 1) dX12_hear_0 rfl rfl ?_
  refine x_iload_n (q := 2) dX12_hear_1 rfl rfl ?_
  replace H := kif H; obtain ⟨g1, H⟩ := H
  replace H := kbe H; obtain ⟨r2, c3, H⟩ := H
  have m4 := s_X12_isTest (Z := Z) h v0 v1 hn c3
  refine x_callV (q := 5) (as := [.int v1]) (rest := []) dX12_hear_2 rfl kc_RX12_473 kh_X12_isTest (by decide) (Nat.le_of_ble_eq_true rfl) m4 (ci := 12) (by exact ⟨rfl, by decide⟩) (k243 g1 (by decide) hn) ?_
  replace H := kite H; rcases H with ⟨g5, H⟩ | ⟨g5, H⟩
  · refine x_if_eq_t dX12_hear_5 (q := 36) (by decide) g5 ?_
    refine x_sub (ls2 := [(0, .ref v0)]) [0] rfl ?_
    exact s_X12_hear_b36 h v0 hn H
  · refine x_if_eq_f (q := 8) dX12_hear_5 (t := 36) (by decide) rfl g5 ?_
    refine x_aload_n (q := 9) dX12_hear_8 rfl rfl ?_
    refine x_iload_n (q := 10) dX12_hear_9 rfl rfl ?_
    replace H := kbe H; obtain ⟨r6, c7, H⟩ := H
    have m8 := s_X12_stateOf (Z := Z) h v0 v1 hn c7
    refine x_callV (q := 13) (as := [.int v1]) (rest := []) dX12_hear_10 rfl kc_RX12_400 kh_X12_stateOf (by decide) (Nat.le_of_ble_eq_true rfl) m8 (ci := 12) (by exact ⟨rfl, by decide⟩) (k243 g1 (by decide) hn) ?_
    replace H := kite H; rcases H with ⟨g9, H⟩ | ⟨g9, H⟩
    · refine x_if_ne_f (q := 16) dX12_hear_13 (t := 36) (by decide) rfl g9 ?_
      refine x_iload_n (q := 17) dX12_hear_16 rfl rfl ?_
      refine x_i2l (q := 18) dX12_hear_17 rfl ?_
      refine x_lconst (q := 19) (v := (0 : Int64)) dX12_hear_18 rfl (by decide) ?_
      refine x_lconst (q := 20) (v := (1 : Int64)) dX12_hear_19 rfl (by decide) ?_
      replace H := kbe H; obtain ⟨r10, c11, H⟩ := H
      have m12 := s_X12_isIn (Z := Z) h ((v2).toInt64) (0 : Int64) (1 : Int64) hn c11
      refine x_callS (q := 23) (as := [.long ((v2).toInt64), .long (0 : Int64), .long (1 : Int64)]) (rest := []) dX12_hear_20 rfl kc_RX12_270 kh_X12_isIn (by decide) (Nat.le_of_ble_eq_true rfl) m12 ?_
      replace H := kite H; rcases H with ⟨g13, H⟩ | ⟨g13, H⟩
      · refine x_if_eq_t dX12_hear_23 (q := 36) (by decide) g13 ?_
        refine x_sub (ls2 := [(0, .ref v0)]) [0] rfl ?_
        exact s_X12_hear_b36 h v0 hn H
      · refine x_if_eq_f (q := 26) dX12_hear_23 (t := 36) (by decide) rfl g13 ?_
        refine x_iload_n (q := 27) dX12_hear_26 rfl rfl ?_
        refine x_i2l (q := 28) dX12_hear_27 rfl ?_
        refine x_lconst (q := 29) (v := (0 : Int64)) dX12_hear_28 rfl (by decide) ?_
        refine x_lconst (q := 30) (v := (1 : Int64)) dX12_hear_29 rfl (by decide) ?_
        replace H := kbe H; obtain ⟨r14, c15, H⟩ := H
        have m16 := s_X12_isIn (Z := Z) h ((v3).toInt64) (0 : Int64) (1 : Int64) hn c15
        refine x_callS (q := 33) (as := [.long ((v3).toInt64), .long (0 : Int64), .long (1 : Int64)]) (rest := []) dX12_hear_30 rfl kc_RX12_270 kh_X12_isIn (by decide) (Nat.le_of_ble_eq_true rfl) m16 ?_
        replace H := kite H; rcases H with ⟨g17, H⟩ | ⟨g17, H⟩
        · refine x_if_ne_f (q := 36) dX12_hear_33 (t := 41) (by decide) rfl g17 ?_
          refine x_sub (ls2 := [(0, .ref v0)]) [0] rfl ?_
          exact s_X12_hear_b36 h v0 hn H
        · refine x_if_ne_t dX12_hear_33 (q := 41) (by decide) g17 ?_
          refine x_iconst (q := 42) (v := (2 : Int32)) dX12_hear_41 rfl (by decide) ?_
          refine x_iconst (q := 43) (v := (2 : Int32)) dX12_hear_42 rfl (by decide) ?_
          refine x_iload_n (q := 44) dX12_hear_43 rfl rfl ?_
          refine x_imul (q := 45) dX12_hear_44 rfl ?_
          refine x_iadd (q := 46) dX12_hear_45 rfl ?_
          refine x_iconst (q := 47) (v := (1 : Int32)) dX12_hear_46 rfl (by decide) ?_
          refine x_iadd (q := 48) dX12_hear_47 rfl ?_
          replace H := kle H; obtain ⟨x18, q19, H⟩ := H
          refine x_nmI q19 ?_
          refine x_istore (q := 50) (i := 4) (ls2 := [(4, .int x18), (0, .ref v0), (1, .int v1), (2, .int v2), (3, .int v3)]) dX12_hear_48 rfl (by decide) rfl ?_
          refine x_aload_n (q := 51) dX12_hear_50 rfl rfl ?_
          replace H := kif H; obtain ⟨g20, H⟩ := H
          refine x_getR (q := 54) dX12_hear_51 rfl kl_RX12_115 rfl (k243 g1 (by decide) hn) g20 ?_
          refine x_iload (q := 56) dX12_hear_54 rfl rfl ?_
          refine x_iconst (q := 57) (v := (1 : Int32)) dX12_hear_56 rfl (by decide) ?_
          refine x_iload_n (q := 58) dX12_hear_57 rfl rfl ?_
          refine x_iadd (q := 59) dX12_hear_58 rfl ?_
          refine x_iconst (q := 60) (v := (2 : Int32)) dX12_hear_59 rfl (by decide) ?_
          refine x_iload_n (q := 61) dX12_hear_60 rfl rfl ?_
          refine x_imul (q := 62) dX12_hear_61 rfl ?_
          refine x_iadd (q := 63) dX12_hear_62 rfl ?_
          replace H := kif H; obtain ⟨g21, H⟩ := H
          replace H := kifn H; obtain ⟨g22, H⟩ := H
          replace H := kle H; obtain ⟨h23, q24, H⟩ := H
          refine x_iast (q := 64) dX12_hear_63 rfl (k243 g21 (by decide) hn) g22 ?_
          refine x_nmH q24 ?_
          have n25 : h23.1 = 243 := by rw [q24]; exact hn
          refine x_aload_n (q := 65) dX12_hear_64 rfl rfl ?_
          refine x_iconst (q := 66) (v := (0 : Int32)) dX12_hear_65 rfl (by decide) ?_
          replace H := kbe H; obtain ⟨r26, c27, H⟩ := H
          have m28 := s_X12_laysWorlds (Z := Z) h23 v0 (0 : Int32) n25 c27
          refine x_callV (q := 69) (as := [.int (0 : Int32)]) (rest := []) dX12_hear_66 rfl kc_RX12_478 kh_X12_laysWorlds (by decide) (Nat.le_of_ble_eq_true rfl) m28 (ci := 12) (by exact ⟨rfl, by decide⟩) (k243 g1 (by decide) n25) ?_
          have n29 : (r26).1 = 243 := m28.1.full n25
          refine x_aload_n (q := 70) dX12_hear_69 rfl rfl ?_
          replace H := kif H; obtain ⟨g30, H⟩ := H
          refine x_getR (q := 73) dX12_hear_70 rfl kl_RX12_115 rfl (k243 g1 (by decide) n29) g30 ?_
          refine x_iload (q := 75) dX12_hear_73 rfl rfl ?_
          refine x_iconst (q := 76) (v := (0 : Int32)) dX12_hear_75 rfl (by decide) ?_
          replace H := kif H; obtain ⟨g31, H⟩ := H
          replace H := kifn H; obtain ⟨g32, H⟩ := H
          replace H := kle H; obtain ⟨h33, q34, H⟩ := H
          refine x_iast (q := 77) dX12_hear_76 rfl (k243 g31 (by decide) n29) g32 ?_
          refine x_nmH q34 ?_
          have n35 : h33.1 = 243 := by rw [q34]; exact n29
          refine x_aload_n (q := 78) dX12_hear_77 rfl rfl ?_
          refine x_getL (q := 81) dX12_hear_78 rfl kl_RX12_422 rfl (k243 g1 (by decide) n35) ?_
          refine x_lconst (q := 82) (v := (0 : Int64)) dX12_hear_81 rfl (by decide) ?_
          refine x_lcmp (q := 83) dX12_hear_82 rfl ?_
          replace H := kite H; rcases H with ⟨g36, H⟩ | ⟨g36, H⟩
          · refine x_if_ne_f (q := 86) dX12_hear_83 (t := 91) (by decide) rfl g36 ?_
            refine x_aload_n (q := 87) dX12_hear_86 rfl rfl ?_
            replace H := kbe H; obtain ⟨r47, c48, H⟩ := H
            have m49 := s_X12_isRefused (Z := Z) h33 v0 n35 c48
            refine x_callV (q := 90) (as := []) (rest := []) dX12_hear_87 rfl kc_RX12_517 kh_X12_isRefused (by decide) (Nat.le_of_ble_eq_true rfl) m49 (ci := 12) (by exact ⟨rfl, by decide⟩) (k243 g1 (by decide) n35) ?_
            have n50 : (r47.2).1 = 243 := m49.1.full n35
            replace H := kif H; obtain ⟨g51, H⟩ := H
            cases H
            exact x_end ⟨g51, dX12_hear_90, rfl, rfl⟩
          · refine x_if_ne_t dX12_hear_83 (q := 91) (by decide) g36 ?_
            refine x_aload_n (q := 92) dX12_hear_91 rfl rfl ?_
            replace H := kbe H; obtain ⟨r37, c38, H⟩ := H
            have m39 := s_X12_keeps (Z := Z) h33 v0 n35 c38
            refine x_callV (q := 95) (as := []) (rest := []) dX12_hear_92 rfl kc_RX12_520 kh_X12_keeps (by decide) (Nat.le_of_ble_eq_true rfl) m39 (ci := 12) (by exact ⟨rfl, by decide⟩) (k243 g1 (by decide) n35) ?_
            have n40 : (r37).1 = 243 := m39.1.full n35
            refine x_aload_n (q := 96) dX12_hear_95 rfl rfl ?_
            replace H := kif H; obtain ⟨g41, H⟩ := H
            refine x_getR (q := 99) dX12_hear_96 rfl kl_RX12_115 rfl (k243 g1 (by decide) n40) g41 ?_
            refine x_iload (q := 101) dX12_hear_99 rfl rfl ?_
            refine x_iconst (q := 102) (v := (1 : Int32)) dX12_hear_101 rfl (by decide) ?_
            refine x_iload_n (q := 103) dX12_hear_102 rfl rfl ?_
            refine x_iadd (q := 104) dX12_hear_103 rfl ?_
            refine x_iconst (q := 105) (v := (2 : Int32)) dX12_hear_104 rfl (by decide) ?_
            refine x_iload_n (q := 106) dX12_hear_105 rfl rfl ?_
            refine x_imul (q := 107) dX12_hear_106 rfl ?_
            refine x_iadd (q := 108) dX12_hear_107 rfl ?_
            replace H := kif H; obtain ⟨g42, H⟩ := H
            replace H := kifn H; obtain ⟨g43, H⟩ := H
            replace H := kle H; obtain ⟨h44, q45, H⟩ := H
            refine x_iast (q := 109) dX12_hear_108 rfl (k243 g42 (by decide) n40) g43 ?_
            refine x_nmH q45 ?_
            have n46 : h44.1 = 243 := by rw [q45]; exact n40
            refine x_iconst (q := 110) (v := (1 : Int32)) dX12_hear_109 rfl (by decide) ?_
            cases H
            exact x_end ⟨(Or.inr rfl), dX12_hear_110, rfl, rfl⟩
    · refine x_if_ne_t dX12_hear_13 (q := 36) (by decide) g9 ?_
      refine x_sub (ls2 := [(0, .ref v0)]) [0] rfl ?_
      exact s_X12_hear_b36 h v0 hn H
theorem s_X12_hear {Z : Nat → (Nat → Nat) → State → Prop} (h : KH) (v0 : Nat) (v1 : Int32) (v2 : Int32) (v3 : Int32) {t : Int32 × KH} (hn : h.1 = 243) (H : f_X12_hear h v0 v1 v2 v3 = some t) : KM Z yX12_hear cX12_hear 5 (some .boolean) 6 [.ref v0, .int v1, .int v2, .int v3] h (some (.int t.1)) t.2 :=
  kx_z (own := RX12) (ini := false) (by decide +kernel) (by decide +kernel) rfl (Nat.le_of_ble_eq_true rfl) (s0_X12_hear h v0 v1 v2 v3 hn H)
theorem dX12_look_0 : decode cX12_look 0 = .ok (.iload_n 1, 1) := by decide +kernel
theorem dX12_look_1 : decode cX12_look 1 = .ok (.i2l, 1) := by decide +kernel
theorem dX12_look_2 : decode cX12_look 2 = .ok (.lconst 0, 1) := by decide +kernel
theorem dX12_look_3 : decode cX12_look 3 = .ok (.aload_n 0, 1) := by decide +kernel
theorem dX12_look_4 : decode cX12_look 4 = .ok (.invokevirtual 403, 3) := by decide +kernel
theorem dX12_look_7 : decode cX12_look 7 = .ok (.iconst 1, 1) := by decide +kernel
theorem dX12_look_8 : decode cX12_look 8 = .ok (.isub, 1) := by decide +kernel
theorem dX12_look_9 : decode cX12_look 9 = .ok (.i2l, 1) := by decide +kernel
theorem dX12_look_10 : decode cX12_look 10 = .ok (.invokestatic 270, 3) := by decide +kernel
theorem dX12_look_13 : decode cX12_look 13 = .ok (.ifCond .eq 32, 3) := by decide +kernel
theorem dX12_look_16 : decode cX12_look 16 = .ok (.iload_n 2, 1) := by decide +kernel
theorem dX12_look_17 : decode cX12_look 17 = .ok (.i2l, 1) := by decide +kernel
theorem dX12_look_18 : decode cX12_look 18 = .ok (.lconst 0, 1) := by decide +kernel
theorem dX12_look_19 : decode cX12_look 19 = .ok (.lconst 1, 1) := by decide +kernel
theorem dX12_look_20 : decode cX12_look 20 = .ok (.invokestatic 270, 3) := by decide +kernel
theorem dX12_look_23 : decode cX12_look 23 = .ok (.ifCond .eq 22, 3) := by decide +kernel
theorem dX12_look_26 : decode cX12_look 26 = .ok (.iload_n 3, 1) := by decide +kernel
theorem dX12_look_27 : decode cX12_look 27 = .ok (.i2l, 1) := by decide +kernel
theorem dX12_look_28 : decode cX12_look 28 = .ok (.lconst 0, 1) := by decide +kernel
theorem dX12_look_29 : decode cX12_look 29 = .ok (.lconst 1, 1) := by decide +kernel
theorem dX12_look_30 : decode cX12_look 30 = .ok (.invokestatic 270, 3) := by decide +kernel
theorem dX12_look_33 : decode cX12_look 33 = .ok (.ifCond .eq 12, 3) := by decide +kernel
theorem dX12_look_36 : decode cX12_look 36 = .ok (.aload_n 0, 1) := by decide +kernel
theorem dX12_look_37 : decode cX12_look 37 = .ok (.iload_n 1, 1) := by decide +kernel
theorem dX12_look_38 : decode cX12_look 38 = .ok (.iload_n 2, 1) := by decide +kernel
theorem dX12_look_39 : decode cX12_look 39 = .ok (.invokevirtual 406, 3) := by decide +kernel
theorem dX12_look_42 : decode cX12_look 42 = .ok (.ifCond .eq 8, 3) := by decide +kernel
theorem dX12_look_45 : decode cX12_look 45 = .ok (.aload_n 0, 1) := by decide +kernel
theorem dX12_look_46 : decode cX12_look 46 = .ok (.invokevirtual 517, 3) := by decide +kernel
theorem dX12_look_49 : decode cX12_look 49 = .ok (.ireturn, 1) := by decide +kernel
theorem dX12_look_50 : decode cX12_look 50 = .ok (.aload_n 0, 1) := by decide +kernel
theorem dX12_look_51 : decode cX12_look 51 = .ok (.invokevirtual 520, 3) := by decide +kernel
theorem dX12_look_54 : decode cX12_look 54 = .ok (.aload_n 0, 1) := by decide +kernel
theorem dX12_look_55 : decode cX12_look 55 = .ok (.getfield 115, 3) := by decide +kernel
theorem dX12_look_58 : decode cX12_look 58 = .ok (.bipush 14, 2) := by decide +kernel
theorem dX12_look_60 : decode cX12_look 60 = .ok (.iconst 2, 1) := by decide +kernel
theorem dX12_look_61 : decode cX12_look 61 = .ok (.iload_n 1, 1) := by decide +kernel
theorem dX12_look_62 : decode cX12_look 62 = .ok (.imul, 1) := by decide +kernel
theorem dX12_look_63 : decode cX12_look 63 = .ok (.iadd, 1) := by decide +kernel
theorem dX12_look_64 : decode cX12_look 64 = .ok (.iload_n 2, 1) := by decide +kernel
theorem dX12_look_65 : decode cX12_look 65 = .ok (.iadd, 1) := by decide +kernel
theorem dX12_look_66 : decode cX12_look 66 = .ok (.iconst 1, 1) := by decide +kernel
theorem dX12_look_67 : decode cX12_look 67 = .ok (.iload_n 3, 1) := by decide +kernel
theorem dX12_look_68 : decode cX12_look 68 = .ok (.iadd, 1) := by decide +kernel
theorem dX12_look_69 : decode cX12_look 69 = .ok (.iastore, 1) := by decide +kernel
theorem dX12_look_70 : decode cX12_look 70 = .ok (.iconst 1, 1) := by decide +kernel
theorem dX12_look_71 : decode cX12_look 71 = .ok (.ireturn, 1) := by decide +kernel
def f_X12_look_b45 (h : KH) (v0 : Nat) : Option (Int32 × KH) :=
  if kkind v0 = 12 then kb (f_X12_isRefused h v0) fun r2 =>
  if (r2.1 = 0 ∨ r2.1 = 1) then some (r2.1, r2.2) else none else none
set_option maxHeartbeats 4000000 in
set_option maxRecDepth 100000 in
theorem s_X12_look_b45 {Z : Nat → (Nat → Nat) → State → Prop} (h : KH) (v0 : Nat) {t : Int32 × KH} (hn : h.1 = 243) (H : f_X12_look_b45 h v0 = some t) : KX Z RX12 cX12_look 4 false 2 (KRz cX12_look t.1 t.2) 45 [(0, .ref v0)] [] h := by
  unfold f_X12_look_b45 at H
  refine x_aload_n (q := 46) dX12_look_45 rfl rfl ?_
  replace H := kif H; obtain ⟨g1, H⟩ := H
  replace H := kbe H; obtain ⟨r2, c3, H⟩ := H
  have m4 := s_X12_isRefused (Z := Z) h v0 hn c3
  refine x_callV (q := 49) (as := []) (rest := []) dX12_look_46 rfl kc_RX12_517 kh_X12_isRefused (by decide) (Nat.le_of_ble_eq_true rfl) m4 (ci := 12) (by exact ⟨rfl, by decide⟩) (k243 g1 (by decide) hn) ?_
  have n5 : (r2.2).1 = 243 := m4.1.full hn
  replace H := kif H; obtain ⟨g6, H⟩ := H
  cases H
  exact x_end ⟨g6, dX12_look_49, rfl, rfl⟩
def f_X12_look (h : KH) (v0 : Nat) (v1 : Int32) (v2 : Int32) (v3 : Int32) : Option (Int32 × KH) :=
  if kkind v0 = 12 then kb (f_X12_markMany h v0) fun r2 =>
  kb (f_X12_isIn h ((v1).toInt64) (0 : Int64) (((r2 - (1 : Int32))).toInt64)) fun r5 =>
  if r5 = 0 then
  f_X12_look_b45 h v0
  else
  kb (f_X12_isIn h ((v2).toInt64) (0 : Int64) (1 : Int64)) fun r9 =>
  if r9 = 0 then
  f_X12_look_b45 h v0
  else
  kb (f_X12_isIn h ((v3).toInt64) (0 : Int64) (1 : Int64)) fun r13 =>
  if r13 = 0 then
  f_X12_look_b45 h v0
  else
  kb (f_X12_markOf h v0 v1 v2) fun r17 =>
  if r17 = 0 then
  kb (f_X12_keeps h v0) fun r21 =>
  if (kR r21 v0 45) < 999999 then if kkind (kR r21 v0 45) = 20 then if ((((14 : Int32) + ((2 : Int32) * v1)) + v2) < 0 ∨ klen (kR r21 v0 45) ≤ ((((14 : Int32) + ((2 : Int32) * v1)) + v2)).toNatClampNeg) then none else kl (ksI r21 (kR r21 v0 45) (((((14 : Int32) + ((2 : Int32) * v1)) + v2)).toNatClampNeg) ((1 : Int32) + v3)) fun h28 =>
  some ((1 : Int32), h28) else none else none
  else
  f_X12_look_b45 h v0 else none
set_option maxHeartbeats 4000000 in
set_option maxRecDepth 100000 in
theorem s0_X12_look {Z : Nat → (Nat → Nat) → State → Prop} (h : KH) (v0 : Nat) (v1 : Int32) (v2 : Int32) (v3 : Int32) {t : Int32 × KH} (hn : h.1 = 243) (H : f_X12_look h v0 v1 v2 v3 = some t) : KX Z RX12 cX12_look 4 false 2 (KRz cX12_look t.1 t.2) 0 [(0, .ref v0), (1, .int v1), (2, .int v2), (3, .int v3)] [] h := by
  unfold f_X12_look at H
  refine x_iload_n (q := 1) dX12_look_0 rfl rfl ?_
  refine x_i2l (q := 2) dX12_look_1 rfl ?_
  refine x_lconst (q := 3) (v := (0 : Int64)) dX12_look_2 rfl (by decide) ?_
  refine x_aload_n (q := 4) dX12_look_3 rfl rfl ?_
  replace H := kif H; obtain ⟨g1, H⟩ := H
  replace H := kbe H; obtain ⟨r2, c3, H⟩ := H
  have m4 := s_X12_markMany (Z := Z) h v0 hn c3
  refine x_callV (q := 7) (as := []) (rest := [.long (0 : Int64), .long ((v1).toInt64)]) dX12_look_4 rfl kc_RX12_403 kh_X12_markMany (by decide) (Nat.le_of_ble_eq_true rfl) m4 (ci := 12) (by exact ⟨rfl, by decide⟩) (k243 g1 (by decide) hn) ?_
  refine x_iconst (q := 8) (v := (1 : Int32)) dX12_look_7 rfl (by decide) ?_
  refine x_isub (q := 9) dX12_look_8 rfl ?_
  refine x_i2l (q := 10) dX12_look_9 rfl ?_
  replace H := kbe H; obtain ⟨r5, c6, H⟩ := H
  have m7 := s_X12_isIn (Z := Z) h ((v1).toInt64) (0 : Int64) (((r2 - (1 : Int32))).toInt64) hn c6
  refine x_callS (q := 13) (as := [.long ((v1).toInt64), .long (0 : Int64), .long (((r2 - (1 : Int32))).toInt64)]) (rest := []) dX12_look_10 rfl kc_RX12_270 kh_X12_isIn (by decide) (Nat.le_of_ble_eq_true rfl) m7 ?_
  replace H := kite H; rcases H with ⟨g8, H⟩ | ⟨g8, H⟩
  · refine x_if_eq_t dX12_look_13 (q := 45) (by decide) g8 ?_
    refine x_sub (ls2 := [(0, .ref v0)]) [0] rfl ?_
    exact s_X12_look_b45 h v0 hn H
  · refine x_if_eq_f (q := 16) dX12_look_13 (t := 45) (by decide) rfl g8 ?_
    refine x_iload_n (q := 17) dX12_look_16 rfl rfl ?_
    refine x_i2l (q := 18) dX12_look_17 rfl ?_
    refine x_lconst (q := 19) (v := (0 : Int64)) dX12_look_18 rfl (by decide) ?_
    refine x_lconst (q := 20) (v := (1 : Int64)) dX12_look_19 rfl (by decide) ?_
    replace H := kbe H; obtain ⟨r9, c10, H⟩ := H
    have m11 := s_X12_isIn (Z := Z) h ((v2).toInt64) (0 : Int64) (1 : Int64) hn c10
    refine x_callS (q := 23) (as := [.long ((v2).toInt64), .long (0 : Int64), .long (1 : Int64)]) (rest := []) dX12_look_20 rfl kc_RX12_270 kh_X12_isIn (by decide) (Nat.le_of_ble_eq_true rfl) m11 ?_
    replace H := kite H; rcases H with ⟨g12, H⟩ | ⟨g12, H⟩
    · refine x_if_eq_t dX12_look_23 (q := 45) (by decide) g12 ?_
      refine x_sub (ls2 := [(0, .ref v0)]) [0] rfl ?_
      exact s_X12_look_b45 h v0 hn H
    · refine x_if_eq_f (q := 26) dX12_look_23 (t := 45) (by decide) rfl g12 ?_
      refine x_iload_n (q := 27) dX12_look_26 rfl rfl ?_
      refine x_i2l (q := 28) dX12_look_27 rfl ?_
      refine x_lconst (q := 29) (v := (0 : Int64)) dX12_look_28 rfl (by decide) ?_
      refine x_lconst (q := 30) (v := (1 : Int64)) dX12_look_29 rfl (by decide) ?_
      replace H := kbe H; obtain ⟨r13, c14, H⟩ := H
      have m15 := s_X12_isIn (Z := Z) h ((v3).toInt64) (0 : Int64) (1 : Int64) hn c14
      refine x_callS (q := 33) (as := [.long ((v3).toInt64), .long (0 : Int64), .long (1 : Int64)]) (rest := []) dX12_look_30 rfl kc_RX12_270 kh_X12_isIn (by decide) (Nat.le_of_ble_eq_true rfl) m15 ?_
      replace H := kite H; rcases H with ⟨g16, H⟩ | ⟨g16, H⟩
      · refine x_if_eq_t dX12_look_33 (q := 45) (by decide) g16 ?_
        refine x_sub (ls2 := [(0, .ref v0)]) [0] rfl ?_
        exact s_X12_look_b45 h v0 hn H
      · refine x_if_eq_f (q := 36) dX12_look_33 (t := 45) (by decide) rfl g16 ?_
        refine x_aload_n (q := 37) dX12_look_36 rfl rfl ?_
        refine x_iload_n (q := 38) dX12_look_37 rfl rfl ?_
        refine x_iload_n (q := 39) dX12_look_38 rfl rfl ?_
        replace H := kbe H; obtain ⟨r17, c18, H⟩ := H
        have m19 := s_X12_markOf (Z := Z) h v0 v1 v2 hn c18
        refine x_callV (q := 42) (as := [.int v1, .int v2]) (rest := []) dX12_look_39 rfl kc_RX12_406 kh_X12_markOf (by decide) (Nat.le_of_ble_eq_true rfl) m19 (ci := 12) (by exact ⟨rfl, by decide⟩) (k243 g1 (by decide) hn) ?_
        replace H := kite H; rcases H with ⟨g20, H⟩ | ⟨g20, H⟩
        · refine x_if_eq_t dX12_look_42 (q := 50) (by decide) g20 ?_
          refine x_aload_n (q := 51) dX12_look_50 rfl rfl ?_
          replace H := kbe H; obtain ⟨r21, c22, H⟩ := H
          have m23 := s_X12_keeps (Z := Z) h v0 hn c22
          refine x_callV (q := 54) (as := []) (rest := []) dX12_look_51 rfl kc_RX12_520 kh_X12_keeps (by decide) (Nat.le_of_ble_eq_true rfl) m23 (ci := 12) (by exact ⟨rfl, by decide⟩) (k243 g1 (by decide) hn) ?_
          have n24 : (r21).1 = 243 := m23.1.full hn
          refine x_aload_n (q := 55) dX12_look_54 rfl rfl ?_
          replace H := kif H; obtain ⟨g25, H⟩ := H
          refine x_getR (q := 58) dX12_look_55 rfl kl_RX12_115 rfl (k243 g1 (by decide) n24) g25 ?_
          refine x_bipush (q := 60) (v := (14 : Int32)) dX12_look_58 rfl (by decide) ?_
          refine x_iconst (q := 61) (v := (2 : Int32)) dX12_look_60 rfl (by decide) ?_
          refine x_iload_n (q := 62) dX12_look_61 rfl rfl ?_
          refine x_imul (q := 63) dX12_look_62 rfl ?_
          refine x_iadd (q := 64) dX12_look_63 rfl ?_
          refine x_iload_n (q := 65) dX12_look_64 rfl rfl ?_
          refine x_iadd (q := 66) dX12_look_65 rfl ?_
          refine x_iconst (q := 67) (v := (1 : Int32)) dX12_look_66 rfl (by decide) ?_
          refine x_iload_n (q := 68) dX12_look_67 rfl rfl ?_
          refine x_iadd (q := 69) dX12_look_68 rfl ?_
          replace H := kif H; obtain ⟨g26, H⟩ := H
          replace H := kifn H; obtain ⟨g27, H⟩ := H
          replace H := kle H; obtain ⟨h28, q29, H⟩ := H
          refine x_iast (q := 70) dX12_look_69 rfl (k243 g26 (by decide) n24) g27 ?_
          refine x_nmH q29 ?_
          have n30 : h28.1 = 243 := by rw [q29]; exact n24
          refine x_iconst (q := 71) (v := (1 : Int32)) dX12_look_70 rfl (by decide) ?_
          cases H
          exact x_end ⟨(Or.inr rfl), dX12_look_71, rfl, rfl⟩
        · refine x_if_eq_f (q := 45) dX12_look_42 (t := 50) (by decide) rfl g20 ?_
          refine x_sub (ls2 := [(0, .ref v0)]) [0] rfl ?_
          exact s_X12_look_b45 h v0 hn H
theorem s_X12_look {Z : Nat → (Nat → Nat) → State → Prop} (h : KH) (v0 : Nat) (v1 : Int32) (v2 : Int32) (v3 : Int32) {t : Int32 × KH} (hn : h.1 = 243) (H : f_X12_look h v0 v1 v2 v3 = some t) : KM Z yX12_look cX12_look 4 (some .boolean) 2 [.ref v0, .int v1, .int v2, .int v3] h (some (.int t.1)) t.2 :=
  kx_z (own := RX12) (ini := false) (by decide +kernel) (by decide +kernel) rfl (Nat.le_of_ble_eq_true rfl) (s0_X12_look h v0 v1 v2 v3 hn H)
theorem dX12_isJudged_0 : decode cX12_isJudged 0 = .ok (.aload_n 0, 1) := by decide +kernel
theorem dX12_isJudged_1 : decode cX12_isJudged 1 = .ok (.iload_n 2, 1) := by decide +kernel
theorem dX12_isJudged_2 : decode cX12_isJudged 2 = .ok (.invokevirtual 446, 3) := by decide +kernel
theorem dX12_isJudged_5 : decode cX12_isJudged 5 = .ok (.istore 4, 2) := by decide +kernel
theorem dX12_isJudged_7 : decode cX12_isJudged 7 = .ok (.iconst 0, 1) := by decide +kernel
theorem dX12_isJudged_8 : decode cX12_isJudged 8 = .ok (.istore 5, 2) := by decide +kernel
theorem dX12_isJudged_10 : decode cX12_isJudged 10 = .ok (.iload 5, 2) := by decide +kernel
theorem dX12_isJudged_12 : decode cX12_isJudged 12 = .ok (.aload_n 0, 1) := by decide +kernel
theorem dX12_isJudged_13 : decode cX12_isJudged 13 = .ok (.invokevirtual 367, 3) := by decide +kernel
theorem dX12_isJudged_16 : decode cX12_isJudged 16 = .ok (.if_icmp .ge 25, 3) := by decide +kernel
theorem dX12_isJudged_19 : decode cX12_isJudged 19 = .ok (.iload_n 2, 1) := by decide +kernel
theorem dX12_isJudged_20 : decode cX12_isJudged 20 = .ok (.iload 5, 2) := by decide +kernel
theorem dX12_isJudged_22 : decode cX12_isJudged 22 = .ok (.ishr, 1) := by decide +kernel
theorem dX12_isJudged_23 : decode cX12_isJudged 23 = .ok (.iconst 1, 1) := by decide +kernel
theorem dX12_isJudged_24 : decode cX12_isJudged 24 = .ok (.iand, 1) := by decide +kernel
theorem dX12_isJudged_25 : decode cX12_isJudged 25 = .ok (.iconst 1, 1) := by decide +kernel
theorem dX12_isJudged_26 : decode cX12_isJudged 26 = .ok (.if_icmp .ne 9, 3) := by decide +kernel
theorem dX12_isJudged_29 : decode cX12_isJudged 29 = .ok (.aload_n 0, 1) := by decide +kernel
theorem dX12_isJudged_30 : decode cX12_isJudged 30 = .ok (.iload 5, 2) := by decide +kernel
theorem dX12_isJudged_32 : decode cX12_isJudged 32 = .ok (.invokevirtual 497, 3) := by decide +kernel
theorem dX12_isJudged_35 : decode cX12_isJudged 35 = .ok (.iinc 5 1, 3) := by decide +kernel
theorem dX12_isJudged_38 : decode cX12_isJudged 38 = .ok (.goto (-28), 3) := by decide +kernel
theorem dX12_isJudged_41 : decode cX12_isJudged 41 = .ok (.aload_n 0, 1) := by decide +kernel
theorem dX12_isJudged_42 : decode cX12_isJudged 42 = .ok (.getfield 115, 3) := by decide +kernel
theorem dX12_isJudged_45 : decode cX12_isJudged 45 = .ok (.iconst 0, 1) := by decide +kernel
theorem dX12_isJudged_46 : decode cX12_isJudged 46 = .ok (.dup2, 1) := by decide +kernel
theorem dX12_isJudged_47 : decode cX12_isJudged 47 = .ok (.iaload, 1) := by decide +kernel
theorem dX12_isJudged_48 : decode cX12_isJudged 48 = .ok (.iconst 1, 1) := by decide +kernel
theorem dX12_isJudged_49 : decode cX12_isJudged 49 = .ok (.iadd, 1) := by decide +kernel
theorem dX12_isJudged_50 : decode cX12_isJudged 50 = .ok (.iastore, 1) := by decide +kernel
theorem dX12_isJudged_51 : decode cX12_isJudged 51 = .ok (.aload_n 0, 1) := by decide +kernel
theorem dX12_isJudged_52 : decode cX12_isJudged 52 = .ok (.getfield 115, 3) := by decide +kernel
theorem dX12_isJudged_55 : decode cX12_isJudged 55 = .ok (.iconst 1, 1) := by decide +kernel
theorem dX12_isJudged_56 : decode cX12_isJudged 56 = .ok (.aload_n 0, 1) := by decide +kernel
theorem dX12_isJudged_57 : decode cX12_isJudged 57 = .ok (.getfield 115, 3) := by decide +kernel
theorem dX12_isJudged_60 : decode cX12_isJudged 60 = .ok (.iconst 1, 1) := by decide +kernel
theorem dX12_isJudged_61 : decode cX12_isJudged 61 = .ok (.iaload, 1) := by decide +kernel
theorem dX12_isJudged_62 : decode cX12_isJudged 62 = .ok (.iload 4, 2) := by decide +kernel
theorem dX12_isJudged_64 : decode cX12_isJudged 64 = .ok (.iadd, 1) := by decide +kernel
theorem dX12_isJudged_65 : decode cX12_isJudged 65 = .ok (.sipush 9999, 3) := by decide +kernel
theorem dX12_isJudged_68 : decode cX12_isJudged 68 = .ok (.if_icmp .le 9, 3) := by decide +kernel
theorem dX12_isJudged_71 : decode cX12_isJudged 71 = .ok (.sipush 9999, 3) := by decide +kernel
theorem dX12_isJudged_74 : decode cX12_isJudged 74 = .ok (.goto 12, 3) := by decide +kernel
theorem dX12_isJudged_77 : decode cX12_isJudged 77 = .ok (.aload_n 0, 1) := by decide +kernel
theorem dX12_isJudged_78 : decode cX12_isJudged 78 = .ok (.getfield 115, 3) := by decide +kernel
theorem dX12_isJudged_81 : decode cX12_isJudged 81 = .ok (.iconst 1, 1) := by decide +kernel
theorem dX12_isJudged_82 : decode cX12_isJudged 82 = .ok (.iaload, 1) := by decide +kernel
theorem dX12_isJudged_83 : decode cX12_isJudged 83 = .ok (.iload 4, 2) := by decide +kernel
theorem dX12_isJudged_85 : decode cX12_isJudged 85 = .ok (.iadd, 1) := by decide +kernel
theorem dX12_isJudged_86 : decode cX12_isJudged 86 = .ok (.iastore, 1) := by decide +kernel
theorem dX12_isJudged_87 : decode cX12_isJudged 87 = .ok (.aload_n 0, 1) := by decide +kernel
theorem dX12_isJudged_88 : decode cX12_isJudged 88 = .ok (.getfield 115, 3) := by decide +kernel
theorem dX12_isJudged_91 : decode cX12_isJudged 91 = .ok (.bipush 24, 2) := by decide +kernel
theorem dX12_isJudged_93 : decode cX12_isJudged 93 = .ok (.iaload, 1) := by decide +kernel
theorem dX12_isJudged_94 : decode cX12_isJudged 94 = .ok (.bipush 40, 2) := by decide +kernel
theorem dX12_isJudged_96 : decode cX12_isJudged 96 = .ok (.if_icmp .ne 40, 3) := by decide +kernel
theorem dX12_isJudged_99 : decode cX12_isJudged 99 = .ok (.bipush 25, 2) := by decide +kernel
theorem dX12_isJudged_101 : decode cX12_isJudged 101 = .ok (.istore 5, 2) := by decide +kernel
theorem dX12_isJudged_103 : decode cX12_isJudged 103 = .ok (.iload 5, 2) := by decide +kernel
theorem dX12_isJudged_105 : decode cX12_isJudged 105 = .ok (.sipush 181, 3) := by decide +kernel
theorem dX12_isJudged_108 : decode cX12_isJudged 108 = .ok (.if_icmp .ge 25, 3) := by decide +kernel
theorem dX12_isJudged_111 : decode cX12_isJudged 111 = .ok (.aload_n 0, 1) := by decide +kernel
theorem dX12_isJudged_112 : decode cX12_isJudged 112 = .ok (.getfield 115, 3) := by decide +kernel
theorem dX12_isJudged_115 : decode cX12_isJudged 115 = .ok (.iload 5, 2) := by decide +kernel
theorem dX12_isJudged_117 : decode cX12_isJudged 117 = .ok (.aload_n 0, 1) := by decide +kernel
theorem dX12_isJudged_118 : decode cX12_isJudged 118 = .ok (.getfield 115, 3) := by decide +kernel
theorem dX12_isJudged_121 : decode cX12_isJudged 121 = .ok (.iload 5, 2) := by decide +kernel
theorem dX12_isJudged_123 : decode cX12_isJudged 123 = .ok (.iconst 4, 1) := by decide +kernel
theorem dX12_isJudged_124 : decode cX12_isJudged 124 = .ok (.iadd, 1) := by decide +kernel
theorem dX12_isJudged_125 : decode cX12_isJudged 125 = .ok (.iaload, 1) := by decide +kernel
theorem dX12_isJudged_126 : decode cX12_isJudged 126 = .ok (.iastore, 1) := by decide +kernel
theorem dX12_isJudged_127 : decode cX12_isJudged 127 = .ok (.iinc 5 1, 3) := by decide +kernel
theorem dX12_isJudged_130 : decode cX12_isJudged 130 = .ok (.goto (-27), 3) := by decide +kernel
theorem dX12_isJudged_133 : decode cX12_isJudged 133 = .ok (.goto 14, 3) := by decide +kernel
theorem dX12_isJudged_136 : decode cX12_isJudged 136 = .ok (.aload_n 0, 1) := by decide +kernel
theorem dX12_isJudged_137 : decode cX12_isJudged 137 = .ok (.getfield 115, 3) := by decide +kernel
theorem dX12_isJudged_140 : decode cX12_isJudged 140 = .ok (.bipush 24, 2) := by decide +kernel
theorem dX12_isJudged_142 : decode cX12_isJudged 142 = .ok (.dup2, 1) := by decide +kernel
theorem dX12_isJudged_143 : decode cX12_isJudged 143 = .ok (.iaload, 1) := by decide +kernel
theorem dX12_isJudged_144 : decode cX12_isJudged 144 = .ok (.iconst 1, 1) := by decide +kernel
theorem dX12_isJudged_145 : decode cX12_isJudged 145 = .ok (.iadd, 1) := by decide +kernel
theorem dX12_isJudged_146 : decode cX12_isJudged 146 = .ok (.iastore, 1) := by decide +kernel
theorem dX12_isJudged_147 : decode cX12_isJudged 147 = .ok (.bipush 25, 2) := by decide +kernel
theorem dX12_isJudged_149 : decode cX12_isJudged 149 = .ok (.iconst 4, 1) := by decide +kernel
theorem dX12_isJudged_150 : decode cX12_isJudged 150 = .ok (.aload_n 0, 1) := by decide +kernel
theorem dX12_isJudged_151 : decode cX12_isJudged 151 = .ok (.getfield 115, 3) := by decide +kernel
theorem dX12_isJudged_154 : decode cX12_isJudged 154 = .ok (.bipush 24, 2) := by decide +kernel
theorem dX12_isJudged_156 : decode cX12_isJudged 156 = .ok (.iaload, 1) := by decide +kernel
theorem dX12_isJudged_157 : decode cX12_isJudged 157 = .ok (.imul, 1) := by decide +kernel
theorem dX12_isJudged_158 : decode cX12_isJudged 158 = .ok (.iadd, 1) := by decide +kernel
theorem dX12_isJudged_159 : decode cX12_isJudged 159 = .ok (.iconst 4, 1) := by decide +kernel
theorem dX12_isJudged_160 : decode cX12_isJudged 160 = .ok (.isub, 1) := by decide +kernel
theorem dX12_isJudged_161 : decode cX12_isJudged 161 = .ok (.istore 5, 2) := by decide +kernel
theorem dX12_isJudged_163 : decode cX12_isJudged 163 = .ok (.aload_n 0, 1) := by decide +kernel
theorem dX12_isJudged_164 : decode cX12_isJudged 164 = .ok (.getfield 115, 3) := by decide +kernel
theorem dX12_isJudged_167 : decode cX12_isJudged 167 = .ok (.iload 5, 2) := by decide +kernel
theorem dX12_isJudged_169 : decode cX12_isJudged 169 = .ok (.iload_n 1, 1) := by decide +kernel
theorem dX12_isJudged_170 : decode cX12_isJudged 170 = .ok (.iastore, 1) := by decide +kernel
theorem dX12_isJudged_171 : decode cX12_isJudged 171 = .ok (.aload_n 0, 1) := by decide +kernel
theorem dX12_isJudged_172 : decode cX12_isJudged 172 = .ok (.getfield 115, 3) := by decide +kernel
theorem dX12_isJudged_175 : decode cX12_isJudged 175 = .ok (.iload 5, 2) := by decide +kernel
theorem dX12_isJudged_177 : decode cX12_isJudged 177 = .ok (.iconst 1, 1) := by decide +kernel
theorem dX12_isJudged_178 : decode cX12_isJudged 178 = .ok (.iadd, 1) := by decide +kernel
theorem dX12_isJudged_179 : decode cX12_isJudged 179 = .ok (.iload 4, 2) := by decide +kernel
theorem dX12_isJudged_181 : decode cX12_isJudged 181 = .ok (.iastore, 1) := by decide +kernel
theorem dX12_isJudged_182 : decode cX12_isJudged 182 = .ok (.aload_n 0, 1) := by decide +kernel
theorem dX12_isJudged_183 : decode cX12_isJudged 183 = .ok (.getfield 115, 3) := by decide +kernel
theorem dX12_isJudged_186 : decode cX12_isJudged 186 = .ok (.iload 5, 2) := by decide +kernel
theorem dX12_isJudged_188 : decode cX12_isJudged 188 = .ok (.iconst 2, 1) := by decide +kernel
theorem dX12_isJudged_189 : decode cX12_isJudged 189 = .ok (.iadd, 1) := by decide +kernel
theorem dX12_isJudged_190 : decode cX12_isJudged 190 = .ok (.iload_n 2, 1) := by decide +kernel
theorem dX12_isJudged_191 : decode cX12_isJudged 191 = .ok (.invokestatic 452, 3) := by decide +kernel
theorem dX12_isJudged_194 : decode cX12_isJudged 194 = .ok (.iastore, 1) := by decide +kernel
theorem dX12_isJudged_195 : decode cX12_isJudged 195 = .ok (.aload_n 0, 1) := by decide +kernel
theorem dX12_isJudged_196 : decode cX12_isJudged 196 = .ok (.getfield 115, 3) := by decide +kernel
theorem dX12_isJudged_199 : decode cX12_isJudged 199 = .ok (.iload 5, 2) := by decide +kernel
theorem dX12_isJudged_201 : decode cX12_isJudged 201 = .ok (.iconst 3, 1) := by decide +kernel
theorem dX12_isJudged_202 : decode cX12_isJudged 202 = .ok (.iadd, 1) := by decide +kernel
theorem dX12_isJudged_203 : decode cX12_isJudged 203 = .ok (.iload_n 3, 1) := by decide +kernel
theorem dX12_isJudged_204 : decode cX12_isJudged 204 = .ok (.iastore, 1) := by decide +kernel
theorem dX12_isJudged_205 : decode cX12_isJudged 205 = .ok (.aload_n 0, 1) := by decide +kernel
theorem dX12_isJudged_206 : decode cX12_isJudged 206 = .ok (.invokevirtual 500, 3) := by decide +kernel
theorem dX12_isJudged_209 : decode cX12_isJudged 209 = .ok (.return_, 1) := by decide +kernel
def E_X12_isJudged_l10 (v0 : Nat) (v1 : Int32) (v2 : Int32) (v3 : Int32) (v4 : Int32) : KH → Nat → List (Nat × Value) → List Value → KH → Prop := fun (e : KH) pc ls st hh => pc = 41 ∧ ls = [(0, .ref v0), (1, .int v1), (2, .int v2), (3, .int v3), (4, .int v4)] ∧ st = [] ∧ e = hh
def B_X12_isJudged_l10 (v0 : Nat) (v1 : Int32) (v2 : Int32) (v3 : Int32) (v4 : Int32) : ((Int32 × KH) ⊕ (KH)) → Nat → List (Nat × Value) → List Value → KH → Prop := Sum.elim (fun (s : Int32 × KH) pc ls st hh => pc = 10 ∧ ls = [(0, .ref v0), (1, .int v1), (2, .int v2), (3, .int v3), (4, .int v4), (5, .int s.1)] ∧ st = [] ∧ hh = s.2) (E_X12_isJudged_l10 v0 v1 v2 v3 v4)
def f_X12_isJudged_b35 (h : KH) (v0 : Nat) (v1 : Int32) (v2 : Int32) (v3 : Int32) (v4 : Int32) (v5 : Int32) : Option ((Int32 × KH) ⊕ (KH)) :=
  kl (v5 + (1 : Int32)) fun x1 =>
  some (.inl (x1, h))
set_option maxHeartbeats 4000000 in
set_option maxRecDepth 100000 in
theorem s_X12_isJudged_b35 {Z : Nat → (Nat → Nat) → State → Prop} (h : KH) (v0 : Nat) (v1 : Int32) (v2 : Int32) (v3 : Int32) (v4 : Int32) (v5 : Int32) {t : (Int32 × KH) ⊕ (KH)} (hn : h.1 = 243) (H : f_X12_isJudged_b35 h v0 v1 v2 v3 v4 v5 = some t) : KX Z RX12 cX12_isJudged 6 false 3 (B_X12_isJudged_l10 v0 v1 v2 v3 v4 t) 35 [(0, .ref v0), (1, .int v1), (2, .int v2), (3, .int v3), (4, .int v4), (5, .int v5)] [] h := by
  unfold f_X12_isJudged_b35 at H
  replace H := kle H; obtain ⟨x1, q2, H⟩ := H
  refine x_iinc (q := 38) (i := 5) (ls2 := [(5, .int x1), (0, .ref v0), (1, .int v1), (2, .int v2), (3, .int v3), (4, .int v4)]) dX12_isJudged_35 rfl rfl (by decide) (by rw [q2]; rfl) ?_
  refine x_goto dX12_isJudged_38 (q := 10) (by decide) ?_
  cases H
  refine x_sub (ls2 := [(0, .ref v0), (1, .int v1), (2, .int v2), (3, .int v3), (4, .int v4), (5, .int x1)]) [1, 2, 3, 4, 5, 0] rfl ?_
  exact x_end (x_cfg rfl)
def f_X12_isJudged_l10 (v0 : Nat) (v1 : Int32) (v2 : Int32) (v3 : Int32) (v4 : Int32) (s : Int32 × KH) : Option ((Int32 × KH) ⊕ (KH)) :=
  if kkind v0 = 12 then kb (f_X12_testMany s.2 v0) fun r2 =>
  if r2 ≤ s.1 then
  some (.inr s.2)
  else
  if ((v2 >>> (s.1 &&& 31)) &&& (1 : Int32)) = (1 : Int32) then
  kb (f_X12_isHeardMore s.2 v0 s.1) fun r7 =>
  f_X12_isJudged_b35 r7 v0 v1 v2 v3 v4 s.1
  else
  f_X12_isJudged_b35 s.2 v0 v1 v2 v3 v4 s.1 else none
set_option maxHeartbeats 4000000 in
set_option maxRecDepth 100000 in
theorem s_X12_isJudged_l10 {Z : Nat → (Nat → Nat) → State → Prop} (v0 : Nat) (v1 : Int32) (v2 : Int32) (v3 : Int32) (v4 : Int32) (s : Int32 × KH) (t : (Int32 × KH) ⊕ (KH)) (hn : (s.2).1 = 243) (H : f_X12_isJudged_l10 v0 v1 v2 v3 v4 s = some t) : KX Z RX12 cX12_isJudged 6 false 3 (B_X12_isJudged_l10 v0 v1 v2 v3 v4 t) 10 [(0, .ref v0), (1, .int v1), (2, .int v2), (3, .int v3), (4, .int v4), (5, .int s.1)] [] s.2 := by
  unfold f_X12_isJudged_l10 at H
  refine x_iload (q := 12) dX12_isJudged_10 rfl rfl ?_
  refine x_aload_n (q := 13) dX12_isJudged_12 rfl rfl ?_
  replace H := kif H; obtain ⟨g1, H⟩ := H
  replace H := kbe H; obtain ⟨r2, c3, H⟩ := H
  have m4 := s_X12_testMany (Z := Z) s.2 v0 hn c3
  refine x_callV (q := 16) (as := []) (rest := [.int s.1]) dX12_isJudged_13 rfl kc_RX12_367 kh_X12_testMany (by decide) (Nat.le_of_ble_eq_true rfl) m4 (ci := 12) (by exact ⟨rfl, by decide⟩) (k243 g1 (by decide) hn) ?_
  replace H := kite H; rcases H with ⟨g5, H⟩ | ⟨g5, H⟩
  · refine x_icmp_ge_t dX12_isJudged_16 (q := 41) (by decide) g5 ?_
    cases H
    refine x_sub (ls2 := [(0, .ref v0), (1, .int v1), (2, .int v2), (3, .int v3), (4, .int v4)]) [0, 1, 2, 3, 4] rfl ?_
    exact x_end (x_cfg rfl)
  · refine x_icmp_ge_f (q := 19) dX12_isJudged_16 (t := 41) (by decide) rfl g5 ?_
    refine x_iload_n (q := 20) dX12_isJudged_19 rfl rfl ?_
    refine x_iload (q := 22) dX12_isJudged_20 rfl rfl ?_
    refine x_ishr (q := 23) dX12_isJudged_22 rfl ?_
    refine x_iconst (q := 24) (v := (1 : Int32)) dX12_isJudged_23 rfl (by decide) ?_
    refine x_iand (q := 25) dX12_isJudged_24 rfl ?_
    refine x_iconst (q := 26) (v := (1 : Int32)) dX12_isJudged_25 rfl (by decide) ?_
    replace H := kite H; rcases H with ⟨g6, H⟩ | ⟨g6, H⟩
    · refine x_icmp_ne_f (q := 29) dX12_isJudged_26 (t := 35) (by decide) rfl g6 ?_
      refine x_aload_n (q := 30) dX12_isJudged_29 rfl rfl ?_
      refine x_iload (q := 32) dX12_isJudged_30 rfl rfl ?_
      replace H := kbe H; obtain ⟨r7, c8, H⟩ := H
      have m9 := s_X12_isHeardMore (Z := Z) s.2 v0 s.1 hn c8
      refine x_callV (q := 35) (as := [.int s.1]) (rest := []) dX12_isJudged_32 rfl kc_RX12_497 kh_X12_isHeardMore (by decide) (Nat.le_of_ble_eq_true rfl) m9 (ci := 12) (by exact ⟨rfl, by decide⟩) (k243 g1 (by decide) hn) ?_
      have n10 : (r7).1 = 243 := m9.1.full hn
      refine x_sub (ls2 := [(0, .ref v0), (1, .int v1), (2, .int v2), (3, .int v3), (4, .int v4), (5, .int s.1)]) [0, 1, 2, 3, 4, 5] rfl ?_
      exact s_X12_isJudged_b35 r7 v0 v1 v2 v3 v4 s.1 n10 H
    · refine x_icmp_ne_t dX12_isJudged_26 (q := 35) (by decide) g6 ?_
      refine x_sub (ls2 := [(0, .ref v0), (1, .int v1), (2, .int v2), (3, .int v3), (4, .int v4), (5, .int s.1)]) [0, 1, 2, 3, 4, 5] rfl ?_
      exact s_X12_isJudged_b35 s.2 v0 v1 v2 v3 v4 s.1 hn H
theorem sl_X12_isJudged_l10 {Z : Nat → (Nat → Nat) → State → Prop} (v0 : Nat) (v1 : Int32) (v2 : Int32) (v3 : Int32) (v4 : Int32) (n : Nat) (s : Int32 × KH) (r : KH) (hn : (s.2).1 = 243) (H : kloop (f_X12_isJudged_l10 v0 v1 v2 v3 v4) n s = some r) : KX Z RX12 cX12_isJudged 6 false 3 (E_X12_isJudged_l10 v0 v1 v2 v3 v4 r) 10 [(0, .ref v0), (1, .int v1), (2, .int v2), (3, .int v3), (4, .int v4), (5, .int s.1)] [] s.2 :=
  k_loop (ls := (fun (s : Int32 × KH) => ([(0, .ref v0), (1, .int v1), (2, .int v2), (3, .int v3), (4, .int v4), (5, .int s.1)] : List (Nat × Value)))) (hp := (fun (s : Int32 × KH) => (s.2 : KH))) (G := E_X12_isJudged_l10 v0 v1 v2 v3 v4) (fun s t hn H => s_X12_isJudged_l10 v0 v1 v2 v3 v4 s t hn H) n s r hn H
def f_X12_isJudged_b147 (h : KH) (v0 : Nat) (v1 : Int32) (v2 : Int32) (v3 : Int32) (v4 : Int32) : Option (KH) :=
  if kkind v0 = 12 then if (kR h v0 45) < 999999 then if kkind (kR h v0 45) = 20 then if klen (kR h v0 45) ≤ 24 then none else kl (((25 : Int32) + ((4 : Int32) * (kI h (kR h v0 45) 24))) - (4 : Int32)) fun x5 =>
  if (x5 < 0 ∨ klen (kR h v0 45) ≤ (x5).toNatClampNeg) then none else kl (ksI h (kR h v0 45) ((x5).toNatClampNeg) v1) fun h8 =>
  if (kR h8 v0 45) < 999999 then if kkind (kR h8 v0 45) = 20 then if ((x5 + (1 : Int32)) < 0 ∨ klen (kR h8 v0 45) ≤ ((x5 + (1 : Int32))).toNatClampNeg) then none else kl (ksI h8 (kR h8 v0 45) (((x5 + (1 : Int32))).toNatClampNeg) v4) fun h14 =>
  if (kR h14 v0 45) < 999999 then kb (f_X12_bits h14 v2) fun r18 =>
  if kkind (kR h14 v0 45) = 20 then if ((x5 + (2 : Int32)) < 0 ∨ klen (kR h14 v0 45) ≤ ((x5 + (2 : Int32))).toNatClampNeg) then none else kl (ksI h14 (kR h14 v0 45) (((x5 + (2 : Int32))).toNatClampNeg) r18) fun h23 =>
  if (kR h23 v0 45) < 999999 then if kkind (kR h23 v0 45) = 20 then if ((x5 + (3 : Int32)) < 0 ∨ klen (kR h23 v0 45) ≤ ((x5 + (3 : Int32))).toNatClampNeg) then none else kl (ksI h23 (kR h23 v0 45) (((x5 + (3 : Int32))).toNatClampNeg) v3) fun h29 =>
  kb (f_X12_begins h29 v0) fun r32 =>
  some r32 else none else none else none else none else none else none else none else none else none
set_option maxHeartbeats 4000000 in
set_option maxRecDepth 100000 in
theorem s_X12_isJudged_b147 {Z : Nat → (Nat → Nat) → State → Prop} (h : KH) (v0 : Nat) (v1 : Int32) (v2 : Int32) (v3 : Int32) (v4 : Int32) {t : KH} (hn : h.1 = 243) (H : f_X12_isJudged_b147 h v0 v1 v2 v3 v4 = some t) : KX Z RX12 cX12_isJudged 6 false 3 (KRv cX12_isJudged t) 147 [(0, .ref v0), (1, .int v1), (2, .int v2), (3, .int v3), (4, .int v4)] [] h := by
  unfold f_X12_isJudged_b147 at H
  refine x_bipush (q := 149) (v := (25 : Int32)) dX12_isJudged_147 rfl (by decide) ?_
  refine x_iconst (q := 150) (v := (4 : Int32)) dX12_isJudged_149 rfl (by decide) ?_
  refine x_aload_n (q := 151) dX12_isJudged_150 rfl rfl ?_
  replace H := kif H; obtain ⟨g1, H⟩ := H
  replace H := kif H; obtain ⟨g2, H⟩ := H
  refine x_getR (q := 154) dX12_isJudged_151 rfl kl_RX12_115 rfl (k243 g1 (by decide) hn) g2 ?_
  refine x_bipush (q := 156) (v := (24 : Int32)) dX12_isJudged_154 rfl (by decide) ?_
  replace H := kif H; obtain ⟨g3, H⟩ := H
  replace H := kifn H; obtain ⟨g4, H⟩ := H
  refine x_iald (q := 157) dX12_isJudged_156 rfl (k243 g3 (by decide) hn) (fun z => z.elim (by decide) g4) ?_
  refine x_imul (q := 158) dX12_isJudged_157 rfl ?_
  refine x_iadd (q := 159) dX12_isJudged_158 rfl ?_
  refine x_iconst (q := 160) (v := (4 : Int32)) dX12_isJudged_159 rfl (by decide) ?_
  refine x_isub (q := 161) dX12_isJudged_160 rfl ?_
  replace H := kle H; obtain ⟨x5, q6, H⟩ := H
  refine x_nmI q6 ?_
  refine x_istore (q := 163) (i := 5) (ls2 := [(5, .int x5), (0, .ref v0), (1, .int v1), (2, .int v2), (3, .int v3), (4, .int v4)]) dX12_isJudged_161 rfl (by decide) rfl ?_
  refine x_aload_n (q := 164) dX12_isJudged_163 rfl rfl ?_
  refine x_getR (q := 167) dX12_isJudged_164 rfl kl_RX12_115 rfl (k243 g1 (by decide) hn) g2 ?_
  refine x_iload (q := 169) dX12_isJudged_167 rfl rfl ?_
  refine x_iload_n (q := 170) dX12_isJudged_169 rfl rfl ?_
  replace H := kifn H; obtain ⟨g7, H⟩ := H
  replace H := kle H; obtain ⟨h8, q9, H⟩ := H
  refine x_iast (q := 171) dX12_isJudged_170 rfl (k243 g3 (by decide) hn) g7 ?_
  refine x_nmH q9 ?_
  have n10 : h8.1 = 243 := by rw [q9]; exact hn
  refine x_aload_n (q := 172) dX12_isJudged_171 rfl rfl ?_
  replace H := kif H; obtain ⟨g11, H⟩ := H
  refine x_getR (q := 175) dX12_isJudged_172 rfl kl_RX12_115 rfl (k243 g1 (by decide) n10) g11 ?_
  refine x_iload (q := 177) dX12_isJudged_175 rfl rfl ?_
  refine x_iconst (q := 178) (v := (1 : Int32)) dX12_isJudged_177 rfl (by decide) ?_
  refine x_iadd (q := 179) dX12_isJudged_178 rfl ?_
  refine x_iload (q := 181) dX12_isJudged_179 rfl rfl ?_
  replace H := kif H; obtain ⟨g12, H⟩ := H
  replace H := kifn H; obtain ⟨g13, H⟩ := H
  replace H := kle H; obtain ⟨h14, q15, H⟩ := H
  refine x_iast (q := 182) dX12_isJudged_181 rfl (k243 g12 (by decide) n10) g13 ?_
  refine x_nmH q15 ?_
  have n16 : h14.1 = 243 := by rw [q15]; exact n10
  refine x_aload_n (q := 183) dX12_isJudged_182 rfl rfl ?_
  replace H := kif H; obtain ⟨g17, H⟩ := H
  refine x_getR (q := 186) dX12_isJudged_183 rfl kl_RX12_115 rfl (k243 g1 (by decide) n16) g17 ?_
  refine x_iload (q := 188) dX12_isJudged_186 rfl rfl ?_
  refine x_iconst (q := 189) (v := (2 : Int32)) dX12_isJudged_188 rfl (by decide) ?_
  refine x_iadd (q := 190) dX12_isJudged_189 rfl ?_
  refine x_iload_n (q := 191) dX12_isJudged_190 rfl rfl ?_
  replace H := kbe H; obtain ⟨r18, c19, H⟩ := H
  have m20 := s_X12_bits (Z := Z) h14 v2 n16 c19
  refine x_callS (q := 194) (as := [.int v2]) (rest := [.int (x5 + (2 : Int32)), .ref (kR h14 v0 45)]) dX12_isJudged_191 rfl kc_RX12_452 kh_X12_bits (by decide) (Nat.le_of_ble_eq_true rfl) m20 ?_
  replace H := kif H; obtain ⟨g21, H⟩ := H
  replace H := kifn H; obtain ⟨g22, H⟩ := H
  replace H := kle H; obtain ⟨h23, q24, H⟩ := H
  refine x_iast (q := 195) dX12_isJudged_194 rfl (k243 g21 (by decide) n16) g22 ?_
  refine x_nmH q24 ?_
  have n25 : h23.1 = 243 := by rw [q24]; exact n16
  refine x_aload_n (q := 196) dX12_isJudged_195 rfl rfl ?_
  replace H := kif H; obtain ⟨g26, H⟩ := H
  refine x_getR (q := 199) dX12_isJudged_196 rfl kl_RX12_115 rfl (k243 g1 (by decide) n25) g26 ?_
  refine x_iload (q := 201) dX12_isJudged_199 rfl rfl ?_
  refine x_iconst (q := 202) (v := (3 : Int32)) dX12_isJudged_201 rfl (by decide) ?_
  refine x_iadd (q := 203) dX12_isJudged_202 rfl ?_
  refine x_iload_n (q := 204) dX12_isJudged_203 rfl rfl ?_
  replace H := kif H; obtain ⟨g27, H⟩ := H
  replace H := kifn H; obtain ⟨g28, H⟩ := H
  replace H := kle H; obtain ⟨h29, q30, H⟩ := H
  refine x_iast (q := 205) dX12_isJudged_204 rfl (k243 g27 (by decide) n25) g28 ?_
  refine x_nmH q30 ?_
  have n31 : h29.1 = 243 := by rw [q30]; exact n25
  refine x_aload_n (q := 206) dX12_isJudged_205 rfl rfl ?_
  replace H := kbe H; obtain ⟨r32, c33, H⟩ := H
  have m34 := s_X12_begins (Z := Z) h29 v0 n31 c33
  refine x_callV (q := 209) (as := []) (rest := []) dX12_isJudged_206 rfl kc_RX12_500 kh_X12_begins (by decide) (Nat.le_of_ble_eq_true rfl) m34 (ci := 12) (by exact ⟨rfl, by decide⟩) (k243 g1 (by decide) n31) ?_
  have n35 : (r32).1 = 243 := m34.1.full n31
  cases H
  exact x_end ⟨dX12_isJudged_209, rfl, rfl⟩
def E_X12_isJudged_l103 (v0 : Nat) (v1 : Int32) (v2 : Int32) (v3 : Int32) (v4 : Int32) : KH → Nat → List (Nat × Value) → List Value → KH → Prop := fun (e : KH) pc ls st hh => pc = 133 ∧ ls = [(0, .ref v0), (1, .int v1), (2, .int v2), (3, .int v3), (4, .int v4)] ∧ st = [] ∧ e = hh
def B_X12_isJudged_l103 (v0 : Nat) (v1 : Int32) (v2 : Int32) (v3 : Int32) (v4 : Int32) : ((Int32 × KH) ⊕ (KH)) → Nat → List (Nat × Value) → List Value → KH → Prop := Sum.elim (fun (s : Int32 × KH) pc ls st hh => pc = 103 ∧ ls = [(0, .ref v0), (1, .int v1), (2, .int v2), (3, .int v3), (4, .int v4), (5, .int s.1)] ∧ st = [] ∧ hh = s.2) (E_X12_isJudged_l103 v0 v1 v2 v3 v4)
def f_X12_isJudged_l103 (v0 : Nat) (v1 : Int32) (v2 : Int32) (v3 : Int32) (v4 : Int32) (s : Int32 × KH) : Option ((Int32 × KH) ⊕ (KH)) :=
  if (181 : Int32) ≤ s.1 then
  some (.inr s.2)
  else
  if kkind v0 = 12 then if (kR s.2 v0 45) < 999999 then if kkind (kR s.2 v0 45) = 20 then if ((s.1 + (4 : Int32)) < 0 ∨ klen (kR s.2 v0 45) ≤ ((s.1 + (4 : Int32))).toNatClampNeg) then none else if (s.1 < 0 ∨ klen (kR s.2 v0 45) ≤ (s.1).toNatClampNeg) then none else kl (ksI s.2 (kR s.2 v0 45) ((s.1).toNatClampNeg) (kI s.2 (kR s.2 v0 45) (((s.1 + (4 : Int32))).toNatClampNeg))) fun h7 =>
  kl (s.1 + (1 : Int32)) fun x10 =>
  some (.inl (x10, h7)) else none else none else none
set_option maxHeartbeats 4000000 in
set_option maxRecDepth 100000 in
theorem s_X12_isJudged_l103 {Z : Nat → (Nat → Nat) → State → Prop} (v0 : Nat) (v1 : Int32) (v2 : Int32) (v3 : Int32) (v4 : Int32) (s : Int32 × KH) (t : (Int32 × KH) ⊕ (KH)) (hn : (s.2).1 = 243) (H : f_X12_isJudged_l103 v0 v1 v2 v3 v4 s = some t) : KX Z RX12 cX12_isJudged 6 false 3 (B_X12_isJudged_l103 v0 v1 v2 v3 v4 t) 103 [(0, .ref v0), (1, .int v1), (2, .int v2), (3, .int v3), (4, .int v4), (5, .int s.1)] [] s.2 := by
  unfold f_X12_isJudged_l103 at H
  refine x_iload (q := 105) dX12_isJudged_103 rfl rfl ?_
  refine x_sipush (q := 108) (v := (181 : Int32)) dX12_isJudged_105 rfl (by decide) ?_
  replace H := kite H; rcases H with ⟨g1, H⟩ | ⟨g1, H⟩
  · refine x_icmp_ge_t dX12_isJudged_108 (q := 133) (by decide) g1 ?_
    cases H
    refine x_sub (ls2 := [(0, .ref v0), (1, .int v1), (2, .int v2), (3, .int v3), (4, .int v4)]) [0, 1, 2, 3, 4] rfl ?_
    exact x_end (x_cfg rfl)
  · refine x_icmp_ge_f (q := 111) dX12_isJudged_108 (t := 133) (by decide) rfl g1 ?_
    refine x_aload_n (q := 112) dX12_isJudged_111 rfl rfl ?_
    replace H := kif H; obtain ⟨g2, H⟩ := H
    replace H := kif H; obtain ⟨g3, H⟩ := H
    refine x_getR (q := 115) dX12_isJudged_112 rfl kl_RX12_115 rfl (k243 g2 (by decide) hn) g3 ?_
    refine x_iload (q := 117) dX12_isJudged_115 rfl rfl ?_
    refine x_aload_n (q := 118) dX12_isJudged_117 rfl rfl ?_
    refine x_getR (q := 121) dX12_isJudged_118 rfl kl_RX12_115 rfl (k243 g2 (by decide) hn) g3 ?_
    refine x_iload (q := 123) dX12_isJudged_121 rfl rfl ?_
    refine x_iconst (q := 124) (v := (4 : Int32)) dX12_isJudged_123 rfl (by decide) ?_
    refine x_iadd (q := 125) dX12_isJudged_124 rfl ?_
    replace H := kif H; obtain ⟨g4, H⟩ := H
    replace H := kifn H; obtain ⟨g5, H⟩ := H
    refine x_iald (q := 126) dX12_isJudged_125 rfl (k243 g4 (by decide) hn) g5 ?_
    replace H := kifn H; obtain ⟨g6, H⟩ := H
    replace H := kle H; obtain ⟨h7, q8, H⟩ := H
    refine x_iast (q := 127) dX12_isJudged_126 rfl (k243 g4 (by decide) hn) g6 ?_
    refine x_nmH q8 ?_
    have n9 : h7.1 = 243 := by rw [q8]; exact hn
    replace H := kle H; obtain ⟨x10, q11, H⟩ := H
    refine x_iinc (q := 130) (i := 5) (ls2 := [(5, .int x10), (0, .ref v0), (1, .int v1), (2, .int v2), (3, .int v3), (4, .int v4)]) dX12_isJudged_127 rfl rfl (by decide) (by rw [q11]; rfl) ?_
    refine x_goto dX12_isJudged_130 (q := 103) (by decide) ?_
    cases H
    refine x_sub (ls2 := [(0, .ref v0), (1, .int v1), (2, .int v2), (3, .int v3), (4, .int v4), (5, .int x10)]) [1, 2, 3, 4, 5, 0] rfl ?_
    exact x_end (x_cfg rfl)
theorem sl_X12_isJudged_l103 {Z : Nat → (Nat → Nat) → State → Prop} (v0 : Nat) (v1 : Int32) (v2 : Int32) (v3 : Int32) (v4 : Int32) (n : Nat) (s : Int32 × KH) (r : KH) (hn : (s.2).1 = 243) (H : kloop (f_X12_isJudged_l103 v0 v1 v2 v3 v4) n s = some r) : KX Z RX12 cX12_isJudged 6 false 3 (E_X12_isJudged_l103 v0 v1 v2 v3 v4 r) 103 [(0, .ref v0), (1, .int v1), (2, .int v2), (3, .int v3), (4, .int v4), (5, .int s.1)] [] s.2 :=
  k_loop (ls := (fun (s : Int32 × KH) => ([(0, .ref v0), (1, .int v1), (2, .int v2), (3, .int v3), (4, .int v4), (5, .int s.1)] : List (Nat × Value)))) (hp := (fun (s : Int32 × KH) => (s.2 : KH))) (G := E_X12_isJudged_l103 v0 v1 v2 v3 v4) (fun s t hn H => s_X12_isJudged_l103 v0 v1 v2 v3 v4 s t hn H) n s r hn H
def f_X12_isJudged_b86 (h : KH) (v0 : Nat) (v1 : Int32) (v2 : Int32) (v3 : Int32) (v4 : Int32) (w0 : Nat) (w1 : Int32) (w2 : Int32) : Option (KH) :=
  if kkind w0 = 20 then if (w1 < 0 ∨ klen w0 ≤ (w1).toNatClampNeg) then none else kl (ksI h w0 ((w1).toNatClampNeg) w2) fun h3 =>
  if kkind v0 = 12 then if (kR h3 v0 45) < 999999 then if kkind (kR h3 v0 45) = 20 then if klen (kR h3 v0 45) ≤ 24 then none else if (kI h3 (kR h3 v0 45) 24) = (40 : Int32) then
  kb (kloop (f_X12_isJudged_l103 v0 v1 v2 v3 v4) KF ((25 : Int32), h3)) fun e14 =>
  f_X12_isJudged_b147 e14 v0 v1 v2 v3 v4
  else
  kl (ksI h3 (kR h3 v0 45) 24 ((kI h3 (kR h3 v0 45) 24) + (1 : Int32))) fun h11 =>
  f_X12_isJudged_b147 h11 v0 v1 v2 v3 v4 else none else none else none else none
set_option maxHeartbeats 4000000 in
set_option maxRecDepth 100000 in
theorem s_X12_isJudged_b86 {Z : Nat → (Nat → Nat) → State → Prop} (h : KH) (v0 : Nat) (v1 : Int32) (v2 : Int32) (v3 : Int32) (v4 : Int32) (w0 : Nat) (w1 : Int32) (w2 : Int32) {t : KH} (hn : h.1 = 243) (H : f_X12_isJudged_b86 h v0 v1 v2 v3 v4 w0 w1 w2 = some t) : KX Z RX12 cX12_isJudged 6 false 3 (KRv cX12_isJudged t) 86 [(0, .ref v0), (1, .int v1), (2, .int v2), (3, .int v3), (4, .int v4)] [.int w2, .int w1, .ref w0] h := by
  unfold f_X12_isJudged_b86 at H
  replace H := kif H; obtain ⟨g1, H⟩ := H
  replace H := kifn H; obtain ⟨g2, H⟩ := H
  replace H := kle H; obtain ⟨h3, q4, H⟩ := H
  refine x_iast (q := 87) dX12_isJudged_86 rfl (k243 g1 (by decide) hn) g2 ?_
  refine x_nmH q4 ?_
  have n5 : h3.1 = 243 := by rw [q4]; exact hn
  refine x_aload_n (q := 88) dX12_isJudged_87 rfl rfl ?_
  replace H := kif H; obtain ⟨g6, H⟩ := H
  replace H := kif H; obtain ⟨g7, H⟩ := H
  refine x_getR (q := 91) dX12_isJudged_88 rfl kl_RX12_115 rfl (k243 g6 (by decide) n5) g7 ?_
  refine x_bipush (q := 93) (v := (24 : Int32)) dX12_isJudged_91 rfl (by decide) ?_
  replace H := kif H; obtain ⟨g8, H⟩ := H
  replace H := kifn H; obtain ⟨g9, H⟩ := H
  refine x_iald (q := 94) dX12_isJudged_93 rfl (k243 g8 (by decide) n5) (fun z => z.elim (by decide) g9) ?_
  refine x_bipush (q := 96) (v := (40 : Int32)) dX12_isJudged_94 rfl (by decide) ?_
  replace H := kite H; rcases H with ⟨g10, H⟩ | ⟨g10, H⟩
  · refine x_icmp_ne_f (q := 99) dX12_isJudged_96 (t := 136) (by decide) rfl g10 ?_
    refine x_bipush (q := 101) (v := (25 : Int32)) dX12_isJudged_99 rfl (by decide) ?_
    refine x_istore (q := 103) (i := 5) (ls2 := [(5, .int (25 : Int32)), (0, .ref v0), (1, .int v1), (2, .int v2), (3, .int v3), (4, .int v4)]) dX12_isJudged_101 rfl (by decide) rfl ?_
    refine x_sub (ls2 := [(0, .ref v0), (1, .int v1), (2, .int v2), (3, .int v3), (4, .int v4), (5, .int (25 : Int32))]) [1, 2, 3, 4, 5, 0] rfl ?_
    replace H := kbe H; obtain ⟨e14, c15, H⟩ := H
    refine x_app (sl_X12_isJudged_l103 v0 v1 v2 v3 v4 KF ((25 : Int32), h3) e14 n5 c15) fun pc2 ls2 st2 h2 hg m16 => ?_
    obtain ⟨rfl, rfl, rfl, rfl⟩ := hg
    refine x_goto dX12_isJudged_133 (q := 147) (by decide) ?_
    refine x_sub (ls2 := [(0, .ref v0), (1, .int v1), (2, .int v2), (3, .int v3), (4, .int v4)]) [0, 1, 2, 3, 4] rfl ?_
    exact s_X12_isJudged_b147 e14 v0 v1 v2 v3 v4 (m16.full n5) H
  · refine x_icmp_ne_t dX12_isJudged_96 (q := 136) (by decide) g10 ?_
    refine x_aload_n (q := 137) dX12_isJudged_136 rfl rfl ?_
    refine x_getR (q := 140) dX12_isJudged_137 rfl kl_RX12_115 rfl (k243 g6 (by decide) n5) g7 ?_
    refine x_bipush (q := 142) (v := (24 : Int32)) dX12_isJudged_140 rfl (by decide) ?_
    refine x_dup2 (q := 143) dX12_isJudged_142 rfl ⟨rfl, rfl⟩ ?_
    refine x_iald (q := 144) dX12_isJudged_143 rfl (k243 g8 (by decide) n5) (fun z => z.elim (by decide) g9) ?_
    refine x_iconst (q := 145) (v := (1 : Int32)) dX12_isJudged_144 rfl (by decide) ?_
    refine x_iadd (q := 146) dX12_isJudged_145 rfl ?_
    replace H := kle H; obtain ⟨h11, q12, H⟩ := H
    refine x_iast (q := 147) dX12_isJudged_146 rfl (k243 g8 (by decide) n5) (fun z => z.elim (by decide) g9) ?_
    refine x_nmH q12 ?_
    have n13 : h11.1 = 243 := by rw [q12]; exact n5
    refine x_sub (ls2 := [(0, .ref v0), (1, .int v1), (2, .int v2), (3, .int v3), (4, .int v4)]) [0, 1, 2, 3, 4] rfl ?_
    exact s_X12_isJudged_b147 h11 v0 v1 v2 v3 v4 n13 H
def f_X12_isJudged (h : KH) (v0 : Nat) (v1 : Int32) (v2 : Int32) (v3 : Int32) : Option (KH) :=
  if kkind v0 = 12 then kb (f_X12_harmOf h v0 v2) fun r2 =>
  kb (kloop (f_X12_isJudged_l10 v0 v1 v2 v3 r2) KF ((0 : Int32), h)) fun e5 =>
  if (kR e5 v0 45) < 999999 then if kkind (kR e5 v0 45) = 20 then if klen (kR e5 v0 45) ≤ 0 then none else kl (ksI e5 (kR e5 v0 45) 0 ((kI e5 (kR e5 v0 45) 0) + (1 : Int32))) fun h11 =>
  if (kR h11 v0 45) < 999999 then if kkind (kR h11 v0 45) = 20 then if klen (kR h11 v0 45) ≤ 1 then none else if ((kI h11 (kR h11 v0 45) 1) + r2) ≤ (9999 : Int32) then
  f_X12_isJudged_b86 h11 v0 v1 v2 v3 r2 (kR h11 v0 45) (1 : Int32) ((kI h11 (kR h11 v0 45) 1) + r2)
  else
  f_X12_isJudged_b86 h11 v0 v1 v2 v3 r2 (kR h11 v0 45) (1 : Int32) (9999 : Int32) else none else none else none else none else none
set_option maxHeartbeats 4000000 in
set_option maxRecDepth 100000 in
theorem s0_X12_isJudged {Z : Nat → (Nat → Nat) → State → Prop} (h : KH) (v0 : Nat) (v1 : Int32) (v2 : Int32) (v3 : Int32) {t : KH} (hn : h.1 = 243) (H : f_X12_isJudged h v0 v1 v2 v3 = some t) : KX Z RX12 cX12_isJudged 6 false 3 (KRv cX12_isJudged t) 0 [(0, .ref v0), (1, .int v1), (2, .int v2), (3, .int v3)] [] h := by
  unfold f_X12_isJudged at H
  refine x_aload_n (q := 1) dX12_isJudged_0 rfl rfl ?_
  refine x_iload_n (q := 2) dX12_isJudged_1 rfl rfl ?_
  replace H := kif H; obtain ⟨g1, H⟩ := H
  replace H := kbe H; obtain ⟨r2, c3, H⟩ := H
  have m4 := s_X12_harmOf (Z := Z) h v0 v2 hn c3
  refine x_callV (q := 5) (as := [.int v2]) (rest := []) dX12_isJudged_2 rfl kc_RX12_446 kh_X12_harmOf (by decide) (Nat.le_of_ble_eq_true rfl) m4 (ci := 12) (by exact ⟨rfl, by decide⟩) (k243 g1 (by decide) hn) ?_
  refine x_istore (q := 7) (i := 4) (ls2 := [(4, .int r2), (0, .ref v0), (1, .int v1), (2, .int v2), (3, .int v3)]) dX12_isJudged_5 rfl (by decide) rfl ?_
  refine x_iconst (q := 8) (v := (0 : Int32)) dX12_isJudged_7 rfl (by decide) ?_
  refine x_istore (q := 10) (i := 5) (ls2 := [(5, .int (0 : Int32)), (4, .int r2), (0, .ref v0), (1, .int v1), (2, .int v2), (3, .int v3)]) dX12_isJudged_8 rfl (by decide) rfl ?_
  refine x_sub (ls2 := [(0, .ref v0), (1, .int v1), (2, .int v2), (3, .int v3), (4, .int r2), (5, .int (0 : Int32))]) [2, 3, 4, 5, 1, 0] rfl ?_
  replace H := kbe H; obtain ⟨e5, c6, H⟩ := H
  refine x_app (sl_X12_isJudged_l10 v0 v1 v2 v3 r2 KF ((0 : Int32), h) e5 hn c6) fun pc2 ls2 st2 h2 hg m7 => ?_
  obtain ⟨rfl, rfl, rfl, rfl⟩ := hg
  refine x_aload_n (q := 42) dX12_isJudged_41 rfl rfl ?_
  replace H := kif H; obtain ⟨g8, H⟩ := H
  refine x_getR (q := 45) dX12_isJudged_42 rfl kl_RX12_115 rfl (k243 g1 (by decide) (m7.full hn)) g8 ?_
  refine x_iconst (q := 46) (v := (0 : Int32)) dX12_isJudged_45 rfl (by decide) ?_
  refine x_dup2 (q := 47) dX12_isJudged_46 rfl ⟨rfl, rfl⟩ ?_
  replace H := kif H; obtain ⟨g9, H⟩ := H
  replace H := kifn H; obtain ⟨g10, H⟩ := H
  refine x_iald (q := 48) dX12_isJudged_47 rfl (k243 g9 (by decide) (m7.full hn)) (fun z => z.elim (by decide) g10) ?_
  refine x_iconst (q := 49) (v := (1 : Int32)) dX12_isJudged_48 rfl (by decide) ?_
  refine x_iadd (q := 50) dX12_isJudged_49 rfl ?_
  replace H := kle H; obtain ⟨h11, q12, H⟩ := H
  refine x_iast (q := 51) dX12_isJudged_50 rfl (k243 g9 (by decide) (m7.full hn)) (fun z => z.elim (by decide) g10) ?_
  refine x_nmH q12 ?_
  have n13 : h11.1 = 243 := by rw [q12]; exact (m7.full hn)
  refine x_aload_n (q := 52) dX12_isJudged_51 rfl rfl ?_
  replace H := kif H; obtain ⟨g14, H⟩ := H
  refine x_getR (q := 55) dX12_isJudged_52 rfl kl_RX12_115 rfl (k243 g1 (by decide) n13) g14 ?_
  refine x_iconst (q := 56) (v := (1 : Int32)) dX12_isJudged_55 rfl (by decide) ?_
  refine x_aload_n (q := 57) dX12_isJudged_56 rfl rfl ?_
  refine x_getR (q := 60) dX12_isJudged_57 rfl kl_RX12_115 rfl (k243 g1 (by decide) n13) g14 ?_
  refine x_iconst (q := 61) (v := (1 : Int32)) dX12_isJudged_60 rfl (by decide) ?_
  replace H := kif H; obtain ⟨g15, H⟩ := H
  replace H := kifn H; obtain ⟨g16, H⟩ := H
  refine x_iald (q := 62) dX12_isJudged_61 rfl (k243 g15 (by decide) n13) (fun z => z.elim (by decide) g16) ?_
  refine x_iload (q := 64) dX12_isJudged_62 rfl rfl ?_
  refine x_iadd (q := 65) dX12_isJudged_64 rfl ?_
  refine x_sipush (q := 68) (v := (9999 : Int32)) dX12_isJudged_65 rfl (by decide) ?_
  replace H := kite H; rcases H with ⟨g17, H⟩ | ⟨g17, H⟩
  · refine x_icmp_le_t dX12_isJudged_68 (q := 77) (by decide) g17 ?_
    refine x_aload_n (q := 78) dX12_isJudged_77 rfl rfl ?_
    refine x_getR (q := 81) dX12_isJudged_78 rfl kl_RX12_115 rfl (k243 g1 (by decide) n13) g14 ?_
    refine x_iconst (q := 82) (v := (1 : Int32)) dX12_isJudged_81 rfl (by decide) ?_
    refine x_iald (q := 83) dX12_isJudged_82 rfl (k243 g15 (by decide) n13) (fun z => z.elim (by decide) g16) ?_
    refine x_iload (q := 85) dX12_isJudged_83 rfl rfl ?_
    refine x_iadd (q := 86) dX12_isJudged_85 rfl ?_
    refine x_sub (ls2 := [(0, .ref v0), (1, .int v1), (2, .int v2), (3, .int v3), (4, .int r2)]) [0, 1, 2, 3, 4] rfl ?_
    exact s_X12_isJudged_b86 h11 v0 v1 v2 v3 r2 (kR h11 v0 45) (1 : Int32) ((kI h11 (kR h11 v0 45) 1) + r2) n13 H
  · refine x_icmp_le_f (q := 71) dX12_isJudged_68 (t := 77) (by decide) rfl g17 ?_
    refine x_sipush (q := 74) (v := (9999 : Int32)) dX12_isJudged_71 rfl (by decide) ?_
    refine x_goto dX12_isJudged_74 (q := 86) (by decide) ?_
    refine x_sub (ls2 := [(0, .ref v0), (1, .int v1), (2, .int v2), (3, .int v3), (4, .int r2)]) [0, 1, 2, 3, 4] rfl ?_
    exact s_X12_isJudged_b86 h11 v0 v1 v2 v3 r2 (kR h11 v0 45) (1 : Int32) (9999 : Int32) n13 H
theorem s_X12_isJudged {Z : Nat → (Nat → Nat) → State → Prop} (h : KH) (v0 : Nat) (v1 : Int32) (v2 : Int32) (v3 : Int32) {t : KH} (hn : h.1 = 243) (H : f_X12_isJudged h v0 v1 v2 v3 = some t) : KM Z yX12_isJudged cX12_isJudged 6 none 3 [.ref v0, .int v1, .int v2, .int v3] h none t :=
  kx_v (own := RX12) (ini := false) (by decide +kernel) (by decide +kernel) rfl (Nat.le_of_ble_eq_true rfl) (s0_X12_isJudged h v0 v1 v2 v3 hn H)
theorem dX12_judge_0 : decode cX12_judge 0 = .ok (.iload_n 1, 1) := by decide +kernel
theorem dX12_judge_1 : decode cX12_judge 1 = .ok (.i2l, 1) := by decide +kernel
theorem dX12_judge_2 : decode cX12_judge 2 = .ok (.lconst 0, 1) := by decide +kernel
theorem dX12_judge_3 : decode cX12_judge 3 = .ok (.lconst 1, 1) := by decide +kernel
theorem dX12_judge_4 : decode cX12_judge 4 = .ok (.invokestatic 270, 3) := by decide +kernel
theorem dX12_judge_7 : decode cX12_judge 7 = .ok (.ifCond .eq 15, 3) := by decide +kernel
theorem dX12_judge_10 : decode cX12_judge 10 = .ok (.aload_n 0, 1) := by decide +kernel
theorem dX12_judge_11 : decode cX12_judge 11 = .ok (.getfield 115, 3) := by decide +kernel
theorem dX12_judge_14 : decode cX12_judge 14 = .ok (.iconst 0, 1) := by decide +kernel
theorem dX12_judge_15 : decode cX12_judge 15 = .ok (.iaload, 1) := by decide +kernel
theorem dX12_judge_16 : decode cX12_judge 16 = .ok (.sipush 9999, 3) := by decide +kernel
theorem dX12_judge_19 : decode cX12_judge 19 = .ok (.if_icmp .ne 9, 3) := by decide +kernel
theorem dX12_judge_22 : decode cX12_judge 22 = .ok (.aload_n 0, 1) := by decide +kernel
theorem dX12_judge_23 : decode cX12_judge 23 = .ok (.iconst 2, 1) := by decide +kernel
theorem dX12_judge_24 : decode cX12_judge 24 = .ok (.invokevirtual 508, 3) := by decide +kernel
theorem dX12_judge_27 : decode cX12_judge 27 = .ok (.ireturn, 1) := by decide +kernel
theorem dX12_judge_28 : decode cX12_judge 28 = .ok (.aload_n 0, 1) := by decide +kernel
theorem dX12_judge_29 : decode cX12_judge 29 = .ok (.invokevirtual 520, 3) := by decide +kernel
theorem dX12_judge_32 : decode cX12_judge 32 = .ok (.aload_n 0, 1) := by decide +kernel
theorem dX12_judge_33 : decode cX12_judge 33 = .ok (.iload_n 1, 1) := by decide +kernel
theorem dX12_judge_34 : decode cX12_judge 34 = .ok (.aload_n 0, 1) := by decide +kernel
theorem dX12_judge_35 : decode cX12_judge 35 = .ok (.invokevirtual 482, 3) := by decide +kernel
theorem dX12_judge_38 : decode cX12_judge 38 = .ok (.aload_n 0, 1) := by decide +kernel
theorem dX12_judge_39 : decode cX12_judge 39 = .ok (.invokevirtual 455, 3) := by decide +kernel
theorem dX12_judge_42 : decode cX12_judge 42 = .ok (.iconst (-1), 1) := by decide +kernel
theorem dX12_judge_43 : decode cX12_judge 43 = .ok (.ixor, 1) := by decide +kernel
theorem dX12_judge_44 : decode cX12_judge 44 = .ok (.iand, 1) := by decide +kernel
theorem dX12_judge_45 : decode cX12_judge 45 = .ok (.iconst 2, 1) := by decide +kernel
theorem dX12_judge_46 : decode cX12_judge 46 = .ok (.invokevirtual 523, 3) := by decide +kernel
theorem dX12_judge_49 : decode cX12_judge 49 = .ok (.aload_n 0, 1) := by decide +kernel
theorem dX12_judge_50 : decode cX12_judge 50 = .ok (.getfield 115, 3) := by decide +kernel
theorem dX12_judge_53 : decode cX12_judge 53 = .ok (.iconst 0, 1) := by decide +kernel
theorem dX12_judge_54 : decode cX12_judge 54 = .ok (.iaload, 1) := by decide +kernel
theorem dX12_judge_55 : decode cX12_judge 55 = .ok (.ireturn, 1) := by decide +kernel
theorem kc_RX12_523 : Cond.methodLink RX12 523 yX12_isJudged ∈ ktG ∧ (Cond.instanceMethod yX12_isJudged ∈ ktG ∧ Cond.selects yX12_isJudged.cls yX12_isJudged yX12_isJudged ∈ ktG) ∧ Cond.initialized yX12_isJudged.cls ∈ ktG ∧ Cond.code yX12_isJudged cX12_isJudged 6 none ∈ ktG := ⟨(kwm 1931 (by decide +kernel) (by decide +kernel)), ⟨(kwm 1933 (by decide +kernel) (by decide +kernel)), (kwm 109 (by decide +kernel) (by decide +kernel))⟩, (kwm 139 (by decide +kernel) (by decide +kernel)), kwm 1934 (by decide +kernel) (by decide +kernel)⟩
theorem kh_X12_isJudged : yX12_isJudged.cls ≠ "java/lang/invoke/MethodHandle" ∧ yX12_isJudged.cls ≠ "java/lang/invoke/VarHandle" ∧ (parseMethodDescriptor yX12_isJudged.desc).map (fun d => d.parameters.length) = some 3 := by decide +kernel
def f_X12_judge_b22 (h : KH) (v0 : Nat) : Option (Int32 × KH) :=
  if kkind v0 = 12 then kb (f_X12_refuses h v0 (2 : Int32)) fun r2 =>
  some (r2.1, r2.2) else none
set_option maxHeartbeats 4000000 in
set_option maxRecDepth 100000 in
theorem s_X12_judge_b22 {Z : Nat → (Nat → Nat) → State → Prop} (h : KH) (v0 : Nat) {t : Int32 × KH} (hn : h.1 = 243) (H : f_X12_judge_b22 h v0 = some t) : KX Z RX12 cX12_judge 2 false 4 (KRi cX12_judge t.1 t.2) 22 [(0, .ref v0)] [] h := by
  unfold f_X12_judge_b22 at H
  refine x_aload_n (q := 23) dX12_judge_22 rfl rfl ?_
  refine x_iconst (q := 24) (v := (2 : Int32)) dX12_judge_23 rfl (by decide) ?_
  replace H := kif H; obtain ⟨g1, H⟩ := H
  replace H := kbe H; obtain ⟨r2, c3, H⟩ := H
  have m4 := s_X12_refuses (Z := Z) h v0 (2 : Int32) hn c3
  refine x_callV (q := 27) (as := [.int (2 : Int32)]) (rest := []) dX12_judge_24 rfl kc_RX12_508 kh_X12_refuses (by decide) (Nat.le_of_ble_eq_true rfl) m4 (ci := 12) (by exact ⟨rfl, by decide⟩) (k243 g1 (by decide) hn) ?_
  have n5 : (r2.2).1 = 243 := m4.1.full hn
  cases H
  exact x_end ⟨dX12_judge_27, rfl, rfl⟩
def f_X12_judge (h : KH) (v0 : Nat) (v1 : Int32) : Option (Int32 × KH) :=
  kb (f_X12_isIn h ((v1).toInt64) (0 : Int64) (1 : Int64)) fun r1 =>
  if r1 = 0 then
  f_X12_judge_b22 h v0
  else
  if kkind v0 = 12 then if (kR h v0 45) < 999999 then if kkind (kR h v0 45) = 20 then if klen (kR h v0 45) ≤ 0 then none else if (kI h (kR h v0 45) 0) = (9999 : Int32) then
  f_X12_judge_b22 h v0
  else
  kb (f_X12_keeps h v0) fun r10 =>
  kb (f_X12_allTests r10 v0) fun r14 =>
  kb (f_X12_freeTests r10 v0) fun r17 =>
  kb (f_X12_isJudged r10 v0 v1 (r14 &&& (r17 ^^^ (-1 : Int32))) (2 : Int32)) fun r20 =>
  if (kR r20 v0 45) < 999999 then if kkind (kR r20 v0 45) = 20 then if klen (kR r20 v0 45) ≤ 0 then none else some ((kI r20 (kR r20 v0 45) 0), r20) else none else none else none else none else none
set_option maxHeartbeats 4000000 in
set_option maxRecDepth 100000 in
theorem s0_X12_judge {Z : Nat → (Nat → Nat) → State → Prop} (h : KH) (v0 : Nat) (v1 : Int32) {t : Int32 × KH} (hn : h.1 = 243) (H : f_X12_judge h v0 v1 = some t) : KX Z RX12 cX12_judge 2 false 4 (KRi cX12_judge t.1 t.2) 0 [(0, .ref v0), (1, .int v1)] [] h := by
  unfold f_X12_judge at H
  refine x_iload_n (q := 1) dX12_judge_0 rfl rfl ?_
  refine x_i2l (q := 2) dX12_judge_1 rfl ?_
  refine x_lconst (q := 3) (v := (0 : Int64)) dX12_judge_2 rfl (by decide) ?_
  refine x_lconst (q := 4) (v := (1 : Int64)) dX12_judge_3 rfl (by decide) ?_
  replace H := kbe H; obtain ⟨r1, c2, H⟩ := H
  have m3 := s_X12_isIn (Z := Z) h ((v1).toInt64) (0 : Int64) (1 : Int64) hn c2
  refine x_callS (q := 7) (as := [.long ((v1).toInt64), .long (0 : Int64), .long (1 : Int64)]) (rest := []) dX12_judge_4 rfl kc_RX12_270 kh_X12_isIn (by decide) (Nat.le_of_ble_eq_true rfl) m3 ?_
  replace H := kite H; rcases H with ⟨g4, H⟩ | ⟨g4, H⟩
  · refine x_if_eq_t dX12_judge_7 (q := 22) (by decide) g4 ?_
    refine x_sub (ls2 := [(0, .ref v0)]) [0] rfl ?_
    exact s_X12_judge_b22 h v0 hn H
  · refine x_if_eq_f (q := 10) dX12_judge_7 (t := 22) (by decide) rfl g4 ?_
    refine x_aload_n (q := 11) dX12_judge_10 rfl rfl ?_
    replace H := kif H; obtain ⟨g5, H⟩ := H
    replace H := kif H; obtain ⟨g6, H⟩ := H
    refine x_getR (q := 14) dX12_judge_11 rfl kl_RX12_115 rfl (k243 g5 (by decide) hn) g6 ?_
    refine x_iconst (q := 15) (v := (0 : Int32)) dX12_judge_14 rfl (by decide) ?_
    replace H := kif H; obtain ⟨g7, H⟩ := H
    replace H := kifn H; obtain ⟨g8, H⟩ := H
    refine x_iald (q := 16) dX12_judge_15 rfl (k243 g7 (by decide) hn) (fun z => z.elim (by decide) g8) ?_
    refine x_sipush (q := 19) (v := (9999 : Int32)) dX12_judge_16 rfl (by decide) ?_
    replace H := kite H; rcases H with ⟨g9, H⟩ | ⟨g9, H⟩
    · refine x_icmp_ne_f (q := 22) dX12_judge_19 (t := 28) (by decide) rfl g9 ?_
      refine x_sub (ls2 := [(0, .ref v0)]) [0] rfl ?_
      exact s_X12_judge_b22 h v0 hn H
    · refine x_icmp_ne_t dX12_judge_19 (q := 28) (by decide) g9 ?_
      refine x_aload_n (q := 29) dX12_judge_28 rfl rfl ?_
      replace H := kbe H; obtain ⟨r10, c11, H⟩ := H
      have m12 := s_X12_keeps (Z := Z) h v0 hn c11
      refine x_callV (q := 32) (as := []) (rest := []) dX12_judge_29 rfl kc_RX12_520 kh_X12_keeps (by decide) (Nat.le_of_ble_eq_true rfl) m12 (ci := 12) (by exact ⟨rfl, by decide⟩) (k243 g5 (by decide) hn) ?_
      have n13 : (r10).1 = 243 := m12.1.full hn
      refine x_aload_n (q := 33) dX12_judge_32 rfl rfl ?_
      refine x_iload_n (q := 34) dX12_judge_33 rfl rfl ?_
      refine x_aload_n (q := 35) dX12_judge_34 rfl rfl ?_
      replace H := kbe H; obtain ⟨r14, c15, H⟩ := H
      have m16 := s_X12_allTests (Z := Z) r10 v0 n13 c15
      refine x_callV (q := 38) (as := []) (rest := [.int v1, .ref v0]) dX12_judge_35 rfl kc_RX12_482 kh_X12_allTests (by decide) (Nat.le_of_ble_eq_true rfl) m16 (ci := 12) (by exact ⟨rfl, by decide⟩) (k243 g5 (by decide) n13) ?_
      refine x_aload_n (q := 39) dX12_judge_38 rfl rfl ?_
      replace H := kbe H; obtain ⟨r17, c18, H⟩ := H
      have m19 := s_X12_freeTests (Z := Z) r10 v0 n13 c18
      refine x_callV (q := 42) (as := []) (rest := [.int r14, .int v1, .ref v0]) dX12_judge_39 rfl kc_RX12_455 kh_X12_freeTests (by decide) (Nat.le_of_ble_eq_true rfl) m19 (ci := 12) (by exact ⟨rfl, by decide⟩) (k243 g5 (by decide) n13) ?_
      refine x_iconst (q := 43) (v := (-1 : Int32)) dX12_judge_42 rfl (by decide) ?_
      refine x_ixor (q := 44) dX12_judge_43 rfl ?_
      refine x_iand (q := 45) dX12_judge_44 rfl ?_
      refine x_iconst (q := 46) (v := (2 : Int32)) dX12_judge_45 rfl (by decide) ?_
      replace H := kbe H; obtain ⟨r20, c21, H⟩ := H
      have m22 := s_X12_isJudged (Z := Z) r10 v0 v1 (r14 &&& (r17 ^^^ (-1 : Int32))) (2 : Int32) n13 c21
      refine x_callV (q := 49) (as := [.int v1, .int (r14 &&& (r17 ^^^ (-1 : Int32))), .int (2 : Int32)]) (rest := []) dX12_judge_46 rfl kc_RX12_523 kh_X12_isJudged (by decide) (Nat.le_of_ble_eq_true rfl) m22 (ci := 12) (by exact ⟨rfl, by decide⟩) (k243 g5 (by decide) n13) ?_
      have n23 : (r20).1 = 243 := m22.1.full n13
      refine x_aload_n (q := 50) dX12_judge_49 rfl rfl ?_
      replace H := kif H; obtain ⟨g24, H⟩ := H
      refine x_getR (q := 53) dX12_judge_50 rfl kl_RX12_115 rfl (k243 g5 (by decide) n23) g24 ?_
      refine x_iconst (q := 54) (v := (0 : Int32)) dX12_judge_53 rfl (by decide) ?_
      replace H := kif H; obtain ⟨g25, H⟩ := H
      replace H := kifn H; obtain ⟨g26, H⟩ := H
      refine x_iald (q := 55) dX12_judge_54 rfl (k243 g25 (by decide) n23) (fun z => z.elim (by decide) g26) ?_
      cases H
      exact x_end ⟨dX12_judge_55, rfl, rfl⟩
theorem s_X12_judge {Z : Nat → (Nat → Nat) → State → Prop} (h : KH) (v0 : Nat) (v1 : Int32) {t : Int32 × KH} (hn : h.1 = 243) (H : f_X12_judge h v0 v1 = some t) : KM Z yX12_judge cX12_judge 2 (some .int) 4 [.ref v0, .int v1] h (some (.int t.1)) t.2 :=
  kx_i (own := RX12) (ini := false) (by decide +kernel) (by decide +kernel) rfl (Nat.le_of_ble_eq_true rfl) (s0_X12_judge h v0 v1 hn H)
theorem dX12_seed_0 : decode cX12_seed 0 = .ok (.iload_n 1, 1) := by decide +kernel
theorem dX12_seed_1 : decode cX12_seed 1 = .ok (.ifCond .ge 15, 3) := by decide +kernel
theorem dX12_seed_4 : decode cX12_seed 4 = .ok (.aload_n 0, 1) := by decide +kernel
theorem dX12_seed_5 : decode cX12_seed 5 = .ok (.getfield 17, 3) := by decide +kernel
theorem dX12_seed_8 : decode cX12_seed 8 = .ok (.iconst 5, 1) := by decide +kernel
theorem dX12_seed_9 : decode cX12_seed 9 = .ok (.dup2, 1) := by decide +kernel
theorem dX12_seed_10 : decode cX12_seed 10 = .ok (.iaload, 1) := by decide +kernel
theorem dX12_seed_11 : decode cX12_seed 11 = .ok (.iconst 1, 1) := by decide +kernel
theorem dX12_seed_12 : decode cX12_seed 12 = .ok (.iadd, 1) := by decide +kernel
theorem dX12_seed_13 : decode cX12_seed 13 = .ok (.iastore, 1) := by decide +kernel
theorem dX12_seed_14 : decode cX12_seed 14 = .ok (.iconst 0, 1) := by decide +kernel
theorem dX12_seed_15 : decode cX12_seed 15 = .ok (.ireturn, 1) := by decide +kernel
theorem dX12_seed_16 : decode cX12_seed 16 = .ok (.aload_n 0, 1) := by decide +kernel
theorem dX12_seed_17 : decode cX12_seed 17 = .ok (.iload_n 1, 1) := by decide +kernel
theorem dX12_seed_18 : decode cX12_seed 18 = .ok (.i2l, 1) := by decide +kernel
theorem dX12_seed_19 : decode cX12_seed 19 = .ok (.putfield 148, 3) := by decide +kernel
theorem dX12_seed_22 : decode cX12_seed 22 = .ok (.iconst 1, 1) := by decide +kernel
theorem dX12_seed_23 : decode cX12_seed 23 = .ok (.ireturn, 1) := by decide +kernel
theorem kl_RX12_148 : KLk RX12 148 12 63 := ⟨RX12, TX12, 97, rfl, by decide, Or.inl (kwm 1260 (by decide +kernel) (by decide +kernel))⟩
def f_X12_seed (h : KH) (v0 : Nat) (v1 : Int32) : Option (Int32 × KH) :=
  if 0 ≤ v1 then
  if kkind v0 = 12 then kl (ksL h v0 63 ((v1).toInt64)) fun h3 =>
  some ((1 : Int32), h3) else none
  else
  if kkind v0 = 12 then if (kR h v0 9) < 999999 then if kkind (kR h v0 9) = 20 then if klen (kR h v0 9) ≤ 5 then none else kl (ksI h (kR h v0 9) 5 ((kI h (kR h v0 9) 5) + (1 : Int32))) fun h10 =>
  some ((0 : Int32), h10) else none else none else none
set_option maxHeartbeats 4000000 in
set_option maxRecDepth 100000 in
theorem s0_X12_seed {Z : Nat → (Nat → Nat) → State → Prop} (h : KH) (v0 : Nat) (v1 : Int32) {t : Int32 × KH} (hn : h.1 = 243) (H : f_X12_seed h v0 v1 = some t) : KX Z RX12 cX12_seed 2 false 1 (KRz cX12_seed t.1 t.2) 0 [(0, .ref v0), (1, .int v1)] [] h := by
  unfold f_X12_seed at H
  refine x_iload_n (q := 1) dX12_seed_0 rfl rfl ?_
  replace H := kite H; rcases H with ⟨g1, H⟩ | ⟨g1, H⟩
  · refine x_if_ge_t dX12_seed_1 (q := 16) (by decide) g1 ?_
    refine x_aload_n (q := 17) dX12_seed_16 rfl rfl ?_
    refine x_iload_n (q := 18) dX12_seed_17 rfl rfl ?_
    refine x_i2l (q := 19) dX12_seed_18 rfl ?_
    replace H := kif H; obtain ⟨g2, H⟩ := H
    replace H := kle H; obtain ⟨h3, q4, H⟩ := H
    refine x_putL (q := 22) dX12_seed_19 rfl kl_RX12_148 (Or.inl rfl) rfl (k243 g2 (by decide) hn) ?_
    refine x_nmH q4 ?_
    have n5 : h3.1 = 243 := by rw [q4]; exact hn
    refine x_iconst (q := 23) (v := (1 : Int32)) dX12_seed_22 rfl (by decide) ?_
    cases H
    exact x_end ⟨(Or.inr rfl), dX12_seed_23, rfl, rfl⟩
  · refine x_if_ge_f (q := 4) dX12_seed_1 (t := 16) (by decide) rfl g1 ?_
    refine x_aload_n (q := 5) dX12_seed_4 rfl rfl ?_
    replace H := kif H; obtain ⟨g6, H⟩ := H
    replace H := kif H; obtain ⟨g7, H⟩ := H
    refine x_getR (q := 8) dX12_seed_5 rfl kl_RX12_17 rfl (k243 g6 (by decide) hn) g7 ?_
    refine x_iconst (q := 9) (v := (5 : Int32)) dX12_seed_8 rfl (by decide) ?_
    refine x_dup2 (q := 10) dX12_seed_9 rfl ⟨rfl, rfl⟩ ?_
    replace H := kif H; obtain ⟨g8, H⟩ := H
    replace H := kifn H; obtain ⟨g9, H⟩ := H
    refine x_iald (q := 11) dX12_seed_10 rfl (k243 g8 (by decide) hn) (fun z => z.elim (by decide) g9) ?_
    refine x_iconst (q := 12) (v := (1 : Int32)) dX12_seed_11 rfl (by decide) ?_
    refine x_iadd (q := 13) dX12_seed_12 rfl ?_
    replace H := kle H; obtain ⟨h10, q11, H⟩ := H
    refine x_iast (q := 14) dX12_seed_13 rfl (k243 g8 (by decide) hn) (fun z => z.elim (by decide) g9) ?_
    refine x_nmH q11 ?_
    have n12 : h10.1 = 243 := by rw [q11]; exact hn
    refine x_iconst (q := 15) (v := (0 : Int32)) dX12_seed_14 rfl (by decide) ?_
    cases H
    exact x_end ⟨(Or.inl rfl), dX12_seed_15, rfl, rfl⟩
theorem s_X12_seed {Z : Nat → (Nat → Nat) → State → Prop} (h : KH) (v0 : Nat) (v1 : Int32) {t : Int32 × KH} (hn : h.1 = 243) (H : f_X12_seed h v0 v1 = some t) : KM Z yX12_seed cX12_seed 2 (some .boolean) 1 [.ref v0, .int v1] h (some (.int t.1)) t.2 :=
  kx_z (own := RX12) (ini := false) (by decide +kernel) (by decide +kernel) rfl (Nat.le_of_ble_eq_true rfl) (s0_X12_seed h v0 v1 hn H)
theorem dX12_drawOf_0 : decode cX12_drawOf 0 = .ok (.aload_n 0, 1) := by decide +kernel
theorem dX12_drawOf_1 : decode cX12_drawOf 1 = .ok (.ldc2_w 527, 3) := by decide +kernel
theorem dX12_drawOf_4 : decode cX12_drawOf 4 = .ok (.aload_n 0, 1) := by decide +kernel
theorem dX12_drawOf_5 : decode cX12_drawOf 5 = .ok (.getfield 148, 3) := by decide +kernel
theorem dX12_drawOf_8 : decode cX12_drawOf 8 = .ok (.lmul, 1) := by decide +kernel
theorem dX12_drawOf_9 : decode cX12_drawOf 9 = .ok (.ldc2_w 529, 3) := by decide +kernel
theorem dX12_drawOf_12 : decode cX12_drawOf 12 = .ok (.ladd, 1) := by decide +kernel
theorem dX12_drawOf_13 : decode cX12_drawOf 13 = .ok (.ldc2_w 531, 3) := by decide +kernel
theorem dX12_drawOf_16 : decode cX12_drawOf 16 = .ok (.lrem, 1) := by decide +kernel
theorem dX12_drawOf_17 : decode cX12_drawOf 17 = .ok (.putfield 148, 3) := by decide +kernel
theorem dX12_drawOf_20 : decode cX12_drawOf 20 = .ok (.aload_n 0, 1) := by decide +kernel
theorem dX12_drawOf_21 : decode cX12_drawOf 21 = .ok (.getfield 148, 3) := by decide +kernel
theorem dX12_drawOf_24 : decode cX12_drawOf 24 = .ok (.ldc2_w 533, 3) := by decide +kernel
theorem dX12_drawOf_27 : decode cX12_drawOf 27 = .ok (.ldiv, 1) := by decide +kernel
theorem dX12_drawOf_28 : decode cX12_drawOf 28 = .ok (.iload_n 1, 1) := by decide +kernel
theorem dX12_drawOf_29 : decode cX12_drawOf 29 = .ok (.i2l, 1) := by decide +kernel
theorem dX12_drawOf_30 : decode cX12_drawOf 30 = .ok (.lrem, 1) := by decide +kernel
theorem dX12_drawOf_31 : decode cX12_drawOf 31 = .ok (.l2i, 1) := by decide +kernel
theorem dX12_drawOf_32 : decode cX12_drawOf 32 = .ok (.ireturn, 1) := by decide +kernel
theorem kk_RX12_527 : Jvm.Cond.constantLong RX12 527 (1103515245 : Int64) ∈ ktG := kwm 1952 (by decide +kernel) (by decide +kernel)
theorem kk_RX12_529 : Jvm.Cond.constantLong RX12 529 (12345 : Int64) ∈ ktG := kwm 1953 (by decide +kernel) (by decide +kernel)
theorem kk_RX12_531 : Jvm.Cond.constantLong RX12 531 (2147483648 : Int64) ∈ ktG := kwm 1954 (by decide +kernel) (by decide +kernel)
theorem kk_RX12_533 : Jvm.Cond.constantLong RX12 533 (64 : Int64) ∈ ktG := kwm 1955 (by decide +kernel) (by decide +kernel)
def f_X12_drawOf (h : KH) (v0 : Nat) (v1 : Int32) : Option (Int32 × KH) :=
  if kkind v0 = 12 then kl (ksL h v0 63 ((((1103515245 : Int64) * (kL h v0 63)) + (12345 : Int64)) - (((1103515245 : Int64) * (kL h v0 63)) + (12345 : Int64)) / (2147483648 : Int64) * (2147483648 : Int64))) fun h2 =>
  if ((v1).toInt64) = 0 then none else some (((((kL h2 v0 63) / (64 : Int64)) - ((kL h2 v0 63) / (64 : Int64)) / ((v1).toInt64) * ((v1).toInt64))).toInt32, h2) else none
set_option maxHeartbeats 4000000 in
set_option maxRecDepth 100000 in
theorem s0_X12_drawOf {Z : Nat → (Nat → Nat) → State → Prop} (h : KH) (v0 : Nat) (v1 : Int32) {t : Int32 × KH} (hn : h.1 = 243) (H : f_X12_drawOf h v0 v1 = some t) : KX Z RX12 cX12_drawOf 2 false 1 (KRi cX12_drawOf t.1 t.2) 0 [(0, .ref v0), (1, .int v1)] [] h := by
  unfold f_X12_drawOf at H
  refine x_aload_n (q := 1) dX12_drawOf_0 rfl rfl ?_
  refine x_ldc2 (q := 4) (v := (1103515245 : Int64)) dX12_drawOf_1 rfl kk_RX12_527 ?_
  refine x_aload_n (q := 5) dX12_drawOf_4 rfl rfl ?_
  replace H := kif H; obtain ⟨g1, H⟩ := H
  refine x_getL (q := 8) dX12_drawOf_5 rfl kl_RX12_148 rfl (k243 g1 (by decide) hn) ?_
  refine x_lmul (q := 9) dX12_drawOf_8 rfl ?_
  refine x_ldc2 (q := 12) (v := (12345 : Int64)) dX12_drawOf_9 rfl kk_RX12_529 ?_
  refine x_ladd (q := 13) dX12_drawOf_12 rfl ?_
  refine x_ldc2 (q := 16) (v := (2147483648 : Int64)) dX12_drawOf_13 rfl kk_RX12_531 ?_
  refine x_lrem (q := 17) dX12_drawOf_16 rfl (by decide) ?_
  replace H := kle H; obtain ⟨h2, q3, H⟩ := H
  refine x_putL (q := 20) dX12_drawOf_17 rfl kl_RX12_148 (Or.inl rfl) rfl (k243 g1 (by decide) hn) ?_
  refine x_nmH q3 ?_
  have n4 : h2.1 = 243 := by rw [q3]; exact hn
  refine x_aload_n (q := 21) dX12_drawOf_20 rfl rfl ?_
  refine x_getL (q := 24) dX12_drawOf_21 rfl kl_RX12_148 rfl (k243 g1 (by decide) n4) ?_
  refine x_ldc2 (q := 27) (v := (64 : Int64)) dX12_drawOf_24 rfl kk_RX12_533 ?_
  refine x_ldiv (q := 28) dX12_drawOf_27 rfl (by decide) ?_
  refine x_iload_n (q := 29) dX12_drawOf_28 rfl rfl ?_
  refine x_i2l (q := 30) dX12_drawOf_29 rfl ?_
  replace H := kifn H; obtain ⟨g5, H⟩ := H
  refine x_lrem (q := 31) dX12_drawOf_30 rfl g5 ?_
  refine x_l2i (q := 32) dX12_drawOf_31 rfl ?_
  cases H
  exact x_end ⟨dX12_drawOf_32, rfl, rfl⟩
theorem s_X12_drawOf {Z : Nat → (Nat → Nat) → State → Prop} (h : KH) (v0 : Nat) (v1 : Int32) {t : Int32 × KH} (hn : h.1 = 243) (H : f_X12_drawOf h v0 v1 = some t) : KM Z yX12_drawOf cX12_drawOf 2 (some .int) 1 [.ref v0, .int v1] h (some (.int t.1)) t.2 :=
  kx_i (own := RX12) (ini := false) (by decide +kernel) (by decide +kernel) rfl (Nat.le_of_ble_eq_true rfl) (s0_X12_drawOf h v0 v1 hn H)
theorem dX12_drawnKind_0 : decode cX12_drawnKind 0 = .ok (.iconst 0, 1) := by decide +kernel
theorem dX12_drawnKind_1 : decode cX12_drawnKind 1 = .ok (.istore_n 2, 1) := by decide +kernel
theorem dX12_drawnKind_2 : decode cX12_drawnKind 2 = .ok (.iload_n 1, 1) := by decide +kernel
theorem dX12_drawnKind_3 : decode cX12_drawnKind 3 = .ok (.ifCond .eq 8, 3) := by decide +kernel
theorem dX12_drawnKind_6 : decode cX12_drawnKind 6 = .ok (.bipush 26, 2) := by decide +kernel
theorem dX12_drawnKind_8 : decode cX12_drawnKind 8 = .ok (.goto 5, 3) := by decide +kernel
theorem dX12_drawnKind_11 : decode cX12_drawnKind 11 = .ok (.bipush 27, 2) := by decide +kernel
theorem dX12_drawnKind_13 : decode cX12_drawnKind 13 = .ok (.istore_n 3, 1) := by decide +kernel
theorem dX12_drawnKind_14 : decode cX12_drawnKind 14 = .ok (.iconst 0, 1) := by decide +kernel
theorem dX12_drawnKind_15 : decode cX12_drawnKind 15 = .ok (.istore 4, 2) := by decide +kernel
theorem dX12_drawnKind_17 : decode cX12_drawnKind 17 = .ok (.iload 4, 2) := by decide +kernel
theorem dX12_drawnKind_19 : decode cX12_drawnKind 19 = .ok (.aload_n 0, 1) := by decide +kernel
theorem dX12_drawnKind_20 : decode cX12_drawnKind 20 = .ok (.invokevirtual 364, 3) := by decide +kernel
theorem dX12_drawnKind_23 : decode cX12_drawnKind 23 = .ok (.if_icmp .ge 23, 3) := by decide +kernel
theorem dX12_drawnKind_26 : decode cX12_drawnKind 26 = .ok (.iload_n 2, 1) := by decide +kernel
theorem dX12_drawnKind_27 : decode cX12_drawnKind 27 = .ok (.aload_n 0, 1) := by decide +kernel
theorem dX12_drawnKind_28 : decode cX12_drawnKind 28 = .ok (.getfield 94, 3) := by decide +kernel
theorem dX12_drawnKind_31 : decode cX12_drawnKind 31 = .ok (.iload_n 3, 1) := by decide +kernel
theorem dX12_drawnKind_32 : decode cX12_drawnKind 32 = .ok (.iconst 4, 1) := by decide +kernel
theorem dX12_drawnKind_33 : decode cX12_drawnKind 33 = .ok (.iload 4, 2) := by decide +kernel
theorem dX12_drawnKind_35 : decode cX12_drawnKind 35 = .ok (.imul, 1) := by decide +kernel
theorem dX12_drawnKind_36 : decode cX12_drawnKind 36 = .ok (.iadd, 1) := by decide +kernel
theorem dX12_drawnKind_37 : decode cX12_drawnKind 37 = .ok (.iaload, 1) := by decide +kernel
theorem dX12_drawnKind_38 : decode cX12_drawnKind 38 = .ok (.iadd, 1) := by decide +kernel
theorem dX12_drawnKind_39 : decode cX12_drawnKind 39 = .ok (.istore_n 2, 1) := by decide +kernel
theorem dX12_drawnKind_40 : decode cX12_drawnKind 40 = .ok (.iinc 4 1, 3) := by decide +kernel
theorem dX12_drawnKind_43 : decode cX12_drawnKind 43 = .ok (.goto (-26), 3) := by decide +kernel
theorem dX12_drawnKind_46 : decode cX12_drawnKind 46 = .ok (.iload_n 2, 1) := by decide +kernel
theorem dX12_drawnKind_47 : decode cX12_drawnKind 47 = .ok (.ifCond .ne 5, 3) := by decide +kernel
theorem dX12_drawnKind_50 : decode cX12_drawnKind 50 = .ok (.iconst (-1), 1) := by decide +kernel
theorem dX12_drawnKind_51 : decode cX12_drawnKind 51 = .ok (.ireturn, 1) := by decide +kernel
theorem dX12_drawnKind_52 : decode cX12_drawnKind 52 = .ok (.aload_n 0, 1) := by decide +kernel
theorem dX12_drawnKind_53 : decode cX12_drawnKind 53 = .ok (.iload_n 2, 1) := by decide +kernel
theorem dX12_drawnKind_54 : decode cX12_drawnKind 54 = .ok (.invokevirtual 535, 3) := by decide +kernel
theorem dX12_drawnKind_57 : decode cX12_drawnKind 57 = .ok (.istore 4, 2) := by decide +kernel
theorem dX12_drawnKind_59 : decode cX12_drawnKind 59 = .ok (.iconst 0, 1) := by decide +kernel
theorem dX12_drawnKind_60 : decode cX12_drawnKind 60 = .ok (.istore 5, 2) := by decide +kernel
theorem dX12_drawnKind_62 : decode cX12_drawnKind 62 = .ok (.iload 4, 2) := by decide +kernel
theorem dX12_drawnKind_64 : decode cX12_drawnKind 64 = .ok (.aload_n 0, 1) := by decide +kernel
theorem dX12_drawnKind_65 : decode cX12_drawnKind 65 = .ok (.getfield 94, 3) := by decide +kernel
theorem dX12_drawnKind_68 : decode cX12_drawnKind 68 = .ok (.iload_n 3, 1) := by decide +kernel
theorem dX12_drawnKind_69 : decode cX12_drawnKind 69 = .ok (.iconst 4, 1) := by decide +kernel
theorem dX12_drawnKind_70 : decode cX12_drawnKind 70 = .ok (.iload 5, 2) := by decide +kernel
theorem dX12_drawnKind_72 : decode cX12_drawnKind 72 = .ok (.imul, 1) := by decide +kernel
theorem dX12_drawnKind_73 : decode cX12_drawnKind 73 = .ok (.iadd, 1) := by decide +kernel
theorem dX12_drawnKind_74 : decode cX12_drawnKind 74 = .ok (.iaload, 1) := by decide +kernel
theorem dX12_drawnKind_75 : decode cX12_drawnKind 75 = .ok (.if_icmp .lt 25, 3) := by decide +kernel
theorem dX12_drawnKind_78 : decode cX12_drawnKind 78 = .ok (.iload 4, 2) := by decide +kernel
theorem dX12_drawnKind_80 : decode cX12_drawnKind 80 = .ok (.aload_n 0, 1) := by decide +kernel
theorem dX12_drawnKind_81 : decode cX12_drawnKind 81 = .ok (.getfield 94, 3) := by decide +kernel
theorem dX12_drawnKind_84 : decode cX12_drawnKind 84 = .ok (.iload_n 3, 1) := by decide +kernel
theorem dX12_drawnKind_85 : decode cX12_drawnKind 85 = .ok (.iconst 4, 1) := by decide +kernel
theorem dX12_drawnKind_86 : decode cX12_drawnKind 86 = .ok (.iload 5, 2) := by decide +kernel
theorem dX12_drawnKind_88 : decode cX12_drawnKind 88 = .ok (.imul, 1) := by decide +kernel
theorem dX12_drawnKind_89 : decode cX12_drawnKind 89 = .ok (.iadd, 1) := by decide +kernel
theorem dX12_drawnKind_90 : decode cX12_drawnKind 90 = .ok (.iaload, 1) := by decide +kernel
theorem dX12_drawnKind_91 : decode cX12_drawnKind 91 = .ok (.isub, 1) := by decide +kernel
theorem dX12_drawnKind_92 : decode cX12_drawnKind 92 = .ok (.istore 4, 2) := by decide +kernel
theorem dX12_drawnKind_94 : decode cX12_drawnKind 94 = .ok (.iinc 5 1, 3) := by decide +kernel
theorem dX12_drawnKind_97 : decode cX12_drawnKind 97 = .ok (.goto (-35), 3) := by decide +kernel
theorem dX12_drawnKind_100 : decode cX12_drawnKind 100 = .ok (.iload 5, 2) := by decide +kernel
theorem dX12_drawnKind_102 : decode cX12_drawnKind 102 = .ok (.ireturn, 1) := by decide +kernel
theorem kc_RX12_535 : Cond.methodLink RX12 535 yX12_drawOf ∈ ktG ∧ (Cond.instanceMethod yX12_drawOf ∈ ktG ∧ Cond.selects yX12_drawOf.cls yX12_drawOf yX12_drawOf ∈ ktG) ∧ Cond.initialized yX12_drawOf.cls ∈ ktG ∧ Cond.code yX12_drawOf cX12_drawOf 2 (some .int) ∈ ktG := ⟨(kwm 1948 (by decide +kernel) (by decide +kernel)), ⟨(kwm 1950 (by decide +kernel) (by decide +kernel)), (kwm 111 (by decide +kernel) (by decide +kernel))⟩, (kwm 139 (by decide +kernel) (by decide +kernel)), kwm 1951 (by decide +kernel) (by decide +kernel)⟩
theorem kh_X12_drawOf : yX12_drawOf.cls ≠ "java/lang/invoke/MethodHandle" ∧ yX12_drawOf.cls ≠ "java/lang/invoke/VarHandle" ∧ (parseMethodDescriptor yX12_drawOf.desc).map (fun d => d.parameters.length) = some 1 := by decide +kernel
def E_X12_drawnKind_l17 (h : KH) (v0 : Nat) (v3 : Int32) : Int32 → Nat → List (Nat × Value) → List Value → KH → Prop := fun (e : Int32) pc ls st hh => pc = 46 ∧ ls = [(0, .ref v0), (2, .int e), (3, .int v3)] ∧ st = [] ∧ h = hh
def B_X12_drawnKind_l17 (h : KH) (v0 : Nat) (v3 : Int32) : ((Int32 × Int32) ⊕ (Int32)) → Nat → List (Nat × Value) → List Value → KH → Prop := Sum.elim (fun (s : Int32 × Int32) pc ls st hh => pc = 17 ∧ ls = [(0, .ref v0), (2, .int s.1), (3, .int v3), (4, .int s.2)] ∧ st = [] ∧ hh = h) (E_X12_drawnKind_l17 h v0 v3)
def f_X12_drawnKind_l17 (h : KH) (v0 : Nat) (v3 : Int32) (s : Int32 × Int32) : Option ((Int32 × Int32) ⊕ (Int32)) :=
  if kkind v0 = 12 then kb (f_X12_kindMany h v0) fun r2 =>
  if r2 ≤ s.2 then
  some (.inr s.1)
  else
  if (kR h v0 35) < 999999 then if kkind (kR h v0 35) = 20 then if ((v3 + ((4 : Int32) * s.2)) < 0 ∨ klen (kR h v0 35) ≤ ((v3 + ((4 : Int32) * s.2))).toNatClampNeg) then none else kl (s.1 + (kI h (kR h v0 35) (((v3 + ((4 : Int32) * s.2))).toNatClampNeg))) fun x9 =>
  kl (s.2 + (1 : Int32)) fun x11 =>
  some (.inl (x9, x11)) else none else none else none
set_option maxHeartbeats 4000000 in
set_option maxRecDepth 100000 in
theorem s_X12_drawnKind_l17 {Z : Nat → (Nat → Nat) → State → Prop} (h : KH) (v0 : Nat) (v3 : Int32) (s : Int32 × Int32) (t : (Int32 × Int32) ⊕ (Int32)) (hn : (h).1 = 243) (H : f_X12_drawnKind_l17 h v0 v3 s = some t) : KX Z RX12 cX12_drawnKind 6 false 2 (B_X12_drawnKind_l17 h v0 v3 t) 17 [(0, .ref v0), (2, .int s.1), (3, .int v3), (4, .int s.2)] [] h := by
  unfold f_X12_drawnKind_l17 at H
  refine x_iload (q := 19) dX12_drawnKind_17 rfl rfl ?_
  refine x_aload_n (q := 20) dX12_drawnKind_19 rfl rfl ?_
  replace H := kif H; obtain ⟨g1, H⟩ := H
  replace H := kbe H; obtain ⟨r2, c3, H⟩ := H
  have m4 := s_X12_kindMany (Z := Z) h v0 hn c3
  refine x_callV (q := 23) (as := []) (rest := [.int s.2]) dX12_drawnKind_20 rfl kc_RX12_364 kh_X12_kindMany (by decide) (Nat.le_of_ble_eq_true rfl) m4 (ci := 12) (by exact ⟨rfl, by decide⟩) (k243 g1 (by decide) hn) ?_
  replace H := kite H; rcases H with ⟨g5, H⟩ | ⟨g5, H⟩
  · refine x_icmp_ge_t dX12_drawnKind_23 (q := 46) (by decide) g5 ?_
    cases H
    refine x_sub (ls2 := [(0, .ref v0), (2, .int s.1), (3, .int v3)]) [0, 1, 2] rfl ?_
    exact x_end (x_cfg rfl)
  · refine x_icmp_ge_f (q := 26) dX12_drawnKind_23 (t := 46) (by decide) rfl g5 ?_
    refine x_iload_n (q := 27) dX12_drawnKind_26 rfl rfl ?_
    refine x_aload_n (q := 28) dX12_drawnKind_27 rfl rfl ?_
    replace H := kif H; obtain ⟨g6, H⟩ := H
    refine x_getR (q := 31) dX12_drawnKind_28 rfl kl_RX12_94 rfl (k243 g1 (by decide) hn) g6 ?_
    refine x_iload_n (q := 32) dX12_drawnKind_31 rfl rfl ?_
    refine x_iconst (q := 33) (v := (4 : Int32)) dX12_drawnKind_32 rfl (by decide) ?_
    refine x_iload (q := 35) dX12_drawnKind_33 rfl rfl ?_
    refine x_imul (q := 36) dX12_drawnKind_35 rfl ?_
    refine x_iadd (q := 37) dX12_drawnKind_36 rfl ?_
    replace H := kif H; obtain ⟨g7, H⟩ := H
    replace H := kifn H; obtain ⟨g8, H⟩ := H
    refine x_iald (q := 38) dX12_drawnKind_37 rfl (k243 g7 (by decide) hn) g8 ?_
    refine x_iadd (q := 39) dX12_drawnKind_38 rfl ?_
    replace H := kle H; obtain ⟨x9, q10, H⟩ := H
    refine x_nmI q10 ?_
    refine x_istore_n (q := 40) (i := 2) (ls2 := [(2, .int x9), (0, .ref v0), (3, .int v3), (4, .int s.2)]) dX12_drawnKind_39 rfl rfl (by decide) rfl ?_
    replace H := kle H; obtain ⟨x11, q12, H⟩ := H
    refine x_iinc (q := 43) (i := 4) (ls2 := [(4, .int x11), (2, .int x9), (0, .ref v0), (3, .int v3)]) dX12_drawnKind_40 rfl rfl (by decide) (by rw [q12]; rfl) ?_
    refine x_goto dX12_drawnKind_43 (q := 17) (by decide) ?_
    cases H
    refine x_sub (ls2 := [(0, .ref v0), (2, .int x9), (3, .int v3), (4, .int x11)]) [2, 1, 3, 0] rfl ?_
    exact x_end (x_cfg rfl)
theorem sl_X12_drawnKind_l17 {Z : Nat → (Nat → Nat) → State → Prop} (h : KH) (v0 : Nat) (v3 : Int32) (n : Nat) (s : Int32 × Int32) (r : Int32) (hn : (h).1 = 243) (H : kloop (f_X12_drawnKind_l17 h v0 v3) n s = some r) : KX Z RX12 cX12_drawnKind 6 false 2 (E_X12_drawnKind_l17 h v0 v3 r) 17 [(0, .ref v0), (2, .int s.1), (3, .int v3), (4, .int s.2)] [] h :=
  k_loop (ls := (fun (s : Int32 × Int32) => ([(0, .ref v0), (2, .int s.1), (3, .int v3), (4, .int s.2)] : List (Nat × Value)))) (hp := (fun (s : Int32 × Int32) => (h : KH))) (G := E_X12_drawnKind_l17 h v0 v3) (fun s t hn H => s_X12_drawnKind_l17 h v0 v3 s t hn H) n s r hn H
def E_X12_drawnKind_l62 (h : KH) (v0 : Nat) (v3 : Int32) : Int32 → Nat → List (Nat × Value) → List Value → KH → Prop := fun (e : Int32) pc ls st hh => pc = 100 ∧ ls = [(5, .int e)] ∧ st = [] ∧ h = hh
def B_X12_drawnKind_l62 (h : KH) (v0 : Nat) (v3 : Int32) : ((Int32 × Int32) ⊕ (Int32)) → Nat → List (Nat × Value) → List Value → KH → Prop := Sum.elim (fun (s : Int32 × Int32) pc ls st hh => pc = 62 ∧ ls = [(0, .ref v0), (3, .int v3), (4, .int s.1), (5, .int s.2)] ∧ st = [] ∧ hh = h) (E_X12_drawnKind_l62 h v0 v3)
def f_X12_drawnKind_l62 (h : KH) (v0 : Nat) (v3 : Int32) (s : Int32 × Int32) : Option ((Int32 × Int32) ⊕ (Int32)) :=
  if kkind v0 = 12 then if (kR h v0 35) < 999999 then if kkind (kR h v0 35) = 20 then if ((v3 + ((4 : Int32) * s.2)) < 0 ∨ klen (kR h v0 35) ≤ ((v3 + ((4 : Int32) * s.2))).toNatClampNeg) then none else if s.1 < (kI h (kR h v0 35) (((v3 + ((4 : Int32) * s.2))).toNatClampNeg)) then
  some (.inr s.2)
  else
  kl (s.1 - (kI h (kR h v0 35) (((v3 + ((4 : Int32) * s.2))).toNatClampNeg))) fun x6 =>
  kl (s.2 + (1 : Int32)) fun x8 =>
  some (.inl (x6, x8)) else none else none else none
set_option maxHeartbeats 4000000 in
set_option maxRecDepth 100000 in
theorem s_X12_drawnKind_l62 {Z : Nat → (Nat → Nat) → State → Prop} (h : KH) (v0 : Nat) (v3 : Int32) (s : Int32 × Int32) (t : (Int32 × Int32) ⊕ (Int32)) (hn : (h).1 = 243) (H : f_X12_drawnKind_l62 h v0 v3 s = some t) : KX Z RX12 cX12_drawnKind 6 false 2 (B_X12_drawnKind_l62 h v0 v3 t) 62 [(0, .ref v0), (3, .int v3), (4, .int s.1), (5, .int s.2)] [] h := by
  unfold f_X12_drawnKind_l62 at H
  refine x_iload (q := 64) dX12_drawnKind_62 rfl rfl ?_
  refine x_aload_n (q := 65) dX12_drawnKind_64 rfl rfl ?_
  replace H := kif H; obtain ⟨g1, H⟩ := H
  replace H := kif H; obtain ⟨g2, H⟩ := H
  refine x_getR (q := 68) dX12_drawnKind_65 rfl kl_RX12_94 rfl (k243 g1 (by decide) hn) g2 ?_
  refine x_iload_n (q := 69) dX12_drawnKind_68 rfl rfl ?_
  refine x_iconst (q := 70) (v := (4 : Int32)) dX12_drawnKind_69 rfl (by decide) ?_
  refine x_iload (q := 72) dX12_drawnKind_70 rfl rfl ?_
  refine x_imul (q := 73) dX12_drawnKind_72 rfl ?_
  refine x_iadd (q := 74) dX12_drawnKind_73 rfl ?_
  replace H := kif H; obtain ⟨g3, H⟩ := H
  replace H := kifn H; obtain ⟨g4, H⟩ := H
  refine x_iald (q := 75) dX12_drawnKind_74 rfl (k243 g3 (by decide) hn) g4 ?_
  replace H := kite H; rcases H with ⟨g5, H⟩ | ⟨g5, H⟩
  · refine x_icmp_lt_t dX12_drawnKind_75 (q := 100) (by decide) g5 ?_
    cases H
    refine x_sub (ls2 := [(5, .int s.2)]) [3] rfl ?_
    exact x_end (x_cfg rfl)
  · refine x_icmp_lt_f (q := 78) dX12_drawnKind_75 (t := 100) (by decide) rfl g5 ?_
    refine x_iload (q := 80) dX12_drawnKind_78 rfl rfl ?_
    refine x_aload_n (q := 81) dX12_drawnKind_80 rfl rfl ?_
    refine x_getR (q := 84) dX12_drawnKind_81 rfl kl_RX12_94 rfl (k243 g1 (by decide) hn) g2 ?_
    refine x_iload_n (q := 85) dX12_drawnKind_84 rfl rfl ?_
    refine x_iconst (q := 86) (v := (4 : Int32)) dX12_drawnKind_85 rfl (by decide) ?_
    refine x_iload (q := 88) dX12_drawnKind_86 rfl rfl ?_
    refine x_imul (q := 89) dX12_drawnKind_88 rfl ?_
    refine x_iadd (q := 90) dX12_drawnKind_89 rfl ?_
    refine x_iald (q := 91) dX12_drawnKind_90 rfl (k243 g3 (by decide) hn) g4 ?_
    refine x_isub (q := 92) dX12_drawnKind_91 rfl ?_
    replace H := kle H; obtain ⟨x6, q7, H⟩ := H
    refine x_nmI q7 ?_
    refine x_istore (q := 94) (i := 4) (ls2 := [(4, .int x6), (0, .ref v0), (3, .int v3), (5, .int s.2)]) dX12_drawnKind_92 rfl (by decide) rfl ?_
    replace H := kle H; obtain ⟨x8, q9, H⟩ := H
    refine x_iinc (q := 97) (i := 5) (ls2 := [(5, .int x8), (4, .int x6), (0, .ref v0), (3, .int v3)]) dX12_drawnKind_94 rfl rfl (by decide) (by rw [q9]; rfl) ?_
    refine x_goto dX12_drawnKind_97 (q := 62) (by decide) ?_
    cases H
    refine x_sub (ls2 := [(0, .ref v0), (3, .int v3), (4, .int x6), (5, .int x8)]) [2, 3, 1, 0] rfl ?_
    exact x_end (x_cfg rfl)
theorem sl_X12_drawnKind_l62 {Z : Nat → (Nat → Nat) → State → Prop} (h : KH) (v0 : Nat) (v3 : Int32) (n : Nat) (s : Int32 × Int32) (r : Int32) (hn : (h).1 = 243) (H : kloop (f_X12_drawnKind_l62 h v0 v3) n s = some r) : KX Z RX12 cX12_drawnKind 6 false 2 (E_X12_drawnKind_l62 h v0 v3 r) 62 [(0, .ref v0), (3, .int v3), (4, .int s.1), (5, .int s.2)] [] h :=
  k_loop (ls := (fun (s : Int32 × Int32) => ([(0, .ref v0), (3, .int v3), (4, .int s.1), (5, .int s.2)] : List (Nat × Value)))) (hp := (fun (s : Int32 × Int32) => (h : KH))) (G := E_X12_drawnKind_l62 h v0 v3) (fun s t hn H => s_X12_drawnKind_l62 h v0 v3 s t hn H) n s r hn H
def f_X12_drawnKind_b13 (h : KH) (v0 : Nat) (v2 : Int32) (w0 : Int32) : Option (Int32 × KH) :=
  kb (kloop (f_X12_drawnKind_l17 h v0 w0) KF (v2, (0 : Int32))) fun e1 =>
  if e1 = 0 then
  some ((-1 : Int32), h)
  else
  if kkind v0 = 12 then kb (f_X12_drawOf h v0 e1) fun r6 =>
  kb (kloop (f_X12_drawnKind_l62 r6.2 v0 w0) KF (r6.1, (0 : Int32))) fun e10 =>
  some (e10, r6.2) else none
set_option maxHeartbeats 4000000 in
set_option maxRecDepth 100000 in
theorem s_X12_drawnKind_b13 {Z : Nat → (Nat → Nat) → State → Prop} (h : KH) (v0 : Nat) (v2 : Int32) (w0 : Int32) {t : Int32 × KH} (hn : h.1 = 243) (H : f_X12_drawnKind_b13 h v0 v2 w0 = some t) : KX Z RX12 cX12_drawnKind 6 false 2 (KRi cX12_drawnKind t.1 t.2) 13 [(0, .ref v0), (2, .int v2)] [.int w0] h := by
  unfold f_X12_drawnKind_b13 at H
  refine x_istore_n (q := 14) (i := 3) (ls2 := [(3, .int w0), (0, .ref v0), (2, .int v2)]) dX12_drawnKind_13 rfl rfl (by decide) rfl ?_
  refine x_iconst (q := 15) (v := (0 : Int32)) dX12_drawnKind_14 rfl (by decide) ?_
  refine x_istore (q := 17) (i := 4) (ls2 := [(4, .int (0 : Int32)), (3, .int w0), (0, .ref v0), (2, .int v2)]) dX12_drawnKind_15 rfl (by decide) rfl ?_
  refine x_sub (ls2 := [(0, .ref v0), (2, .int v2), (3, .int w0), (4, .int (0 : Int32))]) [2, 3, 1, 0] rfl ?_
  replace H := kbe H; obtain ⟨e1, c2, H⟩ := H
  refine x_app (sl_X12_drawnKind_l17 h v0 w0 KF (v2, (0 : Int32)) e1 hn c2) fun pc2 ls2 st2 h2 hg m3 => ?_
  obtain ⟨rfl, rfl, rfl, rfl⟩ := hg
  refine x_iload_n (q := 47) dX12_drawnKind_46 rfl rfl ?_
  replace H := kite H; rcases H with ⟨g4, H⟩ | ⟨g4, H⟩
  · refine x_if_ne_f (q := 50) dX12_drawnKind_47 (t := 52) (by decide) rfl g4 ?_
    refine x_iconst (q := 51) (v := (-1 : Int32)) dX12_drawnKind_50 rfl (by decide) ?_
    cases H
    exact x_end ⟨dX12_drawnKind_51, rfl, rfl⟩
  · refine x_if_ne_t dX12_drawnKind_47 (q := 52) (by decide) g4 ?_
    refine x_aload_n (q := 53) dX12_drawnKind_52 rfl rfl ?_
    refine x_iload_n (q := 54) dX12_drawnKind_53 rfl rfl ?_
    replace H := kif H; obtain ⟨g5, H⟩ := H
    replace H := kbe H; obtain ⟨r6, c7, H⟩ := H
    have m8 := s_X12_drawOf (Z := Z) h v0 e1 hn c7
    refine x_callV (q := 57) (as := [.int e1]) (rest := []) dX12_drawnKind_54 rfl kc_RX12_535 kh_X12_drawOf (by decide) (Nat.le_of_ble_eq_true rfl) m8 (ci := 12) (by exact ⟨rfl, by decide⟩) (k243 g5 (by decide) hn) ?_
    have n9 : (r6.2).1 = 243 := m8.1.full hn
    refine x_istore (q := 59) (i := 4) (ls2 := [(4, .int r6.1), (0, .ref v0), (2, .int e1), (3, .int w0)]) dX12_drawnKind_57 rfl (by decide) rfl ?_
    refine x_iconst (q := 60) (v := (0 : Int32)) dX12_drawnKind_59 rfl (by decide) ?_
    refine x_istore (q := 62) (i := 5) (ls2 := [(5, .int (0 : Int32)), (4, .int r6.1), (0, .ref v0), (2, .int e1), (3, .int w0)]) dX12_drawnKind_60 rfl (by decide) rfl ?_
    refine x_sub (ls2 := [(0, .ref v0), (3, .int w0), (4, .int r6.1), (5, .int (0 : Int32))]) [2, 4, 1, 0] rfl ?_
    replace H := kbe H; obtain ⟨e10, c11, H⟩ := H
    refine x_app (sl_X12_drawnKind_l62 r6.2 v0 w0 KF (r6.1, (0 : Int32)) e10 n9 c11) fun pc2 ls2 st2 h2 hg m12 => ?_
    obtain ⟨rfl, rfl, rfl, rfl⟩ := hg
    refine x_iload (q := 102) dX12_drawnKind_100 rfl rfl ?_
    cases H
    exact x_end ⟨dX12_drawnKind_102, rfl, rfl⟩
def f_X12_drawnKind (h : KH) (v0 : Nat) (v1 : Int32) : Option (Int32 × KH) :=
  if v1 = 0 then
  f_X12_drawnKind_b13 h v0 (0 : Int32) (27 : Int32)
  else
  f_X12_drawnKind_b13 h v0 (0 : Int32) (26 : Int32)
set_option maxHeartbeats 4000000 in
set_option maxRecDepth 100000 in
theorem s0_X12_drawnKind {Z : Nat → (Nat → Nat) → State → Prop} (h : KH) (v0 : Nat) (v1 : Int32) {t : Int32 × KH} (hn : h.1 = 243) (H : f_X12_drawnKind h v0 v1 = some t) : KX Z RX12 cX12_drawnKind 6 false 2 (KRi cX12_drawnKind t.1 t.2) 0 [(0, .ref v0), (1, .int v1)] [] h := by
  unfold f_X12_drawnKind at H
  refine x_iconst (q := 1) (v := (0 : Int32)) dX12_drawnKind_0 rfl (by decide) ?_
  refine x_istore_n (q := 2) (i := 2) (ls2 := [(2, .int (0 : Int32)), (0, .ref v0), (1, .int v1)]) dX12_drawnKind_1 rfl rfl (by decide) rfl ?_
  refine x_iload_n (q := 3) dX12_drawnKind_2 rfl rfl ?_
  replace H := kite H; rcases H with ⟨g1, H⟩ | ⟨g1, H⟩
  · refine x_if_eq_t dX12_drawnKind_3 (q := 11) (by decide) g1 ?_
    refine x_bipush (q := 13) (v := (27 : Int32)) dX12_drawnKind_11 rfl (by decide) ?_
    refine x_sub (ls2 := [(0, .ref v0), (2, .int (0 : Int32))]) [1, 0] rfl ?_
    exact s_X12_drawnKind_b13 h v0 (0 : Int32) (27 : Int32) hn H
  · refine x_if_eq_f (q := 6) dX12_drawnKind_3 (t := 11) (by decide) rfl g1 ?_
    refine x_bipush (q := 8) (v := (26 : Int32)) dX12_drawnKind_6 rfl (by decide) ?_
    refine x_goto dX12_drawnKind_8 (q := 13) (by decide) ?_
    refine x_sub (ls2 := [(0, .ref v0), (2, .int (0 : Int32))]) [1, 0] rfl ?_
    exact s_X12_drawnKind_b13 h v0 (0 : Int32) (26 : Int32) hn H
theorem s_X12_drawnKind {Z : Nat → (Nat → Nat) → State → Prop} (h : KH) (v0 : Nat) (v1 : Int32) {t : Int32 × KH} (hn : h.1 = 243) (H : f_X12_drawnKind h v0 v1 = some t) : KM Z yX12_drawnKind cX12_drawnKind 6 (some .int) 2 [.ref v0, .int v1] h (some (.int t.1)) t.2 :=
  kx_i (own := RX12) (ini := false) (by decide +kernel) (by decide +kernel) rfl (Nat.le_of_ble_eq_true rfl) (s0_X12_drawnKind h v0 v1 hn H)
theorem dX12_likelier_0 : decode cX12_likelier 0 = .ok (.iload_n 1, 1) := by decide +kernel
theorem dX12_likelier_1 : decode cX12_likelier 1 = .ok (.invokestatic 435, 3) := by decide +kernel
theorem dX12_likelier_4 : decode cX12_likelier 4 = .ok (.istore_n 3, 1) := by decide +kernel
theorem dX12_likelier_5 : decode cX12_likelier 5 = .ok (.lconst 0, 1) := by decide +kernel
theorem dX12_likelier_6 : decode cX12_likelier 6 = .ok (.lstore 4, 2) := by decide +kernel
theorem dX12_likelier_8 : decode cX12_likelier 8 = .ok (.lconst 0, 1) := by decide +kernel
theorem dX12_likelier_9 : decode cX12_likelier 9 = .ok (.lstore 6, 2) := by decide +kernel
theorem dX12_likelier_11 : decode cX12_likelier 11 = .ok (.iconst 0, 1) := by decide +kernel
theorem dX12_likelier_12 : decode cX12_likelier 12 = .ok (.istore 8, 2) := by decide +kernel
theorem dX12_likelier_14 : decode cX12_likelier 14 = .ok (.iload 8, 2) := by decide +kernel
theorem dX12_likelier_16 : decode cX12_likelier 16 = .ok (.bipush 72, 2) := by decide +kernel
theorem dX12_likelier_18 : decode cX12_likelier 18 = .ok (.if_icmp .ge 66, 3) := by decide +kernel
theorem dX12_likelier_21 : decode cX12_likelier 21 = .ok (.aload_n 0, 1) := by decide +kernel
theorem dX12_likelier_22 : decode cX12_likelier 22 = .ok (.getfield 136, 3) := by decide +kernel
theorem dX12_likelier_25 : decode cX12_likelier 25 = .ok (.iload 8, 2) := by decide +kernel
theorem dX12_likelier_27 : decode cX12_likelier 27 = .ok (.iaload, 1) := by decide +kernel
theorem dX12_likelier_28 : decode cX12_likelier 28 = .ok (.aload_n 0, 1) := by decide +kernel
theorem dX12_likelier_29 : decode cX12_likelier 29 = .ok (.getfield 136, 3) := by decide +kernel
theorem dX12_likelier_32 : decode cX12_likelier 32 = .ok (.iload_n 2, 1) := by decide +kernel
theorem dX12_likelier_33 : decode cX12_likelier 33 = .ok (.iaload, 1) := by decide +kernel
theorem dX12_likelier_34 : decode cX12_likelier 34 = .ok (.ixor, 1) := by decide +kernel
theorem dX12_likelier_35 : decode cX12_likelier 35 = .ok (.iload_n 3, 1) := by decide +kernel
theorem dX12_likelier_36 : decode cX12_likelier 36 = .ok (.iand, 1) := by decide +kernel
theorem dX12_likelier_37 : decode cX12_likelier 37 = .ok (.ifCond .eq 6, 3) := by decide +kernel
theorem dX12_likelier_40 : decode cX12_likelier 40 = .ok (.goto 38, 3) := by decide +kernel
theorem dX12_likelier_43 : decode cX12_likelier 43 = .ok (.iload 8, 2) := by decide +kernel
theorem dX12_likelier_45 : decode cX12_likelier 45 = .ok (.invokestatic 393, 3) := by decide +kernel
theorem dX12_likelier_48 : decode cX12_likelier 48 = .ok (.ifCond .ne 18, 3) := by decide +kernel
theorem dX12_likelier_51 : decode cX12_likelier 51 = .ok (.lload 4, 2) := by decide +kernel
theorem dX12_likelier_53 : decode cX12_likelier 53 = .ok (.aload_n 0, 1) := by decide +kernel
theorem dX12_likelier_54 : decode cX12_likelier 54 = .ok (.getfield 133, 3) := by decide +kernel
theorem dX12_likelier_57 : decode cX12_likelier 57 = .ok (.iload 8, 2) := by decide +kernel
theorem dX12_likelier_59 : decode cX12_likelier 59 = .ok (.laload, 1) := by decide +kernel
theorem dX12_likelier_60 : decode cX12_likelier 60 = .ok (.ladd, 1) := by decide +kernel
theorem dX12_likelier_61 : decode cX12_likelier 61 = .ok (.lstore 4, 2) := by decide +kernel
theorem dX12_likelier_63 : decode cX12_likelier 63 = .ok (.goto 15, 3) := by decide +kernel
theorem dX12_likelier_66 : decode cX12_likelier 66 = .ok (.lload 6, 2) := by decide +kernel
theorem dX12_likelier_68 : decode cX12_likelier 68 = .ok (.aload_n 0, 1) := by decide +kernel
theorem dX12_likelier_69 : decode cX12_likelier 69 = .ok (.getfield 133, 3) := by decide +kernel
theorem dX12_likelier_72 : decode cX12_likelier 72 = .ok (.iload 8, 2) := by decide +kernel
theorem dX12_likelier_74 : decode cX12_likelier 74 = .ok (.laload, 1) := by decide +kernel
theorem dX12_likelier_75 : decode cX12_likelier 75 = .ok (.ladd, 1) := by decide +kernel
theorem dX12_likelier_76 : decode cX12_likelier 76 = .ok (.lstore 6, 2) := by decide +kernel
theorem dX12_likelier_78 : decode cX12_likelier 78 = .ok (.iinc 8 1, 3) := by decide +kernel
theorem dX12_likelier_81 : decode cX12_likelier 81 = .ok (.goto (-67), 3) := by decide +kernel
theorem dX12_likelier_84 : decode cX12_likelier 84 = .ok (.lload 4, 2) := by decide +kernel
theorem dX12_likelier_86 : decode cX12_likelier 86 = .ok (.lload 6, 2) := by decide +kernel
theorem dX12_likelier_88 : decode cX12_likelier 88 = .ok (.lcmp, 1) := by decide +kernel
theorem dX12_likelier_89 : decode cX12_likelier 89 = .ok (.ifCond .lt 7, 3) := by decide +kernel
theorem dX12_likelier_92 : decode cX12_likelier 92 = .ok (.iconst 0, 1) := by decide +kernel
theorem dX12_likelier_93 : decode cX12_likelier 93 = .ok (.goto 4, 3) := by decide +kernel
theorem dX12_likelier_96 : decode cX12_likelier 96 = .ok (.iconst 1, 1) := by decide +kernel
theorem dX12_likelier_97 : decode cX12_likelier 97 = .ok (.ireturn, 1) := by decide +kernel
def E_X12_likelier_l14 (h : KH) (v0 : Nat) (v2 : Int32) (v3 : Int32) : Int64 × Int64 → Nat → List (Nat × Value) → List Value → KH → Prop := fun (e : Int64 × Int64) pc ls st hh => pc = 84 ∧ ls = [(4, .long e.1), (6, .long e.2)] ∧ st = [] ∧ h = hh
def B_X12_likelier_l14 (h : KH) (v0 : Nat) (v2 : Int32) (v3 : Int32) : ((Int64 × Int64 × Int32) ⊕ (Int64 × Int64)) → Nat → List (Nat × Value) → List Value → KH → Prop := Sum.elim (fun (s : Int64 × Int64 × Int32) pc ls st hh => pc = 14 ∧ ls = [(0, .ref v0), (2, .int v2), (3, .int v3), (4, .long s.1), (6, .long s.2.1), (8, .int s.2.2)] ∧ st = [] ∧ hh = h) (E_X12_likelier_l14 h v0 v2 v3)
def f_X12_likelier_b78 (h : KH) (v0 : Nat) (v2 : Int32) (v3 : Int32) (v4 : Int64) (v6 : Int64) (v8 : Int32) : Option ((Int64 × Int64 × Int32) ⊕ (Int64 × Int64)) :=
  kl (v8 + (1 : Int32)) fun x1 =>
  some (.inl (v4, v6, x1))
set_option maxHeartbeats 4000000 in
set_option maxRecDepth 100000 in
theorem s_X12_likelier_b78 {Z : Nat → (Nat → Nat) → State → Prop} (h : KH) (v0 : Nat) (v2 : Int32) (v3 : Int32) (v4 : Int64) (v6 : Int64) (v8 : Int32) {t : (Int64 × Int64 × Int32) ⊕ (Int64 × Int64)} (hn : h.1 = 243) (H : f_X12_likelier_b78 h v0 v2 v3 v4 v6 v8 = some t) : KX Z RX12 cX12_likelier 9 false 2 (B_X12_likelier_l14 h v0 v2 v3 t) 78 [(0, .ref v0), (2, .int v2), (3, .int v3), (4, .long v4), (6, .long v6), (8, .int v8)] [] h := by
  unfold f_X12_likelier_b78 at H
  replace H := kle H; obtain ⟨x1, q2, H⟩ := H
  refine x_iinc (q := 81) (i := 8) (ls2 := [(8, .int x1), (0, .ref v0), (2, .int v2), (3, .int v3), (4, .long v4), (6, .long v6)]) dX12_likelier_78 rfl rfl (by decide) (by rw [q2]; rfl) ?_
  refine x_goto dX12_likelier_81 (q := 14) (by decide) ?_
  cases H
  refine x_sub (ls2 := [(0, .ref v0), (2, .int v2), (3, .int v3), (4, .long v4), (6, .long v6), (8, .int x1)]) [1, 2, 3, 4, 5, 0] rfl ?_
  exact x_end (x_cfg rfl)
def f_X12_likelier_l14 (h : KH) (v0 : Nat) (v2 : Int32) (v3 : Int32) (s : Int64 × Int64 × Int32) : Option ((Int64 × Int64 × Int32) ⊕ (Int64 × Int64)) :=
  if (72 : Int32) ≤ s.2.2 then
  some (.inr (s.1, s.2.1))
  else
  if kkind v0 = 12 then if (kR h v0 55) < 999999 then if kkind (kR h v0 55) = 20 then if (s.2.2 < 0 ∨ klen (kR h v0 55) ≤ (s.2.2).toNatClampNeg) then none else if (v2 < 0 ∨ klen (kR h v0 55) ≤ (v2).toNatClampNeg) then none else if (((kI h (kR h v0 55) ((s.2.2).toNatClampNeg)) ^^^ (kI h (kR h v0 55) ((v2).toNatClampNeg))) &&& v3) = 0 then
  kb (f_X12_truthOf h s.2.2) fun r8 =>
  if r8 = 0 then
  if (kR h v0 54) < 999999 then if kkind (kR h v0 54) = 21 then if (s.2.2 < 0 ∨ klen (kR h v0 54) ≤ (s.2.2).toNatClampNeg) then none else kl (s.1 + (kL h (kR h v0 54) ((s.2.2).toNatClampNeg))) fun x20 =>
  f_X12_likelier_b78 h v0 v2 v3 x20 s.2.1 s.2.2 else none else none
  else
  if (kR h v0 54) < 999999 then if kkind (kR h v0 54) = 21 then if (s.2.2 < 0 ∨ klen (kR h v0 54) ≤ (s.2.2).toNatClampNeg) then none else kl (s.2.1 + (kL h (kR h v0 54) ((s.2.2).toNatClampNeg))) fun x15 =>
  f_X12_likelier_b78 h v0 v2 v3 s.1 x15 s.2.2 else none else none
  else
  f_X12_likelier_b78 h v0 v2 v3 s.1 s.2.1 s.2.2 else none else none else none
set_option maxHeartbeats 4000000 in
set_option maxRecDepth 100000 in
theorem s_X12_likelier_l14 {Z : Nat → (Nat → Nat) → State → Prop} (h : KH) (v0 : Nat) (v2 : Int32) (v3 : Int32) (s : Int64 × Int64 × Int32) (t : (Int64 × Int64 × Int32) ⊕ (Int64 × Int64)) (hn : (h).1 = 243) (H : f_X12_likelier_l14 h v0 v2 v3 s = some t) : KX Z RX12 cX12_likelier 9 false 2 (B_X12_likelier_l14 h v0 v2 v3 t) 14 [(0, .ref v0), (2, .int v2), (3, .int v3), (4, .long s.1), (6, .long s.2.1), (8, .int s.2.2)] [] h := by
  unfold f_X12_likelier_l14 at H
  refine x_iload (q := 16) dX12_likelier_14 rfl rfl ?_
  refine x_bipush (q := 18) (v := (72 : Int32)) dX12_likelier_16 rfl (by decide) ?_
  replace H := kite H; rcases H with ⟨g1, H⟩ | ⟨g1, H⟩
  · refine x_icmp_ge_t dX12_likelier_18 (q := 84) (by decide) g1 ?_
    cases H
    refine x_sub (ls2 := [(4, .long s.1), (6, .long s.2.1)]) [3, 4] rfl ?_
    exact x_end (x_cfg rfl)
  · refine x_icmp_ge_f (q := 21) dX12_likelier_18 (t := 84) (by decide) rfl g1 ?_
    refine x_aload_n (q := 22) dX12_likelier_21 rfl rfl ?_
    replace H := kif H; obtain ⟨g2, H⟩ := H
    replace H := kif H; obtain ⟨g3, H⟩ := H
    refine x_getR (q := 25) dX12_likelier_22 rfl kl_RX12_136 rfl (k243 g2 (by decide) hn) g3 ?_
    refine x_iload (q := 27) dX12_likelier_25 rfl rfl ?_
    replace H := kif H; obtain ⟨g4, H⟩ := H
    replace H := kifn H; obtain ⟨g5, H⟩ := H
    refine x_iald (q := 28) dX12_likelier_27 rfl (k243 g4 (by decide) hn) g5 ?_
    refine x_aload_n (q := 29) dX12_likelier_28 rfl rfl ?_
    refine x_getR (q := 32) dX12_likelier_29 rfl kl_RX12_136 rfl (k243 g2 (by decide) hn) g3 ?_
    refine x_iload_n (q := 33) dX12_likelier_32 rfl rfl ?_
    replace H := kifn H; obtain ⟨g6, H⟩ := H
    refine x_iald (q := 34) dX12_likelier_33 rfl (k243 g4 (by decide) hn) g6 ?_
    refine x_ixor (q := 35) dX12_likelier_34 rfl ?_
    refine x_iload_n (q := 36) dX12_likelier_35 rfl rfl ?_
    refine x_iand (q := 37) dX12_likelier_36 rfl ?_
    replace H := kite H; rcases H with ⟨g7, H⟩ | ⟨g7, H⟩
    · refine x_if_eq_t dX12_likelier_37 (q := 43) (by decide) g7 ?_
      refine x_iload (q := 45) dX12_likelier_43 rfl rfl ?_
      replace H := kbe H; obtain ⟨r8, c9, H⟩ := H
      have m10 := s_X12_truthOf (Z := Z) h s.2.2 hn c9
      refine x_callS (q := 48) (as := [.int s.2.2]) (rest := []) dX12_likelier_45 rfl kc_RX12_393 kh_X12_truthOf (by decide) (Nat.le_of_ble_eq_true rfl) m10 ?_
      replace H := kite H; rcases H with ⟨g11, H⟩ | ⟨g11, H⟩
      · refine x_if_ne_f (q := 51) dX12_likelier_48 (t := 66) (by decide) rfl g11 ?_
        refine x_lload (q := 53) dX12_likelier_51 rfl rfl ?_
        refine x_aload_n (q := 54) dX12_likelier_53 rfl rfl ?_
        replace H := kif H; obtain ⟨g17, H⟩ := H
        refine x_getR (q := 57) dX12_likelier_54 rfl kl_RX12_133 rfl (k243 g2 (by decide) hn) g17 ?_
        refine x_iload (q := 59) dX12_likelier_57 rfl rfl ?_
        replace H := kif H; obtain ⟨g18, H⟩ := H
        replace H := kifn H; obtain ⟨g19, H⟩ := H
        refine x_lald (q := 60) dX12_likelier_59 rfl (k243 g18 (by decide) hn) g19 ?_
        refine x_ladd (q := 61) dX12_likelier_60 rfl ?_
        replace H := kle H; obtain ⟨x20, q21, H⟩ := H
        refine x_nmL q21 ?_
        refine x_lstore (q := 63) (i := 4) (ls2 := [(4, .long x20), (0, .ref v0), (2, .int v2), (3, .int v3), (6, .long s.2.1), (8, .int s.2.2)]) dX12_likelier_61 rfl (by decide) rfl ?_
        refine x_goto dX12_likelier_63 (q := 78) (by decide) ?_
        refine x_sub (ls2 := [(0, .ref v0), (2, .int v2), (3, .int v3), (4, .long x20), (6, .long s.2.1), (8, .int s.2.2)]) [1, 2, 3, 0, 4, 5] rfl ?_
        exact s_X12_likelier_b78 h v0 v2 v3 x20 s.2.1 s.2.2 hn H
      · refine x_if_ne_t dX12_likelier_48 (q := 66) (by decide) g11 ?_
        refine x_lload (q := 68) dX12_likelier_66 rfl rfl ?_
        refine x_aload_n (q := 69) dX12_likelier_68 rfl rfl ?_
        replace H := kif H; obtain ⟨g12, H⟩ := H
        refine x_getR (q := 72) dX12_likelier_69 rfl kl_RX12_133 rfl (k243 g2 (by decide) hn) g12 ?_
        refine x_iload (q := 74) dX12_likelier_72 rfl rfl ?_
        replace H := kif H; obtain ⟨g13, H⟩ := H
        replace H := kifn H; obtain ⟨g14, H⟩ := H
        refine x_lald (q := 75) dX12_likelier_74 rfl (k243 g13 (by decide) hn) g14 ?_
        refine x_ladd (q := 76) dX12_likelier_75 rfl ?_
        replace H := kle H; obtain ⟨x15, q16, H⟩ := H
        refine x_nmL q16 ?_
        refine x_lstore (q := 78) (i := 6) (ls2 := [(6, .long x15), (0, .ref v0), (2, .int v2), (3, .int v3), (4, .long s.1), (8, .int s.2.2)]) dX12_likelier_76 rfl (by decide) rfl ?_
        refine x_sub (ls2 := [(0, .ref v0), (2, .int v2), (3, .int v3), (4, .long s.1), (6, .long x15), (8, .int s.2.2)]) [1, 2, 3, 4, 0, 5] rfl ?_
        exact s_X12_likelier_b78 h v0 v2 v3 s.1 x15 s.2.2 hn H
    · refine x_if_eq_f (q := 40) dX12_likelier_37 (t := 43) (by decide) rfl g7 ?_
      refine x_goto dX12_likelier_40 (q := 78) (by decide) ?_
      refine x_sub (ls2 := [(0, .ref v0), (2, .int v2), (3, .int v3), (4, .long s.1), (6, .long s.2.1), (8, .int s.2.2)]) [0, 1, 2, 3, 4, 5] rfl ?_
      exact s_X12_likelier_b78 h v0 v2 v3 s.1 s.2.1 s.2.2 hn H
theorem sl_X12_likelier_l14 {Z : Nat → (Nat → Nat) → State → Prop} (h : KH) (v0 : Nat) (v2 : Int32) (v3 : Int32) (n : Nat) (s : Int64 × Int64 × Int32) (r : Int64 × Int64) (hn : (h).1 = 243) (H : kloop (f_X12_likelier_l14 h v0 v2 v3) n s = some r) : KX Z RX12 cX12_likelier 9 false 2 (E_X12_likelier_l14 h v0 v2 v3 r) 14 [(0, .ref v0), (2, .int v2), (3, .int v3), (4, .long s.1), (6, .long s.2.1), (8, .int s.2.2)] [] h :=
  k_loop (ls := (fun (s : Int64 × Int64 × Int32) => ([(0, .ref v0), (2, .int v2), (3, .int v3), (4, .long s.1), (6, .long s.2.1), (8, .int s.2.2)] : List (Nat × Value)))) (hp := (fun (s : Int64 × Int64 × Int32) => (h : KH))) (G := E_X12_likelier_l14 h v0 v2 v3) (fun s t hn H => s_X12_likelier_l14 h v0 v2 v3 s t hn H) n s r hn H
def f_X12_likelier (h : KH) (v0 : Nat) (v1 : Int32) (v2 : Int32) : Option (Int32) :=
  kb (f_X12_maskOf h v1) fun r1 =>
  kb (kloop (f_X12_likelier_l14 h v0 v2 r1) KF ((0 : Int64), (0 : Int64), (0 : Int32))) fun e4 =>
  if (lg_cmp e4.1 e4.2) < 0 then
  some (1 : Int32)
  else
  some (0 : Int32)
set_option maxHeartbeats 4000000 in
set_option maxRecDepth 100000 in
theorem s0_X12_likelier {Z : Nat → (Nat → Nat) → State → Prop} (h : KH) (v0 : Nat) (v1 : Int32) (v2 : Int32) {t : Int32} (hn : h.1 = 243) (H : f_X12_likelier h v0 v1 v2 = some t) : KX Z RX12 cX12_likelier 9 false 2 (KRi cX12_likelier t h) 0 [(0, .ref v0), (1, .int v1), (2, .int v2)] [] h := by
  unfold f_X12_likelier at H
  refine x_iload_n (q := 1) dX12_likelier_0 rfl rfl ?_
  replace H := kbe H; obtain ⟨r1, c2, H⟩ := H
  have m3 := s_X12_maskOf (Z := Z) h v1 hn c2
  refine x_callS (q := 4) (as := [.int v1]) (rest := []) dX12_likelier_1 rfl kc_RX12_435 kh_X12_maskOf (by decide) (Nat.le_of_ble_eq_true rfl) m3 ?_
  refine x_istore_n (q := 5) (i := 3) (ls2 := [(3, .int r1), (0, .ref v0), (1, .int v1), (2, .int v2)]) dX12_likelier_4 rfl rfl (by decide) rfl ?_
  refine x_lconst (q := 6) (v := (0 : Int64)) dX12_likelier_5 rfl (by decide) ?_
  refine x_lstore (q := 8) (i := 4) (ls2 := [(4, .long (0 : Int64)), (3, .int r1), (0, .ref v0), (1, .int v1), (2, .int v2)]) dX12_likelier_6 rfl (by decide) rfl ?_
  refine x_lconst (q := 9) (v := (0 : Int64)) dX12_likelier_8 rfl (by decide) ?_
  refine x_lstore (q := 11) (i := 6) (ls2 := [(6, .long (0 : Int64)), (4, .long (0 : Int64)), (3, .int r1), (0, .ref v0), (1, .int v1), (2, .int v2)]) dX12_likelier_9 rfl (by decide) rfl ?_
  refine x_iconst (q := 12) (v := (0 : Int32)) dX12_likelier_11 rfl (by decide) ?_
  refine x_istore (q := 14) (i := 8) (ls2 := [(8, .int (0 : Int32)), (6, .long (0 : Int64)), (4, .long (0 : Int64)), (3, .int r1), (0, .ref v0), (1, .int v1), (2, .int v2)]) dX12_likelier_12 rfl (by decide) rfl ?_
  refine x_sub (ls2 := [(0, .ref v0), (2, .int v2), (3, .int r1), (4, .long (0 : Int64)), (6, .long (0 : Int64)), (8, .int (0 : Int32))]) [4, 6, 3, 2, 1, 0] rfl ?_
  replace H := kbe H; obtain ⟨e4, c5, H⟩ := H
  refine x_app (sl_X12_likelier_l14 h v0 v2 r1 KF ((0 : Int64), (0 : Int64), (0 : Int32)) e4 hn c5) fun pc2 ls2 st2 h2 hg m6 => ?_
  obtain ⟨rfl, rfl, rfl, rfl⟩ := hg
  refine x_lload (q := 86) dX12_likelier_84 rfl rfl ?_
  refine x_lload (q := 88) dX12_likelier_86 rfl rfl ?_
  refine x_lcmp (q := 89) dX12_likelier_88 rfl ?_
  replace H := kite H; rcases H with ⟨g7, H⟩ | ⟨g7, H⟩
  · refine x_if_lt_t dX12_likelier_89 (q := 96) (by decide) g7 ?_
    refine x_iconst (q := 97) (v := (1 : Int32)) dX12_likelier_96 rfl (by decide) ?_
    cases H
    exact x_end ⟨dX12_likelier_97, rfl, rfl⟩
  · refine x_if_lt_f (q := 92) dX12_likelier_89 (t := 96) (by decide) rfl g7 ?_
    refine x_iconst (q := 93) (v := (0 : Int32)) dX12_likelier_92 rfl (by decide) ?_
    refine x_goto dX12_likelier_93 (q := 97) (by decide) ?_
    cases H
    exact x_end ⟨dX12_likelier_97, rfl, rfl⟩
theorem s_X12_likelier {Z : Nat → (Nat → Nat) → State → Prop} (h : KH) (v0 : Nat) (v1 : Int32) (v2 : Int32) {t : Int32} (hn : h.1 = 243) (H : f_X12_likelier h v0 v1 v2 = some t) : KM Z yX12_likelier cX12_likelier 9 (some .int) 2 [.ref v0, .int v1, .int v2] h (some (.int t)) h :=
  kx_i (own := RX12) (ini := false) (by decide +kernel) (by decide +kernel) rfl (Nat.le_of_ble_eq_true rfl) (s0_X12_likelier h v0 v1 v2 hn H)
theorem dX12_caseGoes_0 : decode cX12_caseGoes 0 = .ok (.aload_n 0, 1) := by decide +kernel
theorem dX12_caseGoes_1 : decode cX12_caseGoes 1 = .ok (.bipush 100, 2) := by decide +kernel
theorem dX12_caseGoes_3 : decode cX12_caseGoes 3 = .ok (.invokevirtual 535, 3) := by decide +kernel
theorem dX12_caseGoes_6 : decode cX12_caseGoes 6 = .ok (.aload_n 0, 1) := by decide +kernel
theorem dX12_caseGoes_7 : decode cX12_caseGoes 7 = .ok (.getfield 103, 3) := by decide +kernel
theorem dX12_caseGoes_10 : decode cX12_caseGoes 10 = .ok (.iconst 2, 1) := by decide +kernel
theorem dX12_caseGoes_11 : decode cX12_caseGoes 11 = .ok (.iaload, 1) := by decide +kernel
theorem dX12_caseGoes_12 : decode cX12_caseGoes 12 = .ok (.if_icmp .ge 7, 3) := by decide +kernel
theorem dX12_caseGoes_15 : decode cX12_caseGoes 15 = .ok (.iconst 0, 1) := by decide +kernel
theorem dX12_caseGoes_16 : decode cX12_caseGoes 16 = .ok (.goto 4, 3) := by decide +kernel
theorem dX12_caseGoes_19 : decode cX12_caseGoes 19 = .ok (.iconst 1, 1) := by decide +kernel
theorem dX12_caseGoes_20 : decode cX12_caseGoes 20 = .ok (.istore_n 1, 1) := by decide +kernel
theorem dX12_caseGoes_21 : decode cX12_caseGoes 21 = .ok (.aload_n 0, 1) := by decide +kernel
theorem dX12_caseGoes_22 : decode cX12_caseGoes 22 = .ok (.iload_n 1, 1) := by decide +kernel
theorem dX12_caseGoes_23 : decode cX12_caseGoes 23 = .ok (.ifCond .ne 7, 3) := by decide +kernel
theorem dX12_caseGoes_26 : decode cX12_caseGoes 26 = .ok (.iconst 1, 1) := by decide +kernel
theorem dX12_caseGoes_27 : decode cX12_caseGoes 27 = .ok (.goto 4, 3) := by decide +kernel
theorem dX12_caseGoes_30 : decode cX12_caseGoes 30 = .ok (.iconst 0, 1) := by decide +kernel
theorem dX12_caseGoes_31 : decode cX12_caseGoes 31 = .ok (.invokevirtual 538, 3) := by decide +kernel
theorem dX12_caseGoes_34 : decode cX12_caseGoes 34 = .ok (.istore_n 2, 1) := by decide +kernel
theorem dX12_caseGoes_35 : decode cX12_caseGoes 35 = .ok (.iload_n 2, 1) := by decide +kernel
theorem dX12_caseGoes_36 : decode cX12_caseGoes 36 = .ok (.iconst (-1), 1) := by decide +kernel
theorem dX12_caseGoes_37 : decode cX12_caseGoes 37 = .ok (.if_icmp .ne 5, 3) := by decide +kernel
theorem dX12_caseGoes_40 : decode cX12_caseGoes 40 = .ok (.iconst 0, 1) := by decide +kernel
theorem dX12_caseGoes_41 : decode cX12_caseGoes 41 = .ok (.ireturn, 1) := by decide +kernel
theorem dX12_caseGoes_42 : decode cX12_caseGoes 42 = .ok (.aload_n 0, 1) := by decide +kernel
theorem dX12_caseGoes_43 : decode cX12_caseGoes 43 = .ok (.iload_n 1, 1) := by decide +kernel
theorem dX12_caseGoes_44 : decode cX12_caseGoes 44 = .ok (.iconst 1, 1) := by decide +kernel
theorem dX12_caseGoes_45 : decode cX12_caseGoes 45 = .ok (.if_icmp .ne 7, 3) := by decide +kernel
theorem dX12_caseGoes_48 : decode cX12_caseGoes 48 = .ok (.iconst 1, 1) := by decide +kernel
theorem dX12_caseGoes_49 : decode cX12_caseGoes 49 = .ok (.goto 4, 3) := by decide +kernel
theorem dX12_caseGoes_52 : decode cX12_caseGoes 52 = .ok (.iconst 0, 1) := by decide +kernel
theorem dX12_caseGoes_53 : decode cX12_caseGoes 53 = .ok (.invokevirtual 538, 3) := by decide +kernel
theorem dX12_caseGoes_56 : decode cX12_caseGoes 56 = .ok (.istore_n 3, 1) := by decide +kernel
theorem dX12_caseGoes_57 : decode cX12_caseGoes 57 = .ok (.iload_n 3, 1) := by decide +kernel
theorem dX12_caseGoes_58 : decode cX12_caseGoes 58 = .ok (.iconst (-1), 1) := by decide +kernel
theorem dX12_caseGoes_59 : decode cX12_caseGoes 59 = .ok (.if_icmp .ne 5, 3) := by decide +kernel
theorem dX12_caseGoes_62 : decode cX12_caseGoes 62 = .ok (.iconst 0, 1) := by decide +kernel
theorem dX12_caseGoes_63 : decode cX12_caseGoes 63 = .ok (.ireturn, 1) := by decide +kernel
theorem dX12_caseGoes_64 : decode cX12_caseGoes 64 = .ok (.aload_n 0, 1) := by decide +kernel
theorem dX12_caseGoes_65 : decode cX12_caseGoes 65 = .ok (.iconst 1, 1) := by decide +kernel
theorem dX12_caseGoes_66 : decode cX12_caseGoes 66 = .ok (.invokevirtual 478, 3) := by decide +kernel
theorem dX12_caseGoes_69 : decode cX12_caseGoes 69 = .ok (.aload_n 0, 1) := by decide +kernel
theorem dX12_caseGoes_70 : decode cX12_caseGoes 70 = .ok (.aload_n 0, 1) := by decide +kernel
theorem dX12_caseGoes_71 : decode cX12_caseGoes 71 = .ok (.invokevirtual 482, 3) := by decide +kernel
theorem dX12_caseGoes_74 : decode cX12_caseGoes 74 = .ok (.invokevirtual 485, 3) := by decide +kernel
theorem dX12_caseGoes_77 : decode cX12_caseGoes 77 = .ok (.istore 4, 2) := by decide +kernel
theorem dX12_caseGoes_79 : decode cX12_caseGoes 79 = .ok (.aload_n 0, 1) := by decide +kernel
theorem dX12_caseGoes_80 : decode cX12_caseGoes 80 = .ok (.iload 4, 2) := by decide +kernel
theorem dX12_caseGoes_82 : decode cX12_caseGoes 82 = .ok (.bipush 36, 2) := by decide +kernel
theorem dX12_caseGoes_84 : decode cX12_caseGoes 84 = .ok (.iload_n 1, 1) := by decide +kernel
theorem dX12_caseGoes_85 : decode cX12_caseGoes 85 = .ok (.imul, 1) := by decide +kernel
theorem dX12_caseGoes_86 : decode cX12_caseGoes 86 = .ok (.bipush 6, 2) := by decide +kernel
theorem dX12_caseGoes_88 : decode cX12_caseGoes 88 = .ok (.iload_n 2, 1) := by decide +kernel
theorem dX12_caseGoes_89 : decode cX12_caseGoes 89 = .ok (.imul, 1) := by decide +kernel
theorem dX12_caseGoes_90 : decode cX12_caseGoes 90 = .ok (.iadd, 1) := by decide +kernel
theorem dX12_caseGoes_91 : decode cX12_caseGoes 91 = .ok (.iload_n 3, 1) := by decide +kernel
theorem dX12_caseGoes_92 : decode cX12_caseGoes 92 = .ok (.iadd, 1) := by decide +kernel
theorem dX12_caseGoes_93 : decode cX12_caseGoes 93 = .ok (.invokevirtual 542, 3) := by decide +kernel
theorem dX12_caseGoes_96 : decode cX12_caseGoes 96 = .ok (.istore 5, 2) := by decide +kernel
theorem dX12_caseGoes_98 : decode cX12_caseGoes 98 = .ok (.aload_n 0, 1) := by decide +kernel
theorem dX12_caseGoes_99 : decode cX12_caseGoes 99 = .ok (.iload 5, 2) := by decide +kernel
theorem dX12_caseGoes_101 : decode cX12_caseGoes 101 = .ok (.iload 4, 2) := by decide +kernel
theorem dX12_caseGoes_103 : decode cX12_caseGoes 103 = .ok (.iload 5, 2) := by decide +kernel
theorem dX12_caseGoes_105 : decode cX12_caseGoes 105 = .ok (.iload_n 1, 1) := by decide +kernel
theorem dX12_caseGoes_106 : decode cX12_caseGoes 106 = .ok (.if_icmp .ne 7, 3) := by decide +kernel
theorem dX12_caseGoes_109 : decode cX12_caseGoes 109 = .ok (.iconst 1, 1) := by decide +kernel
theorem dX12_caseGoes_110 : decode cX12_caseGoes 110 = .ok (.goto 4, 3) := by decide +kernel
theorem dX12_caseGoes_113 : decode cX12_caseGoes 113 = .ok (.iconst 0, 1) := by decide +kernel
theorem dX12_caseGoes_114 : decode cX12_caseGoes 114 = .ok (.invokevirtual 523, 3) := by decide +kernel
theorem dX12_caseGoes_117 : decode cX12_caseGoes 117 = .ok (.iload 5, 2) := by decide +kernel
theorem dX12_caseGoes_119 : decode cX12_caseGoes 119 = .ok (.iload_n 1, 1) := by decide +kernel
theorem dX12_caseGoes_120 : decode cX12_caseGoes 120 = .ok (.if_icmp .ne 7, 3) := by decide +kernel
theorem dX12_caseGoes_123 : decode cX12_caseGoes 123 = .ok (.iconst 1, 1) := by decide +kernel
theorem dX12_caseGoes_124 : decode cX12_caseGoes 124 = .ok (.goto 4, 3) := by decide +kernel
theorem dX12_caseGoes_127 : decode cX12_caseGoes 127 = .ok (.iconst 0, 1) := by decide +kernel
theorem dX12_caseGoes_128 : decode cX12_caseGoes 128 = .ok (.ireturn, 1) := by decide +kernel
theorem kc_RX12_538 : Cond.methodLink RX12 538 yX12_drawnKind ∈ ktG ∧ (Cond.instanceMethod yX12_drawnKind ∈ ktG ∧ Cond.selects yX12_drawnKind.cls yX12_drawnKind yX12_drawnKind ∈ ktG) ∧ Cond.initialized yX12_drawnKind.cls ∈ ktG ∧ Cond.code yX12_drawnKind cX12_drawnKind 6 (some .int) ∈ ktG := ⟨(kwm 1956 (by decide +kernel) (by decide +kernel)), ⟨(kwm 1958 (by decide +kernel) (by decide +kernel)), (kwm 112 (by decide +kernel) (by decide +kernel))⟩, (kwm 139 (by decide +kernel) (by decide +kernel)), kwm 1959 (by decide +kernel) (by decide +kernel)⟩
theorem kh_X12_drawnKind : yX12_drawnKind.cls ≠ "java/lang/invoke/MethodHandle" ∧ yX12_drawnKind.cls ≠ "java/lang/invoke/VarHandle" ∧ (parseMethodDescriptor yX12_drawnKind.desc).map (fun d => d.parameters.length) = some 1 := by decide +kernel
theorem kc_RX12_542 : Cond.methodLink RX12 542 yX12_likelier ∈ ktG ∧ (Cond.instanceMethod yX12_likelier ∈ ktG ∧ Cond.selects yX12_likelier.cls yX12_likelier yX12_likelier ∈ ktG) ∧ Cond.initialized yX12_likelier.cls ∈ ktG ∧ Cond.code yX12_likelier cX12_likelier 9 (some .int) ∈ ktG := ⟨(kwm 1960 (by decide +kernel) (by decide +kernel)), ⟨(kwm 1962 (by decide +kernel) (by decide +kernel)), (kwm 113 (by decide +kernel) (by decide +kernel))⟩, (kwm 139 (by decide +kernel) (by decide +kernel)), kwm 1963 (by decide +kernel) (by decide +kernel)⟩
theorem kh_X12_likelier : yX12_likelier.cls ≠ "java/lang/invoke/MethodHandle" ∧ yX12_likelier.cls ≠ "java/lang/invoke/VarHandle" ∧ (parseMethodDescriptor yX12_likelier.desc).map (fun d => d.parameters.length) = some 2 := by decide +kernel
def f_X12_caseGoes_b114 (h : KH) (v1 : Int32) (v5 : Int32) (w0 : Nat) (w1 : Int32) (w2 : Int32) (w3 : Int32) : Option (Int32 × KH) :=
  if kkind w0 = 12 then kb (f_X12_isJudged h w0 w1 w2 w3) fun r2 =>
  if v5 = v1 then
  some ((1 : Int32), r2)
  else
  some ((0 : Int32), r2) else none
set_option maxHeartbeats 4000000 in
set_option maxRecDepth 100000 in
theorem s_X12_caseGoes_b114 {Z : Nat → (Nat → Nat) → State → Prop} (h : KH) (v1 : Int32) (v5 : Int32) (w0 : Nat) (w1 : Int32) (w2 : Int32) (w3 : Int32) {t : Int32 × KH} (hn : h.1 = 243) (H : f_X12_caseGoes_b114 h v1 v5 w0 w1 w2 w3 = some t) : KX Z RX12 cX12_caseGoes 6 false 6 (KRz cX12_caseGoes t.1 t.2) 114 [(1, .int v1), (5, .int v5)] [.int w3, .int w2, .int w1, .ref w0] h := by
  unfold f_X12_caseGoes_b114 at H
  replace H := kif H; obtain ⟨g1, H⟩ := H
  replace H := kbe H; obtain ⟨r2, c3, H⟩ := H
  have m4 := s_X12_isJudged (Z := Z) h w0 w1 w2 w3 hn c3
  refine x_callV (q := 117) (as := [.int w1, .int w2, .int w3]) (rest := []) dX12_caseGoes_114 rfl kc_RX12_523 kh_X12_isJudged (by decide) (Nat.le_of_ble_eq_true rfl) m4 (ci := 12) (by exact ⟨rfl, by decide⟩) (k243 g1 (by decide) hn) ?_
  have n5 : (r2).1 = 243 := m4.1.full hn
  refine x_iload (q := 119) dX12_caseGoes_117 rfl rfl ?_
  refine x_iload_n (q := 120) dX12_caseGoes_119 rfl rfl ?_
  replace H := kite H; rcases H with ⟨g6, H⟩ | ⟨g6, H⟩
  · refine x_icmp_ne_f (q := 123) dX12_caseGoes_120 (t := 127) (by decide) rfl g6 ?_
    refine x_iconst (q := 124) (v := (1 : Int32)) dX12_caseGoes_123 rfl (by decide) ?_
    refine x_goto dX12_caseGoes_124 (q := 128) (by decide) ?_
    cases H
    exact x_end ⟨(Or.inr rfl), dX12_caseGoes_128, rfl, rfl⟩
  · refine x_icmp_ne_t dX12_caseGoes_120 (q := 127) (by decide) g6 ?_
    refine x_iconst (q := 128) (v := (0 : Int32)) dX12_caseGoes_127 rfl (by decide) ?_
    cases H
    exact x_end ⟨(Or.inl rfl), dX12_caseGoes_128, rfl, rfl⟩
def f_X12_caseGoes_b53 (h : KH) (v0 : Nat) (v1 : Int32) (v2 : Int32) (w0 : Nat) (w1 : Int32) : Option (Int32 × KH) :=
  if kkind w0 = 12 then kb (f_X12_drawnKind h w0 w1) fun r2 =>
  if r2.1 = (-1 : Int32) then
  some ((0 : Int32), r2.2)
  else
  if kkind v0 = 12 then kb (f_X12_laysWorlds r2.2 v0 (1 : Int32)) fun r8 =>
  kb (f_X12_allTests r8 v0) fun r12 =>
  kb (f_X12_bestSet r8 v0 r12) fun r15 =>
  kb (f_X12_likelier r15.2 v0 r15.1 ((((36 : Int32) * v1) + ((6 : Int32) * v2)) + r2.1)) fun r19 =>
  if r19 = v1 then
  f_X12_caseGoes_b114 r15.2 v1 r19 v0 r19 r15.1 (1 : Int32)
  else
  f_X12_caseGoes_b114 r15.2 v1 r19 v0 r19 r15.1 (0 : Int32) else none else none
set_option maxHeartbeats 4000000 in
set_option maxRecDepth 100000 in
theorem s_X12_caseGoes_b53 {Z : Nat → (Nat → Nat) → State → Prop} (h : KH) (v0 : Nat) (v1 : Int32) (v2 : Int32) (w0 : Nat) (w1 : Int32) {t : Int32 × KH} (hn : h.1 = 243) (H : f_X12_caseGoes_b53 h v0 v1 v2 w0 w1 = some t) : KX Z RX12 cX12_caseGoes 6 false 6 (KRz cX12_caseGoes t.1 t.2) 53 [(0, .ref v0), (1, .int v1), (2, .int v2)] [.int w1, .ref w0] h := by
  unfold f_X12_caseGoes_b53 at H
  replace H := kif H; obtain ⟨g1, H⟩ := H
  replace H := kbe H; obtain ⟨r2, c3, H⟩ := H
  have m4 := s_X12_drawnKind (Z := Z) h w0 w1 hn c3
  refine x_callV (q := 56) (as := [.int w1]) (rest := []) dX12_caseGoes_53 rfl kc_RX12_538 kh_X12_drawnKind (by decide) (Nat.le_of_ble_eq_true rfl) m4 (ci := 12) (by exact ⟨rfl, by decide⟩) (k243 g1 (by decide) hn) ?_
  have n5 : (r2.2).1 = 243 := m4.1.full hn
  refine x_istore_n (q := 57) (i := 3) (ls2 := [(3, .int r2.1), (0, .ref v0), (1, .int v1), (2, .int v2)]) dX12_caseGoes_56 rfl rfl (by decide) rfl ?_
  refine x_iload_n (q := 58) dX12_caseGoes_57 rfl rfl ?_
  refine x_iconst (q := 59) (v := (-1 : Int32)) dX12_caseGoes_58 rfl (by decide) ?_
  replace H := kite H; rcases H with ⟨g6, H⟩ | ⟨g6, H⟩
  · refine x_icmp_ne_f (q := 62) dX12_caseGoes_59 (t := 64) (by decide) rfl g6 ?_
    refine x_iconst (q := 63) (v := (0 : Int32)) dX12_caseGoes_62 rfl (by decide) ?_
    cases H
    exact x_end ⟨(Or.inl rfl), dX12_caseGoes_63, rfl, rfl⟩
  · refine x_icmp_ne_t dX12_caseGoes_59 (q := 64) (by decide) g6 ?_
    refine x_aload_n (q := 65) dX12_caseGoes_64 rfl rfl ?_
    refine x_iconst (q := 66) (v := (1 : Int32)) dX12_caseGoes_65 rfl (by decide) ?_
    replace H := kif H; obtain ⟨g7, H⟩ := H
    replace H := kbe H; obtain ⟨r8, c9, H⟩ := H
    have m10 := s_X12_laysWorlds (Z := Z) r2.2 v0 (1 : Int32) n5 c9
    refine x_callV (q := 69) (as := [.int (1 : Int32)]) (rest := []) dX12_caseGoes_66 rfl kc_RX12_478 kh_X12_laysWorlds (by decide) (Nat.le_of_ble_eq_true rfl) m10 (ci := 12) (by exact ⟨rfl, by decide⟩) (k243 g7 (by decide) n5) ?_
    have n11 : (r8).1 = 243 := m10.1.full n5
    refine x_aload_n (q := 70) dX12_caseGoes_69 rfl rfl ?_
    refine x_aload_n (q := 71) dX12_caseGoes_70 rfl rfl ?_
    replace H := kbe H; obtain ⟨r12, c13, H⟩ := H
    have m14 := s_X12_allTests (Z := Z) r8 v0 n11 c13
    refine x_callV (q := 74) (as := []) (rest := [.ref v0]) dX12_caseGoes_71 rfl kc_RX12_482 kh_X12_allTests (by decide) (Nat.le_of_ble_eq_true rfl) m14 (ci := 12) (by exact ⟨rfl, by decide⟩) (k243 g7 (by decide) n11) ?_
    replace H := kbe H; obtain ⟨r15, c16, H⟩ := H
    have m17 := s_X12_bestSet (Z := Z) r8 v0 r12 n11 c16
    refine x_callV (q := 77) (as := [.int r12]) (rest := []) dX12_caseGoes_74 rfl kc_RX12_485 kh_X12_bestSet (by decide) (Nat.le_of_ble_eq_true rfl) m17 (ci := 12) (by exact ⟨rfl, by decide⟩) (k243 g7 (by decide) n11) ?_
    have n18 : (r15.2).1 = 243 := m17.1.full n11
    refine x_istore (q := 79) (i := 4) (ls2 := [(4, .int r15.1), (3, .int r2.1), (0, .ref v0), (1, .int v1), (2, .int v2)]) dX12_caseGoes_77 rfl (by decide) rfl ?_
    refine x_aload_n (q := 80) dX12_caseGoes_79 rfl rfl ?_
    refine x_iload (q := 82) dX12_caseGoes_80 rfl rfl ?_
    refine x_bipush (q := 84) (v := (36 : Int32)) dX12_caseGoes_82 rfl (by decide) ?_
    refine x_iload_n (q := 85) dX12_caseGoes_84 rfl rfl ?_
    refine x_imul (q := 86) dX12_caseGoes_85 rfl ?_
    refine x_bipush (q := 88) (v := (6 : Int32)) dX12_caseGoes_86 rfl (by decide) ?_
    refine x_iload_n (q := 89) dX12_caseGoes_88 rfl rfl ?_
    refine x_imul (q := 90) dX12_caseGoes_89 rfl ?_
    refine x_iadd (q := 91) dX12_caseGoes_90 rfl ?_
    refine x_iload_n (q := 92) dX12_caseGoes_91 rfl rfl ?_
    refine x_iadd (q := 93) dX12_caseGoes_92 rfl ?_
    replace H := kbe H; obtain ⟨r19, c20, H⟩ := H
    have m21 := s_X12_likelier (Z := Z) r15.2 v0 r15.1 ((((36 : Int32) * v1) + ((6 : Int32) * v2)) + r2.1) n18 c20
    refine x_callV (q := 96) (as := [.int r15.1, .int ((((36 : Int32) * v1) + ((6 : Int32) * v2)) + r2.1)]) (rest := []) dX12_caseGoes_93 rfl kc_RX12_542 kh_X12_likelier (by decide) (Nat.le_of_ble_eq_true rfl) m21 (ci := 12) (by exact ⟨rfl, by decide⟩) (k243 g7 (by decide) n18) ?_
    refine x_istore (q := 98) (i := 5) (ls2 := [(5, .int r19), (4, .int r15.1), (3, .int r2.1), (0, .ref v0), (1, .int v1), (2, .int v2)]) dX12_caseGoes_96 rfl (by decide) rfl ?_
    refine x_aload_n (q := 99) dX12_caseGoes_98 rfl rfl ?_
    refine x_iload (q := 101) dX12_caseGoes_99 rfl rfl ?_
    refine x_iload (q := 103) dX12_caseGoes_101 rfl rfl ?_
    refine x_iload (q := 105) dX12_caseGoes_103 rfl rfl ?_
    refine x_iload_n (q := 106) dX12_caseGoes_105 rfl rfl ?_
    replace H := kite H; rcases H with ⟨g22, H⟩ | ⟨g22, H⟩
    · refine x_icmp_ne_f (q := 109) dX12_caseGoes_106 (t := 113) (by decide) rfl g22 ?_
      refine x_iconst (q := 110) (v := (1 : Int32)) dX12_caseGoes_109 rfl (by decide) ?_
      refine x_goto dX12_caseGoes_110 (q := 114) (by decide) ?_
      refine x_sub (ls2 := [(1, .int v1), (5, .int r19)]) [4, 0] rfl ?_
      exact s_X12_caseGoes_b114 r15.2 v1 r19 v0 r19 r15.1 (1 : Int32) n18 H
    · refine x_icmp_ne_t dX12_caseGoes_106 (q := 113) (by decide) g22 ?_
      refine x_iconst (q := 114) (v := (0 : Int32)) dX12_caseGoes_113 rfl (by decide) ?_
      refine x_sub (ls2 := [(1, .int v1), (5, .int r19)]) [4, 0] rfl ?_
      exact s_X12_caseGoes_b114 r15.2 v1 r19 v0 r19 r15.1 (0 : Int32) n18 H
def f_X12_caseGoes_b31 (h : KH) (v0 : Nat) (v1 : Int32) (w0 : Nat) (w1 : Int32) : Option (Int32 × KH) :=
  if kkind w0 = 12 then kb (f_X12_drawnKind h w0 w1) fun r2 =>
  if r2.1 = (-1 : Int32) then
  some ((0 : Int32), r2.2)
  else
  if v1 = (1 : Int32) then
  f_X12_caseGoes_b53 r2.2 v0 v1 r2.1 v0 (1 : Int32)
  else
  f_X12_caseGoes_b53 r2.2 v0 v1 r2.1 v0 (0 : Int32) else none
set_option maxHeartbeats 4000000 in
set_option maxRecDepth 100000 in
theorem s_X12_caseGoes_b31 {Z : Nat → (Nat → Nat) → State → Prop} (h : KH) (v0 : Nat) (v1 : Int32) (w0 : Nat) (w1 : Int32) {t : Int32 × KH} (hn : h.1 = 243) (H : f_X12_caseGoes_b31 h v0 v1 w0 w1 = some t) : KX Z RX12 cX12_caseGoes 6 false 6 (KRz cX12_caseGoes t.1 t.2) 31 [(0, .ref v0), (1, .int v1)] [.int w1, .ref w0] h := by
  unfold f_X12_caseGoes_b31 at H
  replace H := kif H; obtain ⟨g1, H⟩ := H
  replace H := kbe H; obtain ⟨r2, c3, H⟩ := H
  have m4 := s_X12_drawnKind (Z := Z) h w0 w1 hn c3
  refine x_callV (q := 34) (as := [.int w1]) (rest := []) dX12_caseGoes_31 rfl kc_RX12_538 kh_X12_drawnKind (by decide) (Nat.le_of_ble_eq_true rfl) m4 (ci := 12) (by exact ⟨rfl, by decide⟩) (k243 g1 (by decide) hn) ?_
  have n5 : (r2.2).1 = 243 := m4.1.full hn
  refine x_istore_n (q := 35) (i := 2) (ls2 := [(2, .int r2.1), (0, .ref v0), (1, .int v1)]) dX12_caseGoes_34 rfl rfl (by decide) rfl ?_
  refine x_iload_n (q := 36) dX12_caseGoes_35 rfl rfl ?_
  refine x_iconst (q := 37) (v := (-1 : Int32)) dX12_caseGoes_36 rfl (by decide) ?_
  replace H := kite H; rcases H with ⟨g6, H⟩ | ⟨g6, H⟩
  · refine x_icmp_ne_f (q := 40) dX12_caseGoes_37 (t := 42) (by decide) rfl g6 ?_
    refine x_iconst (q := 41) (v := (0 : Int32)) dX12_caseGoes_40 rfl (by decide) ?_
    cases H
    exact x_end ⟨(Or.inl rfl), dX12_caseGoes_41, rfl, rfl⟩
  · refine x_icmp_ne_t dX12_caseGoes_37 (q := 42) (by decide) g6 ?_
    refine x_aload_n (q := 43) dX12_caseGoes_42 rfl rfl ?_
    refine x_iload_n (q := 44) dX12_caseGoes_43 rfl rfl ?_
    refine x_iconst (q := 45) (v := (1 : Int32)) dX12_caseGoes_44 rfl (by decide) ?_
    replace H := kite H; rcases H with ⟨g7, H⟩ | ⟨g7, H⟩
    · refine x_icmp_ne_f (q := 48) dX12_caseGoes_45 (t := 52) (by decide) rfl g7 ?_
      refine x_iconst (q := 49) (v := (1 : Int32)) dX12_caseGoes_48 rfl (by decide) ?_
      refine x_goto dX12_caseGoes_49 (q := 53) (by decide) ?_
      refine x_sub (ls2 := [(0, .ref v0), (1, .int v1), (2, .int r2.1)]) [1, 2, 0] rfl ?_
      exact s_X12_caseGoes_b53 r2.2 v0 v1 r2.1 v0 (1 : Int32) n5 H
    · refine x_icmp_ne_t dX12_caseGoes_45 (q := 52) (by decide) g7 ?_
      refine x_iconst (q := 53) (v := (0 : Int32)) dX12_caseGoes_52 rfl (by decide) ?_
      refine x_sub (ls2 := [(0, .ref v0), (1, .int v1), (2, .int r2.1)]) [1, 2, 0] rfl ?_
      exact s_X12_caseGoes_b53 r2.2 v0 v1 r2.1 v0 (0 : Int32) n5 H
def f_X12_caseGoes_b20 (h : KH) (v0 : Nat) (w0 : Int32) : Option (Int32 × KH) :=
  if w0 = 0 then
  f_X12_caseGoes_b31 h v0 w0 v0 (1 : Int32)
  else
  f_X12_caseGoes_b31 h v0 w0 v0 (0 : Int32)
set_option maxHeartbeats 4000000 in
set_option maxRecDepth 100000 in
theorem s_X12_caseGoes_b20 {Z : Nat → (Nat → Nat) → State → Prop} (h : KH) (v0 : Nat) (w0 : Int32) {t : Int32 × KH} (hn : h.1 = 243) (H : f_X12_caseGoes_b20 h v0 w0 = some t) : KX Z RX12 cX12_caseGoes 6 false 6 (KRz cX12_caseGoes t.1 t.2) 20 [(0, .ref v0)] [.int w0] h := by
  unfold f_X12_caseGoes_b20 at H
  refine x_istore_n (q := 21) (i := 1) (ls2 := [(1, .int w0), (0, .ref v0)]) dX12_caseGoes_20 rfl rfl (by decide) rfl ?_
  refine x_aload_n (q := 22) dX12_caseGoes_21 rfl rfl ?_
  refine x_iload_n (q := 23) dX12_caseGoes_22 rfl rfl ?_
  replace H := kite H; rcases H with ⟨g1, H⟩ | ⟨g1, H⟩
  · refine x_if_ne_f (q := 26) dX12_caseGoes_23 (t := 30) (by decide) rfl g1 ?_
    refine x_iconst (q := 27) (v := (1 : Int32)) dX12_caseGoes_26 rfl (by decide) ?_
    refine x_goto dX12_caseGoes_27 (q := 31) (by decide) ?_
    refine x_sub (ls2 := [(0, .ref v0), (1, .int w0)]) [1, 0] rfl ?_
    exact s_X12_caseGoes_b31 h v0 w0 v0 (1 : Int32) hn H
  · refine x_if_ne_t dX12_caseGoes_23 (q := 30) (by decide) g1 ?_
    refine x_iconst (q := 31) (v := (0 : Int32)) dX12_caseGoes_30 rfl (by decide) ?_
    refine x_sub (ls2 := [(0, .ref v0), (1, .int w0)]) [1, 0] rfl ?_
    exact s_X12_caseGoes_b31 h v0 w0 v0 (0 : Int32) hn H
def f_X12_caseGoes (h : KH) (v0 : Nat) : Option (Int32 × KH) :=
  if kkind v0 = 12 then kb (f_X12_drawOf h v0 (100 : Int32)) fun r2 =>
  if (kR r2.2 v0 38) < 999999 then if kkind (kR r2.2 v0 38) = 20 then if klen (kR r2.2 v0 38) ≤ 2 then none else if (kI r2.2 (kR r2.2 v0 38) 2) ≤ r2.1 then
  f_X12_caseGoes_b20 r2.2 v0 (1 : Int32)
  else
  f_X12_caseGoes_b20 r2.2 v0 (0 : Int32) else none else none else none
set_option maxHeartbeats 4000000 in
set_option maxRecDepth 100000 in
theorem s0_X12_caseGoes {Z : Nat → (Nat → Nat) → State → Prop} (h : KH) (v0 : Nat) {t : Int32 × KH} (hn : h.1 = 243) (H : f_X12_caseGoes h v0 = some t) : KX Z RX12 cX12_caseGoes 6 false 6 (KRz cX12_caseGoes t.1 t.2) 0 [(0, .ref v0)] [] h := by
  unfold f_X12_caseGoes at H
  refine x_aload_n (q := 1) dX12_caseGoes_0 rfl rfl ?_
  refine x_bipush (q := 3) (v := (100 : Int32)) dX12_caseGoes_1 rfl (by decide) ?_
  replace H := kif H; obtain ⟨g1, H⟩ := H
  replace H := kbe H; obtain ⟨r2, c3, H⟩ := H
  have m4 := s_X12_drawOf (Z := Z) h v0 (100 : Int32) hn c3
  refine x_callV (q := 6) (as := [.int (100 : Int32)]) (rest := []) dX12_caseGoes_3 rfl kc_RX12_535 kh_X12_drawOf (by decide) (Nat.le_of_ble_eq_true rfl) m4 (ci := 12) (by exact ⟨rfl, by decide⟩) (k243 g1 (by decide) hn) ?_
  have n5 : (r2.2).1 = 243 := m4.1.full hn
  refine x_aload_n (q := 7) dX12_caseGoes_6 rfl rfl ?_
  replace H := kif H; obtain ⟨g6, H⟩ := H
  refine x_getR (q := 10) dX12_caseGoes_7 rfl kl_RX12_103 rfl (k243 g1 (by decide) n5) g6 ?_
  refine x_iconst (q := 11) (v := (2 : Int32)) dX12_caseGoes_10 rfl (by decide) ?_
  replace H := kif H; obtain ⟨g7, H⟩ := H
  replace H := kifn H; obtain ⟨g8, H⟩ := H
  refine x_iald (q := 12) dX12_caseGoes_11 rfl (k243 g7 (by decide) n5) (fun z => z.elim (by decide) g8) ?_
  replace H := kite H; rcases H with ⟨g9, H⟩ | ⟨g9, H⟩
  · refine x_icmp_ge_t dX12_caseGoes_12 (q := 19) (by decide) g9 ?_
    refine x_iconst (q := 20) (v := (1 : Int32)) dX12_caseGoes_19 rfl (by decide) ?_
    refine x_sub (ls2 := [(0, .ref v0)]) [0] rfl ?_
    exact s_X12_caseGoes_b20 r2.2 v0 (1 : Int32) n5 H
  · refine x_icmp_ge_f (q := 15) dX12_caseGoes_12 (t := 19) (by decide) rfl g9 ?_
    refine x_iconst (q := 16) (v := (0 : Int32)) dX12_caseGoes_15 rfl (by decide) ?_
    refine x_goto dX12_caseGoes_16 (q := 20) (by decide) ?_
    refine x_sub (ls2 := [(0, .ref v0)]) [0] rfl ?_
    exact s_X12_caseGoes_b20 r2.2 v0 (0 : Int32) n5 H
theorem s_X12_caseGoes {Z : Nat → (Nat → Nat) → State → Prop} (h : KH) (v0 : Nat) {t : Int32 × KH} (hn : h.1 = 243) (H : f_X12_caseGoes h v0 = some t) : KM Z yX12_caseGoes cX12_caseGoes 6 (some .boolean) 6 [.ref v0] h (some (.int t.1)) t.2 :=
  kx_z (own := RX12) (ini := false) (by decide +kernel) (by decide +kernel) rfl (Nat.le_of_ble_eq_true rfl) (s0_X12_caseGoes h v0 hn H)
theorem dX12_chance_0 : decode cX12_chance 0 = .ok (.iload_n 1, 1) := by decide +kernel
theorem dX12_chance_1 : decode cX12_chance 1 = .ok (.i2l, 1) := by decide +kernel
theorem dX12_chance_2 : decode cX12_chance 2 = .ok (.lconst 1, 1) := by decide +kernel
theorem dX12_chance_3 : decode cX12_chance 3 = .ok (.ldc2_w 545, 3) := by decide +kernel
theorem dX12_chance_6 : decode cX12_chance 6 = .ok (.invokestatic 270, 3) := by decide +kernel
theorem dX12_chance_9 : decode cX12_chance 9 = .ok (.ifCond .eq 17, 3) := by decide +kernel
theorem dX12_chance_12 : decode cX12_chance 12 = .ok (.aload_n 0, 1) := by decide +kernel
theorem dX12_chance_13 : decode cX12_chance 13 = .ok (.getfield 115, 3) := by decide +kernel
theorem dX12_chance_16 : decode cX12_chance 16 = .ok (.iconst 0, 1) := by decide +kernel
theorem dX12_chance_17 : decode cX12_chance 17 = .ok (.iaload, 1) := by decide +kernel
theorem dX12_chance_18 : decode cX12_chance 18 = .ok (.iload_n 1, 1) := by decide +kernel
theorem dX12_chance_19 : decode cX12_chance 19 = .ok (.iadd, 1) := by decide +kernel
theorem dX12_chance_20 : decode cX12_chance 20 = .ok (.sipush 9999, 3) := by decide +kernel
theorem dX12_chance_23 : decode cX12_chance 23 = .ok (.if_icmp .le 9, 3) := by decide +kernel
theorem dX12_chance_26 : decode cX12_chance 26 = .ok (.aload_n 0, 1) := by decide +kernel
theorem dX12_chance_27 : decode cX12_chance 27 = .ok (.iconst 3, 1) := by decide +kernel
theorem dX12_chance_28 : decode cX12_chance 28 = .ok (.invokevirtual 508, 3) := by decide +kernel
theorem dX12_chance_31 : decode cX12_chance 31 = .ok (.ireturn, 1) := by decide +kernel
theorem dX12_chance_32 : decode cX12_chance 32 = .ok (.aload_n 0, 1) := by decide +kernel
theorem dX12_chance_33 : decode cX12_chance 33 = .ok (.invokevirtual 520, 3) := by decide +kernel
theorem dX12_chance_36 : decode cX12_chance 36 = .ok (.aload_n 0, 1) := by decide +kernel
theorem dX12_chance_37 : decode cX12_chance 37 = .ok (.invokevirtual 500, 3) := by decide +kernel
theorem dX12_chance_40 : decode cX12_chance 40 = .ok (.iconst 0, 1) := by decide +kernel
theorem dX12_chance_41 : decode cX12_chance 41 = .ok (.istore_n 2, 1) := by decide +kernel
theorem dX12_chance_42 : decode cX12_chance 42 = .ok (.iconst 0, 1) := by decide +kernel
theorem dX12_chance_43 : decode cX12_chance 43 = .ok (.istore_n 3, 1) := by decide +kernel
theorem dX12_chance_44 : decode cX12_chance 44 = .ok (.iload_n 3, 1) := by decide +kernel
theorem dX12_chance_45 : decode cX12_chance 45 = .ok (.iload_n 1, 1) := by decide +kernel
theorem dX12_chance_46 : decode cX12_chance 46 = .ok (.if_icmp .ge 19, 3) := by decide +kernel
theorem dX12_chance_49 : decode cX12_chance 49 = .ok (.aload_n 0, 1) := by decide +kernel
theorem dX12_chance_50 : decode cX12_chance 50 = .ok (.invokevirtual 547, 3) := by decide +kernel
theorem dX12_chance_53 : decode cX12_chance 53 = .ok (.ifCond .eq 6, 3) := by decide +kernel
theorem dX12_chance_56 : decode cX12_chance 56 = .ok (.iinc 2 1, 3) := by decide +kernel
theorem dX12_chance_59 : decode cX12_chance 59 = .ok (.iinc 3 1, 3) := by decide +kernel
theorem dX12_chance_62 : decode cX12_chance 62 = .ok (.goto (-18), 3) := by decide +kernel
theorem dX12_chance_65 : decode cX12_chance 65 = .ok (.iload_n 2, 1) := by decide +kernel
theorem dX12_chance_66 : decode cX12_chance 66 = .ok (.ireturn, 1) := by decide +kernel
theorem kk_RX12_545 : Jvm.Cond.constantLong RX12 545 (30 : Int64) ∈ ktG := kwm 1943 (by decide +kernel) (by decide +kernel)
theorem kc_RX12_547 : Cond.methodLink RX12 547 yX12_caseGoes ∈ ktG ∧ (Cond.instanceMethod yX12_caseGoes ∈ ktG ∧ Cond.selects yX12_caseGoes.cls yX12_caseGoes yX12_caseGoes ∈ ktG) ∧ Cond.initialized yX12_caseGoes.cls ∈ ktG ∧ Cond.code yX12_caseGoes cX12_caseGoes 6 (some .boolean) ∈ ktG := ⟨(kwm 1944 (by decide +kernel) (by decide +kernel)), ⟨(kwm 1946 (by decide +kernel) (by decide +kernel)), (kwm 110 (by decide +kernel) (by decide +kernel))⟩, (kwm 139 (by decide +kernel) (by decide +kernel)), kwm 1947 (by decide +kernel) (by decide +kernel)⟩
theorem kh_X12_caseGoes : yX12_caseGoes.cls ≠ "java/lang/invoke/MethodHandle" ∧ yX12_caseGoes.cls ≠ "java/lang/invoke/VarHandle" ∧ (parseMethodDescriptor yX12_caseGoes.desc).map (fun d => d.parameters.length) = some 0 := by decide +kernel
def f_X12_chance_b26 (h : KH) (v0 : Nat) : Option (Int32 × KH) :=
  if kkind v0 = 12 then kb (f_X12_refuses h v0 (3 : Int32)) fun r2 =>
  some (r2.1, r2.2) else none
set_option maxHeartbeats 4000000 in
set_option maxRecDepth 100000 in
theorem s_X12_chance_b26 {Z : Nat → (Nat → Nat) → State → Prop} (h : KH) (v0 : Nat) {t : Int32 × KH} (hn : h.1 = 243) (H : f_X12_chance_b26 h v0 = some t) : KX Z RX12 cX12_chance 4 false 7 (KRi cX12_chance t.1 t.2) 26 [(0, .ref v0)] [] h := by
  unfold f_X12_chance_b26 at H
  refine x_aload_n (q := 27) dX12_chance_26 rfl rfl ?_
  refine x_iconst (q := 28) (v := (3 : Int32)) dX12_chance_27 rfl (by decide) ?_
  replace H := kif H; obtain ⟨g1, H⟩ := H
  replace H := kbe H; obtain ⟨r2, c3, H⟩ := H
  have m4 := s_X12_refuses (Z := Z) h v0 (3 : Int32) hn c3
  refine x_callV (q := 31) (as := [.int (3 : Int32)]) (rest := []) dX12_chance_28 rfl kc_RX12_508 kh_X12_refuses (by decide) (Nat.le_of_ble_eq_true rfl) m4 (ci := 12) (by exact ⟨rfl, by decide⟩) (k243 g1 (by decide) hn) ?_
  have n5 : (r2.2).1 = 243 := m4.1.full hn
  cases H
  exact x_end ⟨dX12_chance_31, rfl, rfl⟩
def E_X12_chance_l44 (v0 : Nat) (v1 : Int32) : Int32 × KH → Nat → List (Nat × Value) → List Value → KH → Prop := fun (e : Int32 × KH) pc ls st hh => pc = 65 ∧ ls = [(2, .int e.1)] ∧ st = [] ∧ e.2 = hh
def B_X12_chance_l44 (v0 : Nat) (v1 : Int32) : ((Int32 × Int32 × KH) ⊕ (Int32 × KH)) → Nat → List (Nat × Value) → List Value → KH → Prop := Sum.elim (fun (s : Int32 × Int32 × KH) pc ls st hh => pc = 44 ∧ ls = [(0, .ref v0), (1, .int v1), (2, .int s.1), (3, .int s.2.1)] ∧ st = [] ∧ hh = s.2.2) (E_X12_chance_l44 v0 v1)
def f_X12_chance_b59 (h : KH) (v0 : Nat) (v1 : Int32) (v2 : Int32) (v3 : Int32) : Option ((Int32 × Int32 × KH) ⊕ (Int32 × KH)) :=
  kl (v3 + (1 : Int32)) fun x1 =>
  some (.inl (v2, x1, h))
set_option maxHeartbeats 4000000 in
set_option maxRecDepth 100000 in
theorem s_X12_chance_b59 {Z : Nat → (Nat → Nat) → State → Prop} (h : KH) (v0 : Nat) (v1 : Int32) (v2 : Int32) (v3 : Int32) {t : (Int32 × Int32 × KH) ⊕ (Int32 × KH)} (hn : h.1 = 243) (H : f_X12_chance_b59 h v0 v1 v2 v3 = some t) : KX Z RX12 cX12_chance 4 false 7 (B_X12_chance_l44 v0 v1 t) 59 [(0, .ref v0), (1, .int v1), (2, .int v2), (3, .int v3)] [] h := by
  unfold f_X12_chance_b59 at H
  replace H := kle H; obtain ⟨x1, q2, H⟩ := H
  refine x_iinc (q := 62) (i := 3) (ls2 := [(3, .int x1), (0, .ref v0), (1, .int v1), (2, .int v2)]) dX12_chance_59 rfl rfl (by decide) (by rw [q2]; rfl) ?_
  refine x_goto dX12_chance_62 (q := 44) (by decide) ?_
  cases H
  refine x_sub (ls2 := [(0, .ref v0), (1, .int v1), (2, .int v2), (3, .int x1)]) [1, 2, 3, 0] rfl ?_
  exact x_end (x_cfg rfl)
def f_X12_chance_l44 (v0 : Nat) (v1 : Int32) (s : Int32 × Int32 × KH) : Option ((Int32 × Int32 × KH) ⊕ (Int32 × KH)) :=
  if v1 ≤ s.2.1 then
  some (.inr (s.1, s.2.2))
  else
  if kkind v0 = 12 then kb (f_X12_caseGoes s.2.2 v0) fun r3 =>
  if r3.1 = 0 then
  f_X12_chance_b59 r3.2 v0 v1 s.1 s.2.1
  else
  kl (s.1 + (1 : Int32)) fun x8 =>
  f_X12_chance_b59 r3.2 v0 v1 x8 s.2.1 else none
set_option maxHeartbeats 4000000 in
set_option maxRecDepth 100000 in
theorem s_X12_chance_l44 {Z : Nat → (Nat → Nat) → State → Prop} (v0 : Nat) (v1 : Int32) (s : Int32 × Int32 × KH) (t : (Int32 × Int32 × KH) ⊕ (Int32 × KH)) (hn : (s.2.2).1 = 243) (H : f_X12_chance_l44 v0 v1 s = some t) : KX Z RX12 cX12_chance 4 false 7 (B_X12_chance_l44 v0 v1 t) 44 [(0, .ref v0), (1, .int v1), (2, .int s.1), (3, .int s.2.1)] [] s.2.2 := by
  unfold f_X12_chance_l44 at H
  refine x_iload_n (q := 45) dX12_chance_44 rfl rfl ?_
  refine x_iload_n (q := 46) dX12_chance_45 rfl rfl ?_
  replace H := kite H; rcases H with ⟨g1, H⟩ | ⟨g1, H⟩
  · refine x_icmp_ge_t dX12_chance_46 (q := 65) (by decide) g1 ?_
    cases H
    refine x_sub (ls2 := [(2, .int s.1)]) [2] rfl ?_
    exact x_end (x_cfg rfl)
  · refine x_icmp_ge_f (q := 49) dX12_chance_46 (t := 65) (by decide) rfl g1 ?_
    refine x_aload_n (q := 50) dX12_chance_49 rfl rfl ?_
    replace H := kif H; obtain ⟨g2, H⟩ := H
    replace H := kbe H; obtain ⟨r3, c4, H⟩ := H
    have m5 := s_X12_caseGoes (Z := Z) s.2.2 v0 hn c4
    refine x_callV (q := 53) (as := []) (rest := []) dX12_chance_50 rfl kc_RX12_547 kh_X12_caseGoes (by decide) (Nat.le_of_ble_eq_true rfl) m5 (ci := 12) (by exact ⟨rfl, by decide⟩) (k243 g2 (by decide) hn) ?_
    have n6 : (r3.2).1 = 243 := m5.1.full hn
    replace H := kite H; rcases H with ⟨g7, H⟩ | ⟨g7, H⟩
    · refine x_if_eq_t dX12_chance_53 (q := 59) (by decide) g7 ?_
      refine x_sub (ls2 := [(0, .ref v0), (1, .int v1), (2, .int s.1), (3, .int s.2.1)]) [0, 1, 2, 3] rfl ?_
      exact s_X12_chance_b59 r3.2 v0 v1 s.1 s.2.1 n6 H
    · refine x_if_eq_f (q := 56) dX12_chance_53 (t := 59) (by decide) rfl g7 ?_
      replace H := kle H; obtain ⟨x8, q9, H⟩ := H
      refine x_iinc (q := 59) (i := 2) (ls2 := [(2, .int x8), (0, .ref v0), (1, .int v1), (3, .int s.2.1)]) dX12_chance_56 rfl rfl (by decide) (by rw [q9]; rfl) ?_
      refine x_sub (ls2 := [(0, .ref v0), (1, .int v1), (2, .int x8), (3, .int s.2.1)]) [1, 2, 0, 3] rfl ?_
      exact s_X12_chance_b59 r3.2 v0 v1 x8 s.2.1 n6 H
theorem sl_X12_chance_l44 {Z : Nat → (Nat → Nat) → State → Prop} (v0 : Nat) (v1 : Int32) (n : Nat) (s : Int32 × Int32 × KH) (r : Int32 × KH) (hn : (s.2.2).1 = 243) (H : kloop (f_X12_chance_l44 v0 v1) n s = some r) : KX Z RX12 cX12_chance 4 false 7 (E_X12_chance_l44 v0 v1 r) 44 [(0, .ref v0), (1, .int v1), (2, .int s.1), (3, .int s.2.1)] [] s.2.2 :=
  k_loop (ls := (fun (s : Int32 × Int32 × KH) => ([(0, .ref v0), (1, .int v1), (2, .int s.1), (3, .int s.2.1)] : List (Nat × Value)))) (hp := (fun (s : Int32 × Int32 × KH) => (s.2.2 : KH))) (G := E_X12_chance_l44 v0 v1) (fun s t hn H => s_X12_chance_l44 v0 v1 s t hn H) n s r hn H
def f_X12_chance (h : KH) (v0 : Nat) (v1 : Int32) : Option (Int32 × KH) :=
  kb (f_X12_isIn h ((v1).toInt64) (1 : Int64) (30 : Int64)) fun r1 =>
  if r1 = 0 then
  f_X12_chance_b26 h v0
  else
  if kkind v0 = 12 then if (kR h v0 45) < 999999 then if kkind (kR h v0 45) = 20 then if klen (kR h v0 45) ≤ 0 then none else if ((kI h (kR h v0 45) 0) + v1) ≤ (9999 : Int32) then
  kb (f_X12_keeps h v0) fun r10 =>
  kb (f_X12_begins r10 v0) fun r14 =>
  kb (kloop (f_X12_chance_l44 v0 v1) KF ((0 : Int32), (0 : Int32), r14)) fun e18 =>
  some (e18.1, e18.2)
  else
  f_X12_chance_b26 h v0 else none else none else none
set_option maxHeartbeats 4000000 in
set_option maxRecDepth 100000 in
theorem s0_X12_chance {Z : Nat → (Nat → Nat) → State → Prop} (h : KH) (v0 : Nat) (v1 : Int32) {t : Int32 × KH} (hn : h.1 = 243) (H : f_X12_chance h v0 v1 = some t) : KX Z RX12 cX12_chance 4 false 7 (KRi cX12_chance t.1 t.2) 0 [(0, .ref v0), (1, .int v1)] [] h := by
  unfold f_X12_chance at H
  refine x_iload_n (q := 1) dX12_chance_0 rfl rfl ?_
  refine x_i2l (q := 2) dX12_chance_1 rfl ?_
  refine x_lconst (q := 3) (v := (1 : Int64)) dX12_chance_2 rfl (by decide) ?_
  refine x_ldc2 (q := 6) (v := (30 : Int64)) dX12_chance_3 rfl kk_RX12_545 ?_
  replace H := kbe H; obtain ⟨r1, c2, H⟩ := H
  have m3 := s_X12_isIn (Z := Z) h ((v1).toInt64) (1 : Int64) (30 : Int64) hn c2
  refine x_callS (q := 9) (as := [.long ((v1).toInt64), .long (1 : Int64), .long (30 : Int64)]) (rest := []) dX12_chance_6 rfl kc_RX12_270 kh_X12_isIn (by decide) (Nat.le_of_ble_eq_true rfl) m3 ?_
  replace H := kite H; rcases H with ⟨g4, H⟩ | ⟨g4, H⟩
  · refine x_if_eq_t dX12_chance_9 (q := 26) (by decide) g4 ?_
    refine x_sub (ls2 := [(0, .ref v0)]) [0] rfl ?_
    exact s_X12_chance_b26 h v0 hn H
  · refine x_if_eq_f (q := 12) dX12_chance_9 (t := 26) (by decide) rfl g4 ?_
    refine x_aload_n (q := 13) dX12_chance_12 rfl rfl ?_
    replace H := kif H; obtain ⟨g5, H⟩ := H
    replace H := kif H; obtain ⟨g6, H⟩ := H
    refine x_getR (q := 16) dX12_chance_13 rfl kl_RX12_115 rfl (k243 g5 (by decide) hn) g6 ?_
    refine x_iconst (q := 17) (v := (0 : Int32)) dX12_chance_16 rfl (by decide) ?_
    replace H := kif H; obtain ⟨g7, H⟩ := H
    replace H := kifn H; obtain ⟨g8, H⟩ := H
    refine x_iald (q := 18) dX12_chance_17 rfl (k243 g7 (by decide) hn) (fun z => z.elim (by decide) g8) ?_
    refine x_iload_n (q := 19) dX12_chance_18 rfl rfl ?_
    refine x_iadd (q := 20) dX12_chance_19 rfl ?_
    refine x_sipush (q := 23) (v := (9999 : Int32)) dX12_chance_20 rfl (by decide) ?_
    replace H := kite H; rcases H with ⟨g9, H⟩ | ⟨g9, H⟩
    · refine x_icmp_le_t dX12_chance_23 (q := 32) (by decide) g9 ?_
      refine x_aload_n (q := 33) dX12_chance_32 rfl rfl ?_
      replace H := kbe H; obtain ⟨r10, c11, H⟩ := H
      have m12 := s_X12_keeps (Z := Z) h v0 hn c11
      refine x_callV (q := 36) (as := []) (rest := []) dX12_chance_33 rfl kc_RX12_520 kh_X12_keeps (by decide) (Nat.le_of_ble_eq_true rfl) m12 (ci := 12) (by exact ⟨rfl, by decide⟩) (k243 g5 (by decide) hn) ?_
      have n13 : (r10).1 = 243 := m12.1.full hn
      refine x_aload_n (q := 37) dX12_chance_36 rfl rfl ?_
      replace H := kbe H; obtain ⟨r14, c15, H⟩ := H
      have m16 := s_X12_begins (Z := Z) r10 v0 n13 c15
      refine x_callV (q := 40) (as := []) (rest := []) dX12_chance_37 rfl kc_RX12_500 kh_X12_begins (by decide) (Nat.le_of_ble_eq_true rfl) m16 (ci := 12) (by exact ⟨rfl, by decide⟩) (k243 g5 (by decide) n13) ?_
      have n17 : (r14).1 = 243 := m16.1.full n13
      refine x_iconst (q := 41) (v := (0 : Int32)) dX12_chance_40 rfl (by decide) ?_
      refine x_istore_n (q := 42) (i := 2) (ls2 := [(2, .int (0 : Int32)), (0, .ref v0), (1, .int v1)]) dX12_chance_41 rfl rfl (by decide) rfl ?_
      refine x_iconst (q := 43) (v := (0 : Int32)) dX12_chance_42 rfl (by decide) ?_
      refine x_istore_n (q := 44) (i := 3) (ls2 := [(3, .int (0 : Int32)), (2, .int (0 : Int32)), (0, .ref v0), (1, .int v1)]) dX12_chance_43 rfl rfl (by decide) rfl ?_
      refine x_sub (ls2 := [(0, .ref v0), (1, .int v1), (2, .int (0 : Int32)), (3, .int (0 : Int32))]) [2, 3, 1, 0] rfl ?_
      replace H := kbe H; obtain ⟨e18, c19, H⟩ := H
      refine x_app (sl_X12_chance_l44 v0 v1 KF ((0 : Int32), (0 : Int32), r14) e18 n17 c19) fun pc2 ls2 st2 h2 hg m20 => ?_
      obtain ⟨rfl, rfl, rfl, rfl⟩ := hg
      refine x_iload_n (q := 66) dX12_chance_65 rfl rfl ?_
      cases H
      exact x_end ⟨dX12_chance_66, rfl, rfl⟩
    · refine x_icmp_le_f (q := 26) dX12_chance_23 (t := 32) (by decide) rfl g9 ?_
      refine x_sub (ls2 := [(0, .ref v0)]) [0] rfl ?_
      exact s_X12_chance_b26 h v0 hn H
theorem s_X12_chance {Z : Nat → (Nat → Nat) → State → Prop} (h : KH) (v0 : Nat) (v1 : Int32) {t : Int32 × KH} (hn : h.1 = 243) (H : f_X12_chance h v0 v1 = some t) : KM Z yX12_chance cX12_chance 4 (some .int) 7 [.ref v0, .int v1] h (some (.int t.1)) t.2 :=
  kx_i (own := RX12) (ini := false) (by decide +kernel) (by decide +kernel) rfl (Nat.le_of_ble_eq_true rfl) (s0_X12_chance h v0 v1 hn H)
theorem dX12_qOf_0 : decode cX12_qOf 0 = .ok (.iload_n 1, 1) := by decide +kernel
theorem dX12_qOf_1 : decode cX12_qOf 1 = .ok (.lookupswitch 11 #[], 11) := by decide +kernel
theorem dX12_qOf_12 : decode cX12_qOf 12 = .ok (.lload_n 2, 1) := by decide +kernel
theorem dX12_qOf_13 : decode cX12_qOf 13 = .ok (.lconst 0, 1) := by decide +kernel
theorem dX12_qOf_14 : decode cX12_qOf 14 = .ok (.aload_n 0, 1) := by decide +kernel
theorem dX12_qOf_15 : decode cX12_qOf 15 = .ok (.invokevirtual 364, 3) := by decide +kernel
theorem dX12_qOf_18 : decode cX12_qOf 18 = .ok (.iconst 1, 1) := by decide +kernel
theorem dX12_qOf_19 : decode cX12_qOf 19 = .ok (.isub, 1) := by decide +kernel
theorem dX12_qOf_20 : decode cX12_qOf 20 = .ok (.i2l, 1) := by decide +kernel
theorem dX12_qOf_21 : decode cX12_qOf 21 = .ok (.invokestatic 270, 3) := by decide +kernel
theorem dX12_qOf_24 : decode cX12_qOf 24 = .ok (.ifCond .eq 20, 3) := by decide +kernel
theorem dX12_qOf_27 : decode cX12_qOf 27 = .ok (.aload_n 0, 1) := by decide +kernel
theorem dX12_qOf_28 : decode cX12_qOf 28 = .ok (.getfield 124, 3) := by decide +kernel
theorem dX12_qOf_31 : decode cX12_qOf 31 = .ok (.bipush 6, 2) := by decide +kernel
theorem dX12_qOf_33 : decode cX12_qOf 33 = .ok (.iload 4, 2) := by decide +kernel
theorem dX12_qOf_35 : decode cX12_qOf 35 = .ok (.imul, 1) := by decide +kernel
theorem dX12_qOf_36 : decode cX12_qOf 36 = .ok (.lload_n 2, 1) := by decide +kernel
theorem dX12_qOf_37 : decode cX12_qOf 37 = .ok (.l2i, 1) := by decide +kernel
theorem dX12_qOf_38 : decode cX12_qOf 38 = .ok (.iadd, 1) := by decide +kernel
theorem dX12_qOf_39 : decode cX12_qOf 39 = .ok (.iaload, 1) := by decide +kernel
theorem dX12_qOf_40 : decode cX12_qOf 40 = .ok (.i2l, 1) := by decide +kernel
theorem dX12_qOf_41 : decode cX12_qOf 41 = .ok (.goto 4, 3) := by decide +kernel
theorem dX12_qOf_44 : decode cX12_qOf 44 = .ok (.lconst 0, 1) := by decide +kernel
theorem dX12_qOf_45 : decode cX12_qOf 45 = .ok (.lreturn, 1) := by decide +kernel
theorem kl_RX12_124 : KLk RX12 124 12 51 := ⟨RX12, TX12, 97, rfl, by decide, Or.inl (kwm 1248 (by decide +kernel) (by decide +kernel))⟩
def f_X12_qOf (h : KH) (v0 : Nat) (v1 : Int32) (v2 : Int64) (v4 : Int32) : Option (Int64) :=
  
  if kkind v0 = 12 then kb (f_X12_kindMany h v0) fun r2 =>
  kb (f_X12_isIn h v2 (0 : Int64) (((r2 - (1 : Int32))).toInt64)) fun r5 =>
  if r5 = 0 then
  some (0 : Int64)
  else
  if (kR h v0 51) < 999999 then if kkind (kR h v0 51) = 20 then if ((((6 : Int32) * v4) + ((v2).toInt32)) < 0 ∨ klen (kR h v0 51) ≤ ((((6 : Int32) * v4) + ((v2).toInt32))).toNatClampNeg) then none else some (((kI h (kR h v0 51) (((((6 : Int32) * v4) + ((v2).toInt32))).toNatClampNeg))).toInt64) else none else none else none
set_option maxHeartbeats 4000000 in
set_option maxRecDepth 100000 in
theorem s0_X12_qOf {Z : Nat → (Nat → Nat) → State → Prop} (h : KH) (v0 : Nat) (v1 : Int32) (v2 : Int64) (v4 : Int32) {t : Int64} (hn : h.1 = 243) (H : f_X12_qOf h v0 v1 v2 v4 = some t) : KX Z RX12 cX12_qOf 5 false 2 (KRl cX12_qOf t h) 0 [(0, .ref v0), (1, .int v1), (2, .long v2), (4, .int v4)] [] h := by
  unfold f_X12_qOf at H
  refine x_iload_n (q := 1) dX12_qOf_0 rfl rfl ?_
  refine x_lookup (off := 11) dX12_qOf_1 (by decide) (by rfl) (q := 12) (by decide) ?_
  refine x_lload_n (q := 13) dX12_qOf_12 rfl rfl ?_
  refine x_lconst (q := 14) (v := (0 : Int64)) dX12_qOf_13 rfl (by decide) ?_
  refine x_aload_n (q := 15) dX12_qOf_14 rfl rfl ?_
  replace H := kif H; obtain ⟨g1, H⟩ := H
  replace H := kbe H; obtain ⟨r2, c3, H⟩ := H
  have m4 := s_X12_kindMany (Z := Z) h v0 hn c3
  refine x_callV (q := 18) (as := []) (rest := [.long (0 : Int64), .long v2]) dX12_qOf_15 rfl kc_RX12_364 kh_X12_kindMany (by decide) (Nat.le_of_ble_eq_true rfl) m4 (ci := 12) (by exact ⟨rfl, by decide⟩) (k243 g1 (by decide) hn) ?_
  refine x_iconst (q := 19) (v := (1 : Int32)) dX12_qOf_18 rfl (by decide) ?_
  refine x_isub (q := 20) dX12_qOf_19 rfl ?_
  refine x_i2l (q := 21) dX12_qOf_20 rfl ?_
  replace H := kbe H; obtain ⟨r5, c6, H⟩ := H
  have m7 := s_X12_isIn (Z := Z) h v2 (0 : Int64) (((r2 - (1 : Int32))).toInt64) hn c6
  refine x_callS (q := 24) (as := [.long v2, .long (0 : Int64), .long (((r2 - (1 : Int32))).toInt64)]) (rest := []) dX12_qOf_21 rfl kc_RX12_270 kh_X12_isIn (by decide) (Nat.le_of_ble_eq_true rfl) m7 ?_
  replace H := kite H; rcases H with ⟨g8, H⟩ | ⟨g8, H⟩
  · refine x_if_eq_t dX12_qOf_24 (q := 44) (by decide) g8 ?_
    refine x_lconst (q := 45) (v := (0 : Int64)) dX12_qOf_44 rfl (by decide) ?_
    cases H
    exact x_end ⟨dX12_qOf_45, rfl, rfl⟩
  · refine x_if_eq_f (q := 27) dX12_qOf_24 (t := 44) (by decide) rfl g8 ?_
    refine x_aload_n (q := 28) dX12_qOf_27 rfl rfl ?_
    replace H := kif H; obtain ⟨g9, H⟩ := H
    refine x_getR (q := 31) dX12_qOf_28 rfl kl_RX12_124 rfl (k243 g1 (by decide) hn) g9 ?_
    refine x_bipush (q := 33) (v := (6 : Int32)) dX12_qOf_31 rfl (by decide) ?_
    refine x_iload (q := 35) dX12_qOf_33 rfl rfl ?_
    refine x_imul (q := 36) dX12_qOf_35 rfl ?_
    refine x_lload_n (q := 37) dX12_qOf_36 rfl rfl ?_
    refine x_l2i (q := 38) dX12_qOf_37 rfl ?_
    refine x_iadd (q := 39) dX12_qOf_38 rfl ?_
    replace H := kif H; obtain ⟨g10, H⟩ := H
    replace H := kifn H; obtain ⟨g11, H⟩ := H
    refine x_iald (q := 40) dX12_qOf_39 rfl (k243 g10 (by decide) hn) g11 ?_
    refine x_i2l (q := 41) dX12_qOf_40 rfl ?_
    refine x_goto dX12_qOf_41 (q := 45) (by decide) ?_
    cases H
    exact x_end ⟨dX12_qOf_45, rfl, rfl⟩
theorem s_X12_qOf {Z : Nat → (Nat → Nat) → State → Prop} (h : KH) (v0 : Nat) (v1 : Int32) (v2 : Int64) (v4 : Int32) {t : Int64} (hn : h.1 = 243) (H : f_X12_qOf h v0 v1 v2 v4 = some t) : KM Z yX12_qOf cX12_qOf 5 (some .long) 2 [.ref v0, .int v1, .long v2, .int v4] h (some (.long t)) h :=
  kx_l (own := RX12) (ini := false) (by decide +kernel) (by decide +kernel) rfl (Nat.le_of_ble_eq_true rfl) (s0_X12_qOf h v0 v1 v2 v4 hn H)
