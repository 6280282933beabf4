-- methods as functions, and that the machine does as they say (by wip/whole/gen_all.py): X12_qHasSquare, X12_qGoesOnTest, X12_qTest, X12_lawTold, X12_statementTold, X12_stands, X12_court, X12_fault, X12_kindMany, X12_testMany, X12_markMany, X12_isKind, X12_isTest, X12_heardOf, X12_stateOf, X12_markOf, X12_qPuts
theorem dX12_qHasSquare_0 : decode cX12_qHasSquare 0 = .ok (.iconst 0, 1) := by decide +kernel
theorem dX12_qHasSquare_1 : decode cX12_qHasSquare 1 = .ok (.istore_n 1, 1) := by decide +kernel
theorem dX12_qHasSquare_2 : decode cX12_qHasSquare 2 = .ok (.iload_n 1, 1) := by decide +kernel
theorem dX12_qHasSquare_3 : decode cX12_qHasSquare 3 = .ok (.aload_n 0, 1) := by decide +kernel
theorem dX12_qHasSquare_4 : decode cX12_qHasSquare 4 = .ok (.getfield 315, 3) := by decide +kernel
theorem dX12_qHasSquare_7 : decode cX12_qHasSquare 7 = .ok (.if_icmp .ge 22, 3) := by decide +kernel
theorem dX12_qHasSquare_10 : decode cX12_qHasSquare 10 = .ok (.aload_n 0, 1) := by decide +kernel
theorem dX12_qHasSquare_11 : decode cX12_qHasSquare 11 = .ok (.getfield 218, 3) := by decide +kernel
theorem dX12_qHasSquare_14 : decode cX12_qHasSquare 14 = .ok (.iload_n 1, 1) := by decide +kernel
theorem dX12_qHasSquare_15 : decode cX12_qHasSquare 15 = .ok (.iaload, 1) := by decide +kernel
theorem dX12_qHasSquare_16 : decode cX12_qHasSquare 16 = .ok (.bipush 25, 2) := by decide +kernel
theorem dX12_qHasSquare_18 : decode cX12_qHasSquare 18 = .ok (.if_icmp .ne 5, 3) := by decide +kernel
theorem dX12_qHasSquare_21 : decode cX12_qHasSquare 21 = .ok (.iconst 1, 1) := by decide +kernel
theorem dX12_qHasSquare_22 : decode cX12_qHasSquare 22 = .ok (.ireturn, 1) := by decide +kernel
theorem dX12_qHasSquare_23 : decode cX12_qHasSquare 23 = .ok (.iinc 1 1, 3) := by decide +kernel
theorem dX12_qHasSquare_26 : decode cX12_qHasSquare 26 = .ok (.goto (-24), 3) := by decide +kernel
theorem dX12_qHasSquare_29 : decode cX12_qHasSquare 29 = .ok (.iconst 0, 1) := by decide +kernel
theorem dX12_qHasSquare_30 : decode cX12_qHasSquare 30 = .ok (.ireturn, 1) := by decide +kernel
def E_X12_qHasSquare_l2 (h : KH) (v0 : Nat) : ((Unit) ⊕ (Int32)) → Nat → List (Nat × Value) → List Value → KH → Prop := Sum.elim (fun (e : Unit) pc ls st hh => pc = 29 ∧ ls = [] ∧ st = [] ∧ h = hh) (fun o => (KRz cX12_qHasSquare o h))
def B_X12_qHasSquare_l2 (h : KH) (v0 : Nat) : ((Int32) ⊕ ((Unit) ⊕ (Int32))) → Nat → List (Nat × Value) → List Value → KH → Prop := Sum.elim (fun (s : Int32) pc ls st hh => pc = 2 ∧ ls = [(0, .ref v0), (1, .int s)] ∧ st = [] ∧ hh = h) (E_X12_qHasSquare_l2 h v0)
def f_X12_qHasSquare_l2 (h : KH) (v0 : Nat) (s : Int32) : Option ((Int32) ⊕ ((Unit) ⊕ (Int32))) :=
  if kkind v0 = 12 then if (kI h v0 88) ≤ s then
  some (.inr (.inl ()))
  else
  if (kR h v0 87) < 999999 then if kkind (kR h v0 87) = 20 then if (s < 0 ∨ klen (kR h v0 87) ≤ (s).toNatClampNeg) then none else if (kI h (kR h v0 87) ((s).toNatClampNeg)) = (25 : Int32) then
  kout2 (some (1 : Int32))
  else
  kl (s + (1 : Int32)) fun x7 =>
  some (.inl x7) else none else none else none
set_option maxHeartbeats 4000000 in
set_option maxRecDepth 100000 in
theorem s_X12_qHasSquare_l2 {Z : Nat → (Nat → Nat) → State → Prop} (h : KH) (v0 : Nat) (s : Int32) (t : (Int32) ⊕ ((Unit) ⊕ (Int32))) (hn : (h).1 = 243) (H : f_X12_qHasSquare_l2 h v0 s = some t) : KX Z RX12 cX12_qHasSquare 2 false 1 (B_X12_qHasSquare_l2 h v0 t) 2 [(0, .ref v0), (1, .int s)] [] h := by
  unfold f_X12_qHasSquare_l2 at H
  refine x_iload_n (q := 3) dX12_qHasSquare_2 rfl rfl ?_
  refine x_aload_n (q := 4) dX12_qHasSquare_3 rfl rfl ?_
  replace H := kif H; obtain ⟨g1, H⟩ := H
  refine x_getI (q := 7) dX12_qHasSquare_4 rfl kl_RX12_315 (Or.inl rfl) (k243 g1 (by decide) hn) ?_
  replace H := kite H; rcases H with ⟨g2, H⟩ | ⟨g2, H⟩
  · refine x_icmp_ge_t dX12_qHasSquare_7 (q := 29) (by decide) g2 ?_
    cases H
    refine x_sub (ls2 := []) [] rfl ?_
    exact x_end (x_cfg rfl)
  · refine x_icmp_ge_f (q := 10) dX12_qHasSquare_7 (t := 29) (by decide) rfl g2 ?_
    refine x_aload_n (q := 11) dX12_qHasSquare_10 rfl rfl ?_
    replace H := kif H; obtain ⟨g3, H⟩ := H
    refine x_getR (q := 14) dX12_qHasSquare_11 rfl kl_RX12_218 rfl (k243 g1 (by decide) hn) g3 ?_
    refine x_iload_n (q := 15) dX12_qHasSquare_14 rfl rfl ?_
    replace H := kif H; obtain ⟨g4, H⟩ := H
    replace H := kifn H; obtain ⟨g5, H⟩ := H
    refine x_iald (q := 16) dX12_qHasSquare_15 rfl (k243 g4 (by decide) hn) g5 ?_
    refine x_bipush (q := 18) (v := (25 : Int32)) dX12_qHasSquare_16 rfl (by decide) ?_
    replace H := kite H; rcases H with ⟨g6, H⟩ | ⟨g6, H⟩
    · refine x_icmp_ne_f (q := 21) dX12_qHasSquare_18 (t := 23) (by decide) rfl g6 ?_
      replace H := ko2e H; obtain ⟨o9, H, rfl⟩ := H
      refine x_iconst (q := 22) (v := (1 : Int32)) dX12_qHasSquare_21 rfl (by decide) ?_
      cases H
      exact x_end ⟨(Or.inr rfl), dX12_qHasSquare_22, rfl, rfl⟩
    · refine x_icmp_ne_t dX12_qHasSquare_18 (q := 23) (by decide) g6 ?_
      replace H := kle H; obtain ⟨x7, q8, H⟩ := H
      refine x_iinc (q := 26) (i := 1) (ls2 := [(1, .int x7), (0, .ref v0)]) dX12_qHasSquare_23 rfl rfl (by decide) (by rw [q8]; rfl) ?_
      refine x_goto dX12_qHasSquare_26 (q := 2) (by decide) ?_
      cases H
      refine x_sub (ls2 := [(0, .ref v0), (1, .int x7)]) [1, 0] rfl ?_
      exact x_end (x_cfg rfl)
theorem sl_X12_qHasSquare_l2 {Z : Nat → (Nat → Nat) → State → Prop} (h : KH) (v0 : Nat) (n : Nat) (s : Int32) (r : (Unit) ⊕ (Int32)) (hn : (h).1 = 243) (H : kloop (f_X12_qHasSquare_l2 h v0) n s = some r) : KX Z RX12 cX12_qHasSquare 2 false 1 (E_X12_qHasSquare_l2 h v0 r) 2 [(0, .ref v0), (1, .int s)] [] h :=
  k_loop (ls := (fun (s : Int32) => ([(0, .ref v0), (1, .int s)] : List (Nat × Value)))) (hp := (fun (s : Int32) => (h : KH))) (G := E_X12_qHasSquare_l2 h v0) (fun s t hn H => s_X12_qHasSquare_l2 h v0 s t hn H) n s r hn H
def f_X12_qHasSquare (h : KH) (v0 : Nat) : Option (Int32) :=
  kb (kloop (f_X12_qHasSquare_l2 h v0) KF (0 : Int32)) fun e1 =>
  ksum e1 (fun x4 =>
  some (0 : Int32)) (fun o5 => some o5)
set_option maxHeartbeats 4000000 in
set_option maxRecDepth 100000 in
theorem s0_X12_qHasSquare {Z : Nat → (Nat → Nat) → State → Prop} (h : KH) (v0 : Nat) {t : Int32} (hn : h.1 = 243) (H : f_X12_qHasSquare h v0 = some t) : KX Z RX12 cX12_qHasSquare 2 false 1 (KRz cX12_qHasSquare t h) 0 [(0, .ref v0)] [] h := by
  unfold f_X12_qHasSquare at H
  refine x_iconst (q := 1) (v := (0 : Int32)) dX12_qHasSquare_0 rfl (by decide) ?_
  refine x_istore_n (q := 2) (i := 1) (ls2 := [(1, .int (0 : Int32)), (0, .ref v0)]) dX12_qHasSquare_1 rfl rfl (by decide) rfl ?_
  refine x_sub (ls2 := [(0, .ref v0), (1, .int (0 : Int32))]) [1, 0] rfl ?_
  replace H := kbe H; obtain ⟨e1, c2, H⟩ := H
  refine x_app (sl_X12_qHasSquare_l2 h v0 KF (0 : Int32) e1 hn c2) fun pc2 ls2 st2 h2 hg m3 => ?_
  replace H := kse H; rcases H with ⟨x4, rfl, H⟩ | ⟨o5, rfl, H⟩
  · obtain ⟨rfl, rfl, rfl, rfl⟩ := hg
    refine x_iconst (q := 30) (v := (0 : Int32)) dX12_qHasSquare_29 rfl (by decide) ?_
    cases H
    exact x_end ⟨(Or.inl rfl), dX12_qHasSquare_30, rfl, rfl⟩
  · cases H
    exact x_end hg
theorem s_X12_qHasSquare {Z : Nat → (Nat → Nat) → State → Prop} (h : KH) (v0 : Nat) {t : Int32} (hn : h.1 = 243) (H : f_X12_qHasSquare h v0 = some t) : KM Z yX12_qHasSquare cX12_qHasSquare 2 (some .boolean) 1 [.ref v0] h (some (.int t)) h :=
  kx_z (own := RX12) (ini := false) (by decide +kernel) (by decide +kernel) rfl (Nat.le_of_ble_eq_true rfl) (s0_X12_qHasSquare h v0 hn H)
theorem dX12_qGoesOnTest_0 : decode cX12_qGoesOnTest 0 = .ok (.aload_n 0, 1) := by decide +kernel
theorem dX12_qGoesOnTest_1 : decode cX12_qGoesOnTest 1 = .ok (.getfield 230, 3) := by decide +kernel
theorem dX12_qGoesOnTest_4 : decode cX12_qGoesOnTest 4 = .ok (.ifCond .ne 72, 3) := by decide +kernel
theorem dX12_qGoesOnTest_7 : decode cX12_qGoesOnTest 7 = .ok (.aload_n 0, 1) := by decide +kernel
theorem dX12_qGoesOnTest_8 : decode cX12_qGoesOnTest 8 = .ok (.invokevirtual 242, 3) := by decide +kernel
theorem dX12_qGoesOnTest_11 : decode cX12_qGoesOnTest 11 = .ok (.bipush 93, 2) := by decide +kernel
theorem dX12_qGoesOnTest_13 : decode cX12_qGoesOnTest 13 = .ok (.if_icmp .ne 63, 3) := by decide +kernel
theorem dX12_qGoesOnTest_16 : decode cX12_qGoesOnTest 16 = .ok (.aload_n 0, 1) := by decide +kernel
theorem dX12_qGoesOnTest_17 : decode cX12_qGoesOnTest 17 = .ok (.invokevirtual 604, 3) := by decide +kernel
theorem dX12_qGoesOnTest_20 : decode cX12_qGoesOnTest 20 = .ok (.ifCond .eq 56, 3) := by decide +kernel
theorem dX12_qGoesOnTest_23 : decode cX12_qGoesOnTest 23 = .ok (.aload_n 0, 1) := by decide +kernel
theorem dX12_qGoesOnTest_24 : decode cX12_qGoesOnTest 24 = .ok (.dup, 1) := by decide +kernel
theorem dX12_qGoesOnTest_25 : decode cX12_qGoesOnTest 25 = .ok (.getfield 236, 3) := by decide +kernel
theorem dX12_qGoesOnTest_28 : decode cX12_qGoesOnTest 28 = .ok (.iconst 1, 1) := by decide +kernel
theorem dX12_qGoesOnTest_29 : decode cX12_qGoesOnTest 29 = .ok (.iadd, 1) := by decide +kernel
theorem dX12_qGoesOnTest_30 : decode cX12_qGoesOnTest 30 = .ok (.putfield 236, 3) := by decide +kernel
theorem dX12_qGoesOnTest_33 : decode cX12_qGoesOnTest 33 = .ok (.aload_n 0, 1) := by decide +kernel
theorem dX12_qGoesOnTest_34 : decode cX12_qGoesOnTest 34 = .ok (.bipush 25, 2) := by decide +kernel
theorem dX12_qGoesOnTest_36 : decode cX12_qGoesOnTest 36 = .ok (.invokevirtual 583, 3) := by decide +kernel
theorem dX12_qGoesOnTest_39 : decode cX12_qGoesOnTest 39 = .ok (.ifCond .ne 10, 3) := by decide +kernel
theorem dX12_qGoesOnTest_42 : decode cX12_qGoesOnTest 42 = .ok (.aload_n 0, 1) := by decide +kernel
theorem dX12_qGoesOnTest_43 : decode cX12_qGoesOnTest 43 = .ok (.invokevirtual 556, 3) := by decide +kernel
theorem dX12_qGoesOnTest_46 : decode cX12_qGoesOnTest 46 = .ok (.goto (-13), 3) := by decide +kernel
theorem dX12_qGoesOnTest_49 : decode cX12_qGoesOnTest 49 = .ok (.aload_n 0, 1) := by decide +kernel
theorem dX12_qGoesOnTest_50 : decode cX12_qGoesOnTest 50 = .ok (.dup, 1) := by decide +kernel
theorem dX12_qGoesOnTest_51 : decode cX12_qGoesOnTest 51 = .ok (.getfield 315, 3) := by decide +kernel
theorem dX12_qGoesOnTest_54 : decode cX12_qGoesOnTest 54 = .ok (.iconst 1, 1) := by decide +kernel
theorem dX12_qGoesOnTest_55 : decode cX12_qGoesOnTest 55 = .ok (.isub, 1) := by decide +kernel
theorem dX12_qGoesOnTest_56 : decode cX12_qGoesOnTest 56 = .ok (.putfield 315, 3) := by decide +kernel
theorem dX12_qGoesOnTest_59 : decode cX12_qGoesOnTest 59 = .ok (.aload_n 0, 1) := by decide +kernel
theorem dX12_qGoesOnTest_60 : decode cX12_qGoesOnTest 60 = .ok (.dup, 1) := by decide +kernel
theorem dX12_qGoesOnTest_61 : decode cX12_qGoesOnTest 61 = .ok (.getfield 318, 3) := by decide +kernel
theorem dX12_qGoesOnTest_64 : decode cX12_qGoesOnTest 64 = .ok (.iconst 1, 1) := by decide +kernel
theorem dX12_qGoesOnTest_65 : decode cX12_qGoesOnTest 65 = .ok (.isub, 1) := by decide +kernel
theorem dX12_qGoesOnTest_66 : decode cX12_qGoesOnTest 66 = .ok (.putfield 318, 3) := by decide +kernel
theorem dX12_qGoesOnTest_69 : decode cX12_qGoesOnTest 69 = .ok (.aload_n 0, 1) := by decide +kernel
theorem dX12_qGoesOnTest_70 : decode cX12_qGoesOnTest 70 = .ok (.invokevirtual 598, 3) := by decide +kernel
theorem dX12_qGoesOnTest_73 : decode cX12_qGoesOnTest 73 = .ok (.goto (-73), 3) := by decide +kernel
theorem dX12_qGoesOnTest_76 : decode cX12_qGoesOnTest 76 = .ok (.aload_n 0, 1) := by decide +kernel
theorem dX12_qGoesOnTest_77 : decode cX12_qGoesOnTest 77 = .ok (.aload_n 0, 1) := by decide +kernel
theorem dX12_qGoesOnTest_78 : decode cX12_qGoesOnTest 78 = .ok (.getfield 173, 3) := by decide +kernel
theorem dX12_qGoesOnTest_81 : decode cX12_qGoesOnTest 81 = .ok (.invokevirtual 257, 3) := by decide +kernel
theorem dX12_qGoesOnTest_84 : decode cX12_qGoesOnTest 84 = .ok (.ifCond .eq 42, 3) := by decide +kernel
theorem dX12_qGoesOnTest_87 : decode cX12_qGoesOnTest 87 = .ok (.aload_n 0, 1) := by decide +kernel
theorem dX12_qGoesOnTest_88 : decode cX12_qGoesOnTest 88 = .ok (.bipush 10, 2) := by decide +kernel
theorem dX12_qGoesOnTest_90 : decode cX12_qGoesOnTest 90 = .ok (.invokevirtual 583, 3) := by decide +kernel
theorem dX12_qGoesOnTest_93 : decode cX12_qGoesOnTest 93 = .ok (.ifCond .eq 10, 3) := by decide +kernel
theorem dX12_qGoesOnTest_96 : decode cX12_qGoesOnTest 96 = .ok (.aload_n 0, 1) := by decide +kernel
theorem dX12_qGoesOnTest_97 : decode cX12_qGoesOnTest 97 = .ok (.invokevirtual 556, 3) := by decide +kernel
theorem dX12_qGoesOnTest_100 : decode cX12_qGoesOnTest 100 = .ok (.goto (-13), 3) := by decide +kernel
theorem dX12_qGoesOnTest_103 : decode cX12_qGoesOnTest 103 = .ok (.aload_n 0, 1) := by decide +kernel
theorem dX12_qGoesOnTest_104 : decode cX12_qGoesOnTest 104 = .ok (.getfield 218, 3) := by decide +kernel
theorem dX12_qGoesOnTest_107 : decode cX12_qGoesOnTest 107 = .ok (.aload_n 0, 1) := by decide +kernel
theorem dX12_qGoesOnTest_108 : decode cX12_qGoesOnTest 108 = .ok (.getfield 315, 3) := by decide +kernel
theorem dX12_qGoesOnTest_111 : decode cX12_qGoesOnTest 111 = .ok (.bipush 10, 2) := by decide +kernel
theorem dX12_qGoesOnTest_113 : decode cX12_qGoesOnTest 113 = .ok (.iastore, 1) := by decide +kernel
theorem dX12_qGoesOnTest_114 : decode cX12_qGoesOnTest 114 = .ok (.aload_n 0, 1) := by decide +kernel
theorem dX12_qGoesOnTest_115 : decode cX12_qGoesOnTest 115 = .ok (.dup, 1) := by decide +kernel
theorem dX12_qGoesOnTest_116 : decode cX12_qGoesOnTest 116 = .ok (.getfield 315, 3) := by decide +kernel
theorem dX12_qGoesOnTest_119 : decode cX12_qGoesOnTest 119 = .ok (.iconst 1, 1) := by decide +kernel
theorem dX12_qGoesOnTest_120 : decode cX12_qGoesOnTest 120 = .ok (.iadd, 1) := by decide +kernel
theorem dX12_qGoesOnTest_121 : decode cX12_qGoesOnTest 121 = .ok (.putfield 315, 3) := by decide +kernel
theorem dX12_qGoesOnTest_124 : decode cX12_qGoesOnTest 124 = .ok (.iconst 1, 1) := by decide +kernel
theorem dX12_qGoesOnTest_125 : decode cX12_qGoesOnTest 125 = .ok (.ireturn, 1) := by decide +kernel
theorem dX12_qGoesOnTest_126 : decode cX12_qGoesOnTest 126 = .ok (.aload_n 0, 1) := by decide +kernel
theorem dX12_qGoesOnTest_127 : decode cX12_qGoesOnTest 127 = .ok (.aload_n 0, 1) := by decide +kernel
theorem dX12_qGoesOnTest_128 : decode cX12_qGoesOnTest 128 = .ok (.getfield 176, 3) := by decide +kernel
theorem dX12_qGoesOnTest_131 : decode cX12_qGoesOnTest 131 = .ok (.invokevirtual 257, 3) := by decide +kernel
theorem dX12_qGoesOnTest_134 : decode cX12_qGoesOnTest 134 = .ok (.ifCond .eq 51, 3) := by decide +kernel
theorem dX12_qGoesOnTest_137 : decode cX12_qGoesOnTest 137 = .ok (.aload_n 0, 1) := by decide +kernel
theorem dX12_qGoesOnTest_138 : decode cX12_qGoesOnTest 138 = .ok (.bipush 10, 2) := by decide +kernel
theorem dX12_qGoesOnTest_140 : decode cX12_qGoesOnTest 140 = .ok (.invokevirtual 583, 3) := by decide +kernel
theorem dX12_qGoesOnTest_143 : decode cX12_qGoesOnTest 143 = .ok (.ifCond .ne 12, 3) := by decide +kernel
theorem dX12_qGoesOnTest_146 : decode cX12_qGoesOnTest 146 = .ok (.aload_n 0, 1) := by decide +kernel
theorem dX12_qGoesOnTest_147 : decode cX12_qGoesOnTest 147 = .ok (.bipush 11, 2) := by decide +kernel
theorem dX12_qGoesOnTest_149 : decode cX12_qGoesOnTest 149 = .ok (.invokevirtual 583, 3) := by decide +kernel
theorem dX12_qGoesOnTest_152 : decode cX12_qGoesOnTest 152 = .ok (.ifCond .eq 10, 3) := by decide +kernel
theorem dX12_qGoesOnTest_155 : decode cX12_qGoesOnTest 155 = .ok (.aload_n 0, 1) := by decide +kernel
theorem dX12_qGoesOnTest_156 : decode cX12_qGoesOnTest 156 = .ok (.invokevirtual 556, 3) := by decide +kernel
theorem dX12_qGoesOnTest_159 : decode cX12_qGoesOnTest 159 = .ok (.goto (-22), 3) := by decide +kernel
theorem dX12_qGoesOnTest_162 : decode cX12_qGoesOnTest 162 = .ok (.aload_n 0, 1) := by decide +kernel
theorem dX12_qGoesOnTest_163 : decode cX12_qGoesOnTest 163 = .ok (.getfield 218, 3) := by decide +kernel
theorem dX12_qGoesOnTest_166 : decode cX12_qGoesOnTest 166 = .ok (.aload_n 0, 1) := by decide +kernel
theorem dX12_qGoesOnTest_167 : decode cX12_qGoesOnTest 167 = .ok (.getfield 315, 3) := by decide +kernel
theorem dX12_qGoesOnTest_170 : decode cX12_qGoesOnTest 170 = .ok (.bipush 11, 2) := by decide +kernel
theorem dX12_qGoesOnTest_172 : decode cX12_qGoesOnTest 172 = .ok (.iastore, 1) := by decide +kernel
theorem dX12_qGoesOnTest_173 : decode cX12_qGoesOnTest 173 = .ok (.aload_n 0, 1) := by decide +kernel
theorem dX12_qGoesOnTest_174 : decode cX12_qGoesOnTest 174 = .ok (.dup, 1) := by decide +kernel
theorem dX12_qGoesOnTest_175 : decode cX12_qGoesOnTest 175 = .ok (.getfield 315, 3) := by decide +kernel
theorem dX12_qGoesOnTest_178 : decode cX12_qGoesOnTest 178 = .ok (.iconst 1, 1) := by decide +kernel
theorem dX12_qGoesOnTest_179 : decode cX12_qGoesOnTest 179 = .ok (.iadd, 1) := by decide +kernel
theorem dX12_qGoesOnTest_180 : decode cX12_qGoesOnTest 180 = .ok (.putfield 315, 3) := by decide +kernel
theorem dX12_qGoesOnTest_183 : decode cX12_qGoesOnTest 183 = .ok (.iconst 1, 1) := by decide +kernel
theorem dX12_qGoesOnTest_184 : decode cX12_qGoesOnTest 184 = .ok (.ireturn, 1) := by decide +kernel
theorem dX12_qGoesOnTest_185 : decode cX12_qGoesOnTest 185 = .ok (.aload_n 0, 1) := by decide +kernel
theorem dX12_qGoesOnTest_186 : decode cX12_qGoesOnTest 186 = .ok (.getfield 230, 3) := by decide +kernel
theorem dX12_qGoesOnTest_189 : decode cX12_qGoesOnTest 189 = .ok (.ifCond .ne 19, 3) := by decide +kernel
theorem dX12_qGoesOnTest_192 : decode cX12_qGoesOnTest 192 = .ok (.aload_n 0, 1) := by decide +kernel
theorem dX12_qGoesOnTest_193 : decode cX12_qGoesOnTest 193 = .ok (.invokevirtual 604, 3) := by decide +kernel
theorem dX12_qGoesOnTest_196 : decode cX12_qGoesOnTest 196 = .ok (.ifCond .eq 12, 3) := by decide +kernel
theorem dX12_qGoesOnTest_199 : decode cX12_qGoesOnTest 199 = .ok (.aload_n 0, 1) := by decide +kernel
theorem dX12_qGoesOnTest_200 : decode cX12_qGoesOnTest 200 = .ok (.iconst 1, 1) := by decide +kernel
theorem dX12_qGoesOnTest_201 : decode cX12_qGoesOnTest 201 = .ok (.aload_n 0, 1) := by decide +kernel
theorem dX12_qGoesOnTest_202 : decode cX12_qGoesOnTest 202 = .ok (.getfield 236, 3) := by decide +kernel
theorem dX12_qGoesOnTest_205 : decode cX12_qGoesOnTest 205 = .ok (.invokevirtual 260, 3) := by decide +kernel
theorem dX12_qGoesOnTest_208 : decode cX12_qGoesOnTest 208 = .ok (.iconst 0, 1) := by decide +kernel
theorem dX12_qGoesOnTest_209 : decode cX12_qGoesOnTest 209 = .ok (.ireturn, 1) := by decide +kernel
theorem kc_RX12_604 : Cond.methodLink RX12 604 yX12_qHasSquare ∈ ktG ∧ (Cond.instanceMethod yX12_qHasSquare ∈ ktG ∧ Cond.selects yX12_qHasSquare.cls yX12_qHasSquare yX12_qHasSquare ∈ ktG) ∧ Cond.initialized yX12_qHasSquare.cls ∈ ktG ∧ Cond.code yX12_qHasSquare cX12_qHasSquare 2 (some .boolean) ∈ ktG := ⟨(kwm 1660 (by decide +kernel) (by decide +kernel)), ⟨(kwm 1662 (by decide +kernel) (by decide +kernel)), (kwm 72 (by decide +kernel) (by decide +kernel))⟩, (kwm 139 (by decide +kernel) (by decide +kernel)), kwm 1663 (by decide +kernel) (by decide +kernel)⟩
theorem kh_X12_qHasSquare : yX12_qHasSquare.cls ≠ "java/lang/invoke/MethodHandle" ∧ yX12_qHasSquare.cls ≠ "java/lang/invoke/VarHandle" ∧ (parseMethodDescriptor yX12_qHasSquare.desc).map (fun d => d.parameters.length) = some 0 := by decide +kernel
theorem kc_RX12_598 : Cond.methodLink RX12 598 yX12_qDropsNots ∈ ktG ∧ (Cond.instanceMethod yX12_qDropsNots ∈ ktG ∧ Cond.selects yX12_qDropsNots.cls yX12_qDropsNots yX12_qDropsNots ∈ ktG) ∧ Cond.initialized yX12_qDropsNots.cls ∈ ktG ∧ Cond.code yX12_qDropsNots cX12_qDropsNots 1 none ∈ ktG := ⟨(kwm 1652 (by decide +kernel) (by decide +kernel)), ⟨(kwm 1654 (by decide +kernel) (by decide +kernel)), (kwm 70 (by decide +kernel) (by decide +kernel))⟩, (kwm 139 (by decide +kernel) (by decide +kernel)), kwm 1655 (by decide +kernel) (by decide +kernel)⟩
theorem kh_X12_qDropsNots : yX12_qDropsNots.cls ≠ "java/lang/invoke/MethodHandle" ∧ yX12_qDropsNots.cls ≠ "java/lang/invoke/VarHandle" ∧ (parseMethodDescriptor yX12_qDropsNots.desc).map (fun d => d.parameters.length) = some 0 := by decide +kernel
theorem kl_RX12_173 : KLk RX12 173 12 71 := ⟨RX12, TX12, 97, rfl, by decide, Or.inl (kwm 1268 (by decide +kernel) (by decide +kernel))⟩
theorem kl_RX12_176 : KLk RX12 176 12 72 := ⟨RX12, TX12, 97, rfl, by decide, Or.inl (kwm 1269 (by decide +kernel) (by decide +kernel))⟩
def E_X12_qGoesOnTest_l0 (v0 : Nat) : KH → Nat → List (Nat × Value) → List Value → KH → Prop := fun (e : KH) pc ls st hh => pc = 76 ∧ ls = [(0, .ref v0)] ∧ st = [] ∧ e = hh
def B_X12_qGoesOnTest_l0 (v0 : Nat) : ((KH) ⊕ (KH)) → Nat → List (Nat × Value) → List Value → KH → Prop := Sum.elim (fun (s : KH) pc ls st hh => pc = 0 ∧ ls = [(0, .ref v0)] ∧ st = [] ∧ hh = s) (E_X12_qGoesOnTest_l0 v0)
def E_X12_qGoesOnTest_l33 (v0 : Nat) : KH → Nat → List (Nat × Value) → List Value → KH → Prop := fun (e : KH) pc ls st hh => pc = 49 ∧ ls = [(0, .ref v0)] ∧ st = [] ∧ e = hh
def B_X12_qGoesOnTest_l33 (v0 : Nat) : ((KH) ⊕ (KH)) → Nat → List (Nat × Value) → List Value → KH → Prop := Sum.elim (fun (s : KH) pc ls st hh => pc = 33 ∧ ls = [(0, .ref v0)] ∧ st = [] ∧ hh = s) (E_X12_qGoesOnTest_l33 v0)
def f_X12_qGoesOnTest_l33 (v0 : Nat) (s : KH) : Option ((KH) ⊕ (KH)) :=
  if kkind v0 = 12 then kb (f_X12_qIsOn s v0 (25 : Int32)) fun r2 =>
  if r2 = 0 then
  kb (f_X12_qDrops s v0) fun r6 =>
  some (.inl r6)
  else
  some (.inr s) else none
set_option maxHeartbeats 4000000 in
set_option maxRecDepth 100000 in
theorem s_X12_qGoesOnTest_l33 {Z : Nat → (Nat → Nat) → State → Prop} (v0 : Nat) (s : KH) (t : (KH) ⊕ (KH)) (hn : (s).1 = 243) (H : f_X12_qGoesOnTest_l33 v0 s = some t) : KX Z RX12 cX12_qGoesOnTest 1 false 4 (B_X12_qGoesOnTest_l33 v0 t) 33 [(0, .ref v0)] [] s := by
  unfold f_X12_qGoesOnTest_l33 at H
  refine x_aload_n (q := 34) dX12_qGoesOnTest_33 rfl rfl ?_
  refine x_bipush (q := 36) (v := (25 : Int32)) dX12_qGoesOnTest_34 rfl (by decide) ?_
  replace H := kif H; obtain ⟨g1, H⟩ := H
  replace H := kbe H; obtain ⟨r2, c3, H⟩ := H
  have m4 := s_X12_qIsOn (Z := Z) s v0 (25 : Int32) hn c3
  refine x_callV (q := 39) (as := [.int (25 : Int32)]) (rest := []) dX12_qGoesOnTest_36 rfl kc_RX12_583 kh_X12_qIsOn (by decide) (Nat.le_of_ble_eq_true rfl) m4 (ci := 12) (by exact ⟨rfl, by decide⟩) (k243 g1 (by decide) hn) ?_
  replace H := kite H; rcases H with ⟨g5, H⟩ | ⟨g5, H⟩
  · refine x_if_ne_f (q := 42) dX12_qGoesOnTest_39 (t := 49) (by decide) rfl g5 ?_
    refine x_aload_n (q := 43) dX12_qGoesOnTest_42 rfl rfl ?_
    replace H := kbe H; obtain ⟨r6, c7, H⟩ := H
    have m8 := s_X12_qDrops (Z := Z) s v0 hn c7
    refine x_callV (q := 46) (as := []) (rest := []) dX12_qGoesOnTest_43 rfl kc_RX12_556 kh_X12_qDrops (by decide) (Nat.le_of_ble_eq_true rfl) m8 (ci := 12) (by exact ⟨rfl, by decide⟩) (k243 g1 (by decide) hn) ?_
    have n9 : (r6).1 = 243 := m8.1.full hn
    refine x_goto dX12_qGoesOnTest_46 (q := 33) (by decide) ?_
    cases H
    refine x_sub (ls2 := [(0, .ref v0)]) [0] rfl ?_
    exact x_end (x_cfg rfl)
  · refine x_if_ne_t dX12_qGoesOnTest_39 (q := 49) (by decide) g5 ?_
    cases H
    refine x_sub (ls2 := [(0, .ref v0)]) [0] rfl ?_
    exact x_end (x_cfg rfl)
theorem sl_X12_qGoesOnTest_l33 {Z : Nat → (Nat → Nat) → State → Prop} (v0 : Nat) (n : Nat) (s : KH) (r : KH) (hn : (s).1 = 243) (H : kloop (f_X12_qGoesOnTest_l33 v0) n s = some r) : KX Z RX12 cX12_qGoesOnTest 1 false 4 (E_X12_qGoesOnTest_l33 v0 r) 33 [(0, .ref v0)] [] s :=
  k_loop (ls := (fun (s : KH) => ([(0, .ref v0)] : List (Nat × Value)))) (hp := (fun (s : KH) => (s : KH))) (G := E_X12_qGoesOnTest_l33 v0) (fun s t hn H => s_X12_qGoesOnTest_l33 v0 s t hn H) n s r hn H
def f_X12_qGoesOnTest_l0 (v0 : Nat) (s : KH) : Option ((KH) ⊕ (KH)) :=
  if kkind v0 = 12 then if (kI s v0 5) = 0 then
  kb (f_X12_look0 s v0) fun r3 =>
  if r3.1 = (93 : Int32) then
  kb (f_X12_qHasSquare r3.2 v0) fun r8 =>
  if r8 = 0 then
  some (.inr r3.2)
  else
  kl (ksI r3.2 v0 2 ((kI r3.2 v0 2) + (1 : Int32))) fun h12 =>
  kb (kloop (f_X12_qGoesOnTest_l33 v0) KF h12) fun e15 =>
  kl (ksI e15 v0 88 ((kI e15 v0 88) - (1 : Int32))) fun h18 =>
  kl (ksI h18 v0 89 ((kI h18 v0 89) - (1 : Int32))) fun h21 =>
  kb (f_X12_qDropsNots h21 v0) fun r24 =>
  some (.inl r24)
  else
  some (.inr r3.2)
  else
  some (.inr s) else none
set_option maxHeartbeats 4000000 in
set_option maxRecDepth 100000 in
theorem s_X12_qGoesOnTest_l0 {Z : Nat → (Nat → Nat) → State → Prop} (v0 : Nat) (s : KH) (t : (KH) ⊕ (KH)) (hn : (s).1 = 243) (H : f_X12_qGoesOnTest_l0 v0 s = some t) : KX Z RX12 cX12_qGoesOnTest 1 false 4 (B_X12_qGoesOnTest_l0 v0 t) 0 [(0, .ref v0)] [] s := by
  unfold f_X12_qGoesOnTest_l0 at H
  refine x_aload_n (q := 1) dX12_qGoesOnTest_0 rfl rfl ?_
  replace H := kif H; obtain ⟨g1, H⟩ := H
  refine x_getI (q := 4) dX12_qGoesOnTest_1 rfl kl_RX12_230 (Or.inl rfl) (k243 g1 (by decide) hn) ?_
  replace H := kite H; rcases H with ⟨g2, H⟩ | ⟨g2, H⟩
  · refine x_if_ne_f (q := 7) dX12_qGoesOnTest_4 (t := 76) (by decide) rfl g2 ?_
    refine x_aload_n (q := 8) dX12_qGoesOnTest_7 rfl rfl ?_
    replace H := kbe H; obtain ⟨r3, c4, H⟩ := H
    have m5 := s_X12_look0 (Z := Z) s v0 hn c4
    refine x_callV (q := 11) (as := []) (rest := []) dX12_qGoesOnTest_8 rfl kc_RX12_242 kh_X12_look0 (by decide) (Nat.le_of_ble_eq_true rfl) m5 (ci := 12) (by exact ⟨rfl, by decide⟩) (k243 g1 (by decide) hn) ?_
    have n6 : (r3.2).1 = 243 := m5.1.full hn
    refine x_bipush (q := 13) (v := (93 : Int32)) dX12_qGoesOnTest_11 rfl (by decide) ?_
    replace H := kite H; rcases H with ⟨g7, H⟩ | ⟨g7, H⟩
    · refine x_icmp_ne_f (q := 16) dX12_qGoesOnTest_13 (t := 76) (by decide) rfl g7 ?_
      refine x_aload_n (q := 17) dX12_qGoesOnTest_16 rfl rfl ?_
      replace H := kbe H; obtain ⟨r8, c9, H⟩ := H
      have m10 := s_X12_qHasSquare (Z := Z) r3.2 v0 n6 c9
      refine x_callV (q := 20) (as := []) (rest := []) dX12_qGoesOnTest_17 rfl kc_RX12_604 kh_X12_qHasSquare (by decide) (Nat.le_of_ble_eq_true rfl) m10 (ci := 12) (by exact ⟨rfl, by decide⟩) (k243 g1 (by decide) n6) ?_
      replace H := kite H; rcases H with ⟨g11, H⟩ | ⟨g11, H⟩
      · refine x_if_eq_t dX12_qGoesOnTest_20 (q := 76) (by decide) g11 ?_
        cases H
        refine x_sub (ls2 := [(0, .ref v0)]) [0] rfl ?_
        exact x_end (x_cfg rfl)
      · refine x_if_eq_f (q := 23) dX12_qGoesOnTest_20 (t := 76) (by decide) rfl g11 ?_
        refine x_aload_n (q := 24) dX12_qGoesOnTest_23 rfl rfl ?_
        refine x_dup (q := 25) dX12_qGoesOnTest_24 rfl rfl ?_
        refine x_getI (q := 28) dX12_qGoesOnTest_25 rfl kl_RX12_236 (Or.inl rfl) (k243 g1 (by decide) n6) ?_
        refine x_iconst (q := 29) (v := (1 : Int32)) dX12_qGoesOnTest_28 rfl (by decide) ?_
        refine x_iadd (q := 30) dX12_qGoesOnTest_29 rfl ?_
        replace H := kle H; obtain ⟨h12, q13, H⟩ := H
        refine x_putI (q := 33) dX12_qGoesOnTest_30 rfl kl_RX12_236 (Or.inl rfl) rfl (k243 g1 (by decide) n6) ?_
        refine x_nmH q13 ?_
        have n14 : h12.1 = 243 := by rw [q13]; exact n6
        refine x_sub (ls2 := [(0, .ref v0)]) [0] rfl ?_
        replace H := kbe H; obtain ⟨e15, c16, H⟩ := H
        refine x_app (sl_X12_qGoesOnTest_l33 v0 KF h12 e15 n14 c16) fun pc2 ls2 st2 h2 hg m17 => ?_
        obtain ⟨rfl, rfl, rfl, rfl⟩ := hg
        refine x_aload_n (q := 50) dX12_qGoesOnTest_49 rfl rfl ?_
        refine x_dup (q := 51) dX12_qGoesOnTest_50 rfl rfl ?_
        refine x_getI (q := 54) dX12_qGoesOnTest_51 rfl kl_RX12_315 (Or.inl rfl) (k243 g1 (by decide) (m17.full n14)) ?_
        refine x_iconst (q := 55) (v := (1 : Int32)) dX12_qGoesOnTest_54 rfl (by decide) ?_
        refine x_isub (q := 56) dX12_qGoesOnTest_55 rfl ?_
        replace H := kle H; obtain ⟨h18, q19, H⟩ := H
        refine x_putI (q := 59) dX12_qGoesOnTest_56 rfl kl_RX12_315 (Or.inl rfl) rfl (k243 g1 (by decide) (m17.full n14)) ?_
        refine x_nmH q19 ?_
        have n20 : h18.1 = 243 := by rw [q19]; exact (m17.full n14)
        refine x_aload_n (q := 60) dX12_qGoesOnTest_59 rfl rfl ?_
        refine x_dup (q := 61) dX12_qGoesOnTest_60 rfl rfl ?_
        refine x_getI (q := 64) dX12_qGoesOnTest_61 rfl kl_RX12_318 (Or.inl rfl) (k243 g1 (by decide) n20) ?_
        refine x_iconst (q := 65) (v := (1 : Int32)) dX12_qGoesOnTest_64 rfl (by decide) ?_
        refine x_isub (q := 66) dX12_qGoesOnTest_65 rfl ?_
        replace H := kle H; obtain ⟨h21, q22, H⟩ := H
        refine x_putI (q := 69) dX12_qGoesOnTest_66 rfl kl_RX12_318 (Or.inl rfl) rfl (k243 g1 (by decide) n20) ?_
        refine x_nmH q22 ?_
        have n23 : h21.1 = 243 := by rw [q22]; exact n20
        refine x_aload_n (q := 70) dX12_qGoesOnTest_69 rfl rfl ?_
        replace H := kbe H; obtain ⟨r24, c25, H⟩ := H
        have m26 := s_X12_qDropsNots (Z := Z) h21 v0 n23 c25
        refine x_callV (q := 73) (as := []) (rest := []) dX12_qGoesOnTest_70 rfl kc_RX12_598 kh_X12_qDropsNots (by decide) (Nat.le_of_ble_eq_true rfl) m26 (ci := 12) (by exact ⟨rfl, by decide⟩) (k243 g1 (by decide) n23) ?_
        have n27 : (r24).1 = 243 := m26.1.full n23
        refine x_goto dX12_qGoesOnTest_73 (q := 0) (by decide) ?_
        cases H
        refine x_sub (ls2 := [(0, .ref v0)]) [0] rfl ?_
        exact x_end (x_cfg rfl)
    · refine x_icmp_ne_t dX12_qGoesOnTest_13 (q := 76) (by decide) g7 ?_
      cases H
      refine x_sub (ls2 := [(0, .ref v0)]) [0] rfl ?_
      exact x_end (x_cfg rfl)
  · refine x_if_ne_t dX12_qGoesOnTest_4 (q := 76) (by decide) g2 ?_
    cases H
    refine x_sub (ls2 := [(0, .ref v0)]) [0] rfl ?_
    exact x_end (x_cfg rfl)
theorem sl_X12_qGoesOnTest_l0 {Z : Nat → (Nat → Nat) → State → Prop} (v0 : Nat) (n : Nat) (s : KH) (r : KH) (hn : (s).1 = 243) (H : kloop (f_X12_qGoesOnTest_l0 v0) n s = some r) : KX Z RX12 cX12_qGoesOnTest 1 false 4 (E_X12_qGoesOnTest_l0 v0 r) 0 [(0, .ref v0)] [] s :=
  k_loop (ls := (fun (s : KH) => ([(0, .ref v0)] : List (Nat × Value)))) (hp := (fun (s : KH) => (s : KH))) (G := E_X12_qGoesOnTest_l0 v0) (fun s t hn H => s_X12_qGoesOnTest_l0 v0 s t hn H) n s r hn H
def E_X12_qGoesOnTest_l137 (v0 : Nat) : KH → Nat → List (Nat × Value) → List Value → KH → Prop := fun (e : KH) pc ls st hh => pc = 162 ∧ ls = [(0, .ref v0)] ∧ st = [] ∧ e = hh
def B_X12_qGoesOnTest_l137 (v0 : Nat) : ((KH) ⊕ (KH)) → Nat → List (Nat × Value) → List Value → KH → Prop := Sum.elim (fun (s : KH) pc ls st hh => pc = 137 ∧ ls = [(0, .ref v0)] ∧ st = [] ∧ hh = s) (E_X12_qGoesOnTest_l137 v0)
def f_X12_qGoesOnTest_b155 (h : KH) (v0 : Nat) : Option ((KH) ⊕ (KH)) :=
  if kkind v0 = 12 then kb (f_X12_qDrops h v0) fun r2 =>
  some (.inl r2) else none
set_option maxHeartbeats 4000000 in
set_option maxRecDepth 100000 in
theorem s_X12_qGoesOnTest_b155 {Z : Nat → (Nat → Nat) → State → Prop} (h : KH) (v0 : Nat) {t : (KH) ⊕ (KH)} (hn : h.1 = 243) (H : f_X12_qGoesOnTest_b155 h v0 = some t) : KX Z RX12 cX12_qGoesOnTest 1 false 4 (B_X12_qGoesOnTest_l137 v0 t) 155 [(0, .ref v0)] [] h := by
  unfold f_X12_qGoesOnTest_b155 at H
  refine x_aload_n (q := 156) dX12_qGoesOnTest_155 rfl rfl ?_
  replace H := kif H; obtain ⟨g1, H⟩ := H
  replace H := kbe H; obtain ⟨r2, c3, H⟩ := H
  have m4 := s_X12_qDrops (Z := Z) h v0 hn c3
  refine x_callV (q := 159) (as := []) (rest := []) dX12_qGoesOnTest_156 rfl kc_RX12_556 kh_X12_qDrops (by decide) (Nat.le_of_ble_eq_true rfl) m4 (ci := 12) (by exact ⟨rfl, by decide⟩) (k243 g1 (by decide) hn) ?_
  have n5 : (r2).1 = 243 := m4.1.full hn
  refine x_goto dX12_qGoesOnTest_159 (q := 137) (by decide) ?_
  cases H
  refine x_sub (ls2 := [(0, .ref v0)]) [0] rfl ?_
  exact x_end (x_cfg rfl)
def f_X12_qGoesOnTest_l137 (v0 : Nat) (s : KH) : Option ((KH) ⊕ (KH)) :=
  if kkind v0 = 12 then kb (f_X12_qIsOn s v0 (10 : Int32)) fun r2 =>
  if r2 = 0 then
  kb (f_X12_qIsOn s v0 (11 : Int32)) fun r6 =>
  if r6 = 0 then
  some (.inr s)
  else
  f_X12_qGoesOnTest_b155 s v0
  else
  f_X12_qGoesOnTest_b155 s v0 else none
set_option maxHeartbeats 4000000 in
set_option maxRecDepth 100000 in
theorem s_X12_qGoesOnTest_l137 {Z : Nat → (Nat → Nat) → State → Prop} (v0 : Nat) (s : KH) (t : (KH) ⊕ (KH)) (hn : (s).1 = 243) (H : f_X12_qGoesOnTest_l137 v0 s = some t) : KX Z RX12 cX12_qGoesOnTest 1 false 4 (B_X12_qGoesOnTest_l137 v0 t) 137 [(0, .ref v0)] [] s := by
  unfold f_X12_qGoesOnTest_l137 at H
  refine x_aload_n (q := 138) dX12_qGoesOnTest_137 rfl rfl ?_
  refine x_bipush (q := 140) (v := (10 : Int32)) dX12_qGoesOnTest_138 rfl (by decide) ?_
  replace H := kif H; obtain ⟨g1, H⟩ := H
  replace H := kbe H; obtain ⟨r2, c3, H⟩ := H
  have m4 := s_X12_qIsOn (Z := Z) s v0 (10 : Int32) hn c3
  refine x_callV (q := 143) (as := [.int (10 : Int32)]) (rest := []) dX12_qGoesOnTest_140 rfl kc_RX12_583 kh_X12_qIsOn (by decide) (Nat.le_of_ble_eq_true rfl) m4 (ci := 12) (by exact ⟨rfl, by decide⟩) (k243 g1 (by decide) hn) ?_
  replace H := kite H; rcases H with ⟨g5, H⟩ | ⟨g5, H⟩
  · refine x_if_ne_f (q := 146) dX12_qGoesOnTest_143 (t := 155) (by decide) rfl g5 ?_
    refine x_aload_n (q := 147) dX12_qGoesOnTest_146 rfl rfl ?_
    refine x_bipush (q := 149) (v := (11 : Int32)) dX12_qGoesOnTest_147 rfl (by decide) ?_
    replace H := kbe H; obtain ⟨r6, c7, H⟩ := H
    have m8 := s_X12_qIsOn (Z := Z) s v0 (11 : Int32) hn c7
    refine x_callV (q := 152) (as := [.int (11 : Int32)]) (rest := []) dX12_qGoesOnTest_149 rfl kc_RX12_583 kh_X12_qIsOn (by decide) (Nat.le_of_ble_eq_true rfl) m8 (ci := 12) (by exact ⟨rfl, by decide⟩) (k243 g1 (by decide) hn) ?_
    replace H := kite H; rcases H with ⟨g9, H⟩ | ⟨g9, H⟩
    · refine x_if_eq_t dX12_qGoesOnTest_152 (q := 162) (by decide) g9 ?_
      cases H
      refine x_sub (ls2 := [(0, .ref v0)]) [0] rfl ?_
      exact x_end (x_cfg rfl)
    · refine x_if_eq_f (q := 155) dX12_qGoesOnTest_152 (t := 162) (by decide) rfl g9 ?_
      refine x_sub (ls2 := [(0, .ref v0)]) [0] rfl ?_
      exact s_X12_qGoesOnTest_b155 s v0 hn H
  · refine x_if_ne_t dX12_qGoesOnTest_143 (q := 155) (by decide) g5 ?_
    refine x_sub (ls2 := [(0, .ref v0)]) [0] rfl ?_
    exact s_X12_qGoesOnTest_b155 s v0 hn H
theorem sl_X12_qGoesOnTest_l137 {Z : Nat → (Nat → Nat) → State → Prop} (v0 : Nat) (n : Nat) (s : KH) (r : KH) (hn : (s).1 = 243) (H : kloop (f_X12_qGoesOnTest_l137 v0) n s = some r) : KX Z RX12 cX12_qGoesOnTest 1 false 4 (E_X12_qGoesOnTest_l137 v0 r) 137 [(0, .ref v0)] [] s :=
  k_loop (ls := (fun (s : KH) => ([(0, .ref v0)] : List (Nat × Value)))) (hp := (fun (s : KH) => (s : KH))) (G := E_X12_qGoesOnTest_l137 v0) (fun s t hn H => s_X12_qGoesOnTest_l137 v0 s t hn H) n s r hn H
def E_X12_qGoesOnTest_l87 (v0 : Nat) : KH → Nat → List (Nat × Value) → List Value → KH → Prop := fun (e : KH) pc ls st hh => pc = 103 ∧ ls = [(0, .ref v0)] ∧ st = [] ∧ e = hh
def B_X12_qGoesOnTest_l87 (v0 : Nat) : ((KH) ⊕ (KH)) → Nat → List (Nat × Value) → List Value → KH → Prop := Sum.elim (fun (s : KH) pc ls st hh => pc = 87 ∧ ls = [(0, .ref v0)] ∧ st = [] ∧ hh = s) (E_X12_qGoesOnTest_l87 v0)
def f_X12_qGoesOnTest_l87 (v0 : Nat) (s : KH) : Option ((KH) ⊕ (KH)) :=
  if kkind v0 = 12 then kb (f_X12_qIsOn s v0 (10 : Int32)) fun r2 =>
  if r2 = 0 then
  some (.inr s)
  else
  kb (f_X12_qDrops s v0) fun r6 =>
  some (.inl r6) else none
set_option maxHeartbeats 4000000 in
set_option maxRecDepth 100000 in
theorem s_X12_qGoesOnTest_l87 {Z : Nat → (Nat → Nat) → State → Prop} (v0 : Nat) (s : KH) (t : (KH) ⊕ (KH)) (hn : (s).1 = 243) (H : f_X12_qGoesOnTest_l87 v0 s = some t) : KX Z RX12 cX12_qGoesOnTest 1 false 4 (B_X12_qGoesOnTest_l87 v0 t) 87 [(0, .ref v0)] [] s := by
  unfold f_X12_qGoesOnTest_l87 at H
  refine x_aload_n (q := 88) dX12_qGoesOnTest_87 rfl rfl ?_
  refine x_bipush (q := 90) (v := (10 : Int32)) dX12_qGoesOnTest_88 rfl (by decide) ?_
  replace H := kif H; obtain ⟨g1, H⟩ := H
  replace H := kbe H; obtain ⟨r2, c3, H⟩ := H
  have m4 := s_X12_qIsOn (Z := Z) s v0 (10 : Int32) hn c3
  refine x_callV (q := 93) (as := [.int (10 : Int32)]) (rest := []) dX12_qGoesOnTest_90 rfl kc_RX12_583 kh_X12_qIsOn (by decide) (Nat.le_of_ble_eq_true rfl) m4 (ci := 12) (by exact ⟨rfl, by decide⟩) (k243 g1 (by decide) hn) ?_
  replace H := kite H; rcases H with ⟨g5, H⟩ | ⟨g5, H⟩
  · refine x_if_eq_t dX12_qGoesOnTest_93 (q := 103) (by decide) g5 ?_
    cases H
    refine x_sub (ls2 := [(0, .ref v0)]) [0] rfl ?_
    exact x_end (x_cfg rfl)
  · refine x_if_eq_f (q := 96) dX12_qGoesOnTest_93 (t := 103) (by decide) rfl g5 ?_
    refine x_aload_n (q := 97) dX12_qGoesOnTest_96 rfl rfl ?_
    replace H := kbe H; obtain ⟨r6, c7, H⟩ := H
    have m8 := s_X12_qDrops (Z := Z) s v0 hn c7
    refine x_callV (q := 100) (as := []) (rest := []) dX12_qGoesOnTest_97 rfl kc_RX12_556 kh_X12_qDrops (by decide) (Nat.le_of_ble_eq_true rfl) m8 (ci := 12) (by exact ⟨rfl, by decide⟩) (k243 g1 (by decide) hn) ?_
    have n9 : (r6).1 = 243 := m8.1.full hn
    refine x_goto dX12_qGoesOnTest_100 (q := 87) (by decide) ?_
    cases H
    refine x_sub (ls2 := [(0, .ref v0)]) [0] rfl ?_
    exact x_end (x_cfg rfl)
theorem sl_X12_qGoesOnTest_l87 {Z : Nat → (Nat → Nat) → State → Prop} (v0 : Nat) (n : Nat) (s : KH) (r : KH) (hn : (s).1 = 243) (H : kloop (f_X12_qGoesOnTest_l87 v0) n s = some r) : KX Z RX12 cX12_qGoesOnTest 1 false 4 (E_X12_qGoesOnTest_l87 v0 r) 87 [(0, .ref v0)] [] s :=
  k_loop (ls := (fun (s : KH) => ([(0, .ref v0)] : List (Nat × Value)))) (hp := (fun (s : KH) => (s : KH))) (G := E_X12_qGoesOnTest_l87 v0) (fun s t hn H => s_X12_qGoesOnTest_l87 v0 s t hn H) n s r hn H
def f_X12_qGoesOnTest_b76 (h : KH) (v0 : Nat) : Option (Int32 × KH) :=
  if kkind v0 = 12 then if (kR h v0 71) < 999999 then kb (f_X12_takes h v0 (kR h v0 71)) fun r3 =>
  if r3.1 = 0 then
  if (kR r3.2 v0 72) < 999999 then kb (f_X12_takes r3.2 v0 (kR r3.2 v0 72)) fun r9 =>
  if r9.1 = 0 then
  if (kI r9.2 v0 5) = 0 then
  kb (f_X12_qHasSquare r9.2 v0) fun r15 =>
  if r15 = 0 then
  some ((0 : Int32), r9.2)
  else
  kb (f_X12_fail r9.2 v0 (1 : Int32) (kI r9.2 v0 2)) fun r19 =>
  some ((0 : Int32), r19)
  else
  some ((0 : Int32), r9.2)
  else
  kb (kloop (f_X12_qGoesOnTest_l137 v0) KF r9.2) fun e23 =>
  if (kR e23 v0 87) < 999999 then if kkind (kR e23 v0 87) = 20 then if ((kI e23 v0 88) < 0 ∨ klen (kR e23 v0 87) ≤ ((kI e23 v0 88)).toNatClampNeg) then none else kl (ksI e23 (kR e23 v0 87) (((kI e23 v0 88)).toNatClampNeg) (11 : Int32)) fun h29 =>
  kl (ksI h29 v0 88 ((kI h29 v0 88) + (1 : Int32))) fun h32 =>
  some ((1 : Int32), h32) else none else none else none
  else
  kb (kloop (f_X12_qGoesOnTest_l87 v0) KF r3.2) fun e35 =>
  if (kR e35 v0 87) < 999999 then if kkind (kR e35 v0 87) = 20 then if ((kI e35 v0 88) < 0 ∨ klen (kR e35 v0 87) ≤ ((kI e35 v0 88)).toNatClampNeg) then none else kl (ksI e35 (kR e35 v0 87) (((kI e35 v0 88)).toNatClampNeg) (10 : Int32)) fun h41 =>
  kl (ksI h41 v0 88 ((kI h41 v0 88) + (1 : Int32))) fun h44 =>
  some ((1 : Int32), h44) else none else none else none else none
set_option maxHeartbeats 4000000 in
set_option maxRecDepth 100000 in
theorem s_X12_qGoesOnTest_b76 {Z : Nat → (Nat → Nat) → State → Prop} (h : KH) (v0 : Nat) {t : Int32 × KH} (hn : h.1 = 243) (H : f_X12_qGoesOnTest_b76 h v0 = some t) : KX Z RX12 cX12_qGoesOnTest 1 false 4 (KRz cX12_qGoesOnTest t.1 t.2) 76 [(0, .ref v0)] [] h := by
  unfold f_X12_qGoesOnTest_b76 at H
  refine x_aload_n (q := 77) dX12_qGoesOnTest_76 rfl rfl ?_
  refine x_aload_n (q := 78) dX12_qGoesOnTest_77 rfl rfl ?_
  replace H := kif H; obtain ⟨g1, H⟩ := H
  replace H := kif H; obtain ⟨g2, H⟩ := H
  refine x_getR (q := 81) dX12_qGoesOnTest_78 rfl kl_RX12_173 rfl (k243 g1 (by decide) hn) g2 ?_
  replace H := kbe H; obtain ⟨r3, c4, H⟩ := H
  have m5 := s_X12_takes (Z := Z) h v0 (kR h v0 71) hn c4
  refine x_callV (q := 84) (as := [.ref (kR h v0 71)]) (rest := []) dX12_qGoesOnTest_81 rfl kc_RX12_257 kh_X12_takes (by decide) (Nat.le_of_ble_eq_true rfl) m5 (ci := 12) (by exact ⟨rfl, by decide⟩) (k243 g1 (by decide) hn) ?_
  have n6 : (r3.2).1 = 243 := m5.1.full hn
  replace H := kite H; rcases H with ⟨g7, H⟩ | ⟨g7, H⟩
  · refine x_if_eq_t dX12_qGoesOnTest_84 (q := 126) (by decide) g7 ?_
    refine x_aload_n (q := 127) dX12_qGoesOnTest_126 rfl rfl ?_
    refine x_aload_n (q := 128) dX12_qGoesOnTest_127 rfl rfl ?_
    replace H := kif H; obtain ⟨g8, H⟩ := H
    refine x_getR (q := 131) dX12_qGoesOnTest_128 rfl kl_RX12_176 rfl (k243 g1 (by decide) n6) g8 ?_
    replace H := kbe H; obtain ⟨r9, c10, H⟩ := H
    have m11 := s_X12_takes (Z := Z) r3.2 v0 (kR r3.2 v0 72) n6 c10
    refine x_callV (q := 134) (as := [.ref (kR r3.2 v0 72)]) (rest := []) dX12_qGoesOnTest_131 rfl kc_RX12_257 kh_X12_takes (by decide) (Nat.le_of_ble_eq_true rfl) m11 (ci := 12) (by exact ⟨rfl, by decide⟩) (k243 g1 (by decide) n6) ?_
    have n12 : (r9.2).1 = 243 := m11.1.full n6
    replace H := kite H; rcases H with ⟨g13, H⟩ | ⟨g13, H⟩
    · refine x_if_eq_t dX12_qGoesOnTest_134 (q := 185) (by decide) g13 ?_
      refine x_aload_n (q := 186) dX12_qGoesOnTest_185 rfl rfl ?_
      refine x_getI (q := 189) dX12_qGoesOnTest_186 rfl kl_RX12_230 (Or.inl rfl) (k243 g1 (by decide) n12) ?_
      replace H := kite H; rcases H with ⟨g14, H⟩ | ⟨g14, H⟩
      · refine x_if_ne_f (q := 192) dX12_qGoesOnTest_189 (t := 208) (by decide) rfl g14 ?_
        refine x_aload_n (q := 193) dX12_qGoesOnTest_192 rfl rfl ?_
        replace H := kbe H; obtain ⟨r15, c16, H⟩ := H
        have m17 := s_X12_qHasSquare (Z := Z) r9.2 v0 n12 c16
        refine x_callV (q := 196) (as := []) (rest := []) dX12_qGoesOnTest_193 rfl kc_RX12_604 kh_X12_qHasSquare (by decide) (Nat.le_of_ble_eq_true rfl) m17 (ci := 12) (by exact ⟨rfl, by decide⟩) (k243 g1 (by decide) n12) ?_
        replace H := kite H; rcases H with ⟨g18, H⟩ | ⟨g18, H⟩
        · refine x_if_eq_t dX12_qGoesOnTest_196 (q := 208) (by decide) g18 ?_
          refine x_iconst (q := 209) (v := (0 : Int32)) dX12_qGoesOnTest_208 rfl (by decide) ?_
          cases H
          exact x_end ⟨(Or.inl rfl), dX12_qGoesOnTest_209, rfl, rfl⟩
        · refine x_if_eq_f (q := 199) dX12_qGoesOnTest_196 (t := 208) (by decide) rfl g18 ?_
          refine x_aload_n (q := 200) dX12_qGoesOnTest_199 rfl rfl ?_
          refine x_iconst (q := 201) (v := (1 : Int32)) dX12_qGoesOnTest_200 rfl (by decide) ?_
          refine x_aload_n (q := 202) dX12_qGoesOnTest_201 rfl rfl ?_
          refine x_getI (q := 205) dX12_qGoesOnTest_202 rfl kl_RX12_236 (Or.inl rfl) (k243 g1 (by decide) n12) ?_
          replace H := kbe H; obtain ⟨r19, c20, H⟩ := H
          have m21 := s_X12_fail (Z := Z) r9.2 v0 (1 : Int32) (kI r9.2 v0 2) n12 c20
          refine x_callV (q := 208) (as := [.int (1 : Int32), .int (kI r9.2 v0 2)]) (rest := []) dX12_qGoesOnTest_205 rfl kc_RX12_260 kh_X12_fail (by decide) (Nat.le_of_ble_eq_true rfl) m21 (ci := 12) (by exact ⟨rfl, by decide⟩) (k243 g1 (by decide) n12) ?_
          have n22 : (r19).1 = 243 := m21.1.full n12
          refine x_iconst (q := 209) (v := (0 : Int32)) dX12_qGoesOnTest_208 rfl (by decide) ?_
          cases H
          exact x_end ⟨(Or.inl rfl), dX12_qGoesOnTest_209, rfl, rfl⟩
      · refine x_if_ne_t dX12_qGoesOnTest_189 (q := 208) (by decide) g14 ?_
        refine x_iconst (q := 209) (v := (0 : Int32)) dX12_qGoesOnTest_208 rfl (by decide) ?_
        cases H
        exact x_end ⟨(Or.inl rfl), dX12_qGoesOnTest_209, rfl, rfl⟩
    · refine x_if_eq_f (q := 137) dX12_qGoesOnTest_134 (t := 185) (by decide) rfl g13 ?_
      refine x_sub (ls2 := [(0, .ref v0)]) [0] rfl ?_
      replace H := kbe H; obtain ⟨e23, c24, H⟩ := H
      refine x_app (sl_X12_qGoesOnTest_l137 v0 KF r9.2 e23 n12 c24) fun pc2 ls2 st2 h2 hg m25 => ?_
      obtain ⟨rfl, rfl, rfl, rfl⟩ := hg
      refine x_aload_n (q := 163) dX12_qGoesOnTest_162 rfl rfl ?_
      replace H := kif H; obtain ⟨g26, H⟩ := H
      refine x_getR (q := 166) dX12_qGoesOnTest_163 rfl kl_RX12_218 rfl (k243 g1 (by decide) (m25.full n12)) g26 ?_
      refine x_aload_n (q := 167) dX12_qGoesOnTest_166 rfl rfl ?_
      refine x_getI (q := 170) dX12_qGoesOnTest_167 rfl kl_RX12_315 (Or.inl rfl) (k243 g1 (by decide) (m25.full n12)) ?_
      refine x_bipush (q := 172) (v := (11 : Int32)) dX12_qGoesOnTest_170 rfl (by decide) ?_
      replace H := kif H; obtain ⟨g27, H⟩ := H
      replace H := kifn H; obtain ⟨g28, H⟩ := H
      replace H := kle H; obtain ⟨h29, q30, H⟩ := H
      refine x_iast (q := 173) dX12_qGoesOnTest_172 rfl (k243 g27 (by decide) (m25.full n12)) g28 ?_
      refine x_nmH q30 ?_
      have n31 : h29.1 = 243 := by rw [q30]; exact (m25.full n12)
      refine x_aload_n (q := 174) dX12_qGoesOnTest_173 rfl rfl ?_
      refine x_dup (q := 175) dX12_qGoesOnTest_174 rfl rfl ?_
      refine x_getI (q := 178) dX12_qGoesOnTest_175 rfl kl_RX12_315 (Or.inl rfl) (k243 g1 (by decide) n31) ?_
      refine x_iconst (q := 179) (v := (1 : Int32)) dX12_qGoesOnTest_178 rfl (by decide) ?_
      refine x_iadd (q := 180) dX12_qGoesOnTest_179 rfl ?_
      replace H := kle H; obtain ⟨h32, q33, H⟩ := H
      refine x_putI (q := 183) dX12_qGoesOnTest_180 rfl kl_RX12_315 (Or.inl rfl) rfl (k243 g1 (by decide) n31) ?_
      refine x_nmH q33 ?_
      have n34 : h32.1 = 243 := by rw [q33]; exact n31
      refine x_iconst (q := 184) (v := (1 : Int32)) dX12_qGoesOnTest_183 rfl (by decide) ?_
      cases H
      exact x_end ⟨(Or.inr rfl), dX12_qGoesOnTest_184, rfl, rfl⟩
  · refine x_if_eq_f (q := 87) dX12_qGoesOnTest_84 (t := 126) (by decide) rfl g7 ?_
    refine x_sub (ls2 := [(0, .ref v0)]) [0] rfl ?_
    replace H := kbe H; obtain ⟨e35, c36, H⟩ := H
    refine x_app (sl_X12_qGoesOnTest_l87 v0 KF r3.2 e35 n6 c36) fun pc2 ls2 st2 h2 hg m37 => ?_
    obtain ⟨rfl, rfl, rfl, rfl⟩ := hg
    refine x_aload_n (q := 104) dX12_qGoesOnTest_103 rfl rfl ?_
    replace H := kif H; obtain ⟨g38, H⟩ := H
    refine x_getR (q := 107) dX12_qGoesOnTest_104 rfl kl_RX12_218 rfl (k243 g1 (by decide) (m37.full n6)) g38 ?_
    refine x_aload_n (q := 108) dX12_qGoesOnTest_107 rfl rfl ?_
    refine x_getI (q := 111) dX12_qGoesOnTest_108 rfl kl_RX12_315 (Or.inl rfl) (k243 g1 (by decide) (m37.full n6)) ?_
    refine x_bipush (q := 113) (v := (10 : Int32)) dX12_qGoesOnTest_111 rfl (by decide) ?_
    replace H := kif H; obtain ⟨g39, H⟩ := H
    replace H := kifn H; obtain ⟨g40, H⟩ := H
    replace H := kle H; obtain ⟨h41, q42, H⟩ := H
    refine x_iast (q := 114) dX12_qGoesOnTest_113 rfl (k243 g39 (by decide) (m37.full n6)) g40 ?_
    refine x_nmH q42 ?_
    have n43 : h41.1 = 243 := by rw [q42]; exact (m37.full n6)
    refine x_aload_n (q := 115) dX12_qGoesOnTest_114 rfl rfl ?_
    refine x_dup (q := 116) dX12_qGoesOnTest_115 rfl rfl ?_
    refine x_getI (q := 119) dX12_qGoesOnTest_116 rfl kl_RX12_315 (Or.inl rfl) (k243 g1 (by decide) n43) ?_
    refine x_iconst (q := 120) (v := (1 : Int32)) dX12_qGoesOnTest_119 rfl (by decide) ?_
    refine x_iadd (q := 121) dX12_qGoesOnTest_120 rfl ?_
    replace H := kle H; obtain ⟨h44, q45, H⟩ := H
    refine x_putI (q := 124) dX12_qGoesOnTest_121 rfl kl_RX12_315 (Or.inl rfl) rfl (k243 g1 (by decide) n43) ?_
    refine x_nmH q45 ?_
    have n46 : h44.1 = 243 := by rw [q45]; exact n43
    refine x_iconst (q := 125) (v := (1 : Int32)) dX12_qGoesOnTest_124 rfl (by decide) ?_
    cases H
    exact x_end ⟨(Or.inr rfl), dX12_qGoesOnTest_125, rfl, rfl⟩
def f_X12_qGoesOnTest (h : KH) (v0 : Nat) : Option (Int32 × KH) :=
  kb (kloop (f_X12_qGoesOnTest_l0 v0) KF h) fun e1 =>
  f_X12_qGoesOnTest_b76 e1 v0
set_option maxHeartbeats 4000000 in
set_option maxRecDepth 100000 in
theorem s0_X12_qGoesOnTest {Z : Nat → (Nat → Nat) → State → Prop} (h : KH) (v0 : Nat) {t : Int32 × KH} (hn : h.1 = 243) (H : f_X12_qGoesOnTest h v0 = some t) : KX Z RX12 cX12_qGoesOnTest 1 false 4 (KRz cX12_qGoesOnTest t.1 t.2) 0 [(0, .ref v0)] [] h := by
  unfold f_X12_qGoesOnTest at H
  refine x_sub (ls2 := [(0, .ref v0)]) [0] rfl ?_
  replace H := kbe H; obtain ⟨e1, c2, H⟩ := H
  refine x_app (sl_X12_qGoesOnTest_l0 v0 KF h e1 hn c2) fun pc2 ls2 st2 h2 hg m3 => ?_
  obtain ⟨rfl, rfl, rfl, rfl⟩ := hg
  refine x_sub (ls2 := [(0, .ref v0)]) [0] rfl ?_
  exact s_X12_qGoesOnTest_b76 e1 v0 (m3.full hn) H
theorem s_X12_qGoesOnTest {Z : Nat → (Nat → Nat) → State → Prop} (h : KH) (v0 : Nat) {t : Int32 × KH} (hn : h.1 = 243) (H : f_X12_qGoesOnTest h v0 = some t) : KM Z yX12_qGoesOnTest cX12_qGoesOnTest 1 (some .boolean) 4 [.ref v0] h (some (.int t.1)) t.2 :=
  kx_z (own := RX12) (ini := false) (by decide +kernel) (by decide +kernel) rfl (Nat.le_of_ble_eq_true rfl) (s0_X12_qGoesOnTest h v0 hn H)
theorem dX12_qTest_0 : decode cX12_qTest 0 = .ok (.iconst 1, 1) := by decide +kernel
theorem dX12_qTest_1 : decode cX12_qTest 1 = .ok (.istore_n 1, 1) := by decide +kernel
theorem dX12_qTest_2 : decode cX12_qTest 2 = .ok (.iload_n 1, 1) := by decide +kernel
theorem dX12_qTest_3 : decode cX12_qTest 3 = .ok (.ifCond .eq 107, 3) := by decide +kernel
theorem dX12_qTest_6 : decode cX12_qTest 6 = .ok (.aload_n 0, 1) := by decide +kernel
theorem dX12_qTest_7 : decode cX12_qTest 7 = .ok (.getfield 230, 3) := by decide +kernel
theorem dX12_qTest_10 : decode cX12_qTest 10 = .ok (.ifCond .ne 100, 3) := by decide +kernel
theorem dX12_qTest_13 : decode cX12_qTest 13 = .ok (.aload_n 0, 1) := by decide +kernel
theorem dX12_qTest_14 : decode cX12_qTest 14 = .ok (.invokevirtual 242, 3) := by decide +kernel
theorem dX12_qTest_17 : decode cX12_qTest 17 = .ok (.istore_n 2, 1) := by decide +kernel
theorem dX12_qTest_18 : decode cX12_qTest 18 = .ok (.iload_n 2, 1) := by decide +kernel
theorem dX12_qTest_19 : decode cX12_qTest 19 = .ok (.bipush 91, 2) := by decide +kernel
theorem dX12_qTest_21 : decode cX12_qTest 21 = .ok (.if_icmp .ne 26, 3) := by decide +kernel
theorem dX12_qTest_24 : decode cX12_qTest 24 = .ok (.aload_n 0, 1) := by decide +kernel
theorem dX12_qTest_25 : decode cX12_qTest 25 = .ok (.bipush 25, 2) := by decide +kernel
theorem dX12_qTest_27 : decode cX12_qTest 27 = .ok (.aload_n 0, 1) := by decide +kernel
theorem dX12_qTest_28 : decode cX12_qTest 28 = .ok (.getfield 236, 3) := by decide +kernel
theorem dX12_qTest_31 : decode cX12_qTest 31 = .ok (.invokevirtual 568, 3) := by decide +kernel
theorem dX12_qTest_34 : decode cX12_qTest 34 = .ok (.aload_n 0, 1) := by decide +kernel
theorem dX12_qTest_35 : decode cX12_qTest 35 = .ok (.dup, 1) := by decide +kernel
theorem dX12_qTest_36 : decode cX12_qTest 36 = .ok (.getfield 236, 3) := by decide +kernel
theorem dX12_qTest_39 : decode cX12_qTest 39 = .ok (.iconst 1, 1) := by decide +kernel
theorem dX12_qTest_40 : decode cX12_qTest 40 = .ok (.iadd, 1) := by decide +kernel
theorem dX12_qTest_41 : decode cX12_qTest 41 = .ok (.putfield 236, 3) := by decide +kernel
theorem dX12_qTest_44 : decode cX12_qTest 44 = .ok (.goto (-42), 3) := by decide +kernel
theorem dX12_qTest_47 : decode cX12_qTest 47 = .ok (.aload_n 0, 1) := by decide +kernel
theorem dX12_qTest_48 : decode cX12_qTest 48 = .ok (.aload_n 0, 1) := by decide +kernel
theorem dX12_qTest_49 : decode cX12_qTest 49 = .ok (.getfield 170, 3) := by decide +kernel
theorem dX12_qTest_52 : decode cX12_qTest 52 = .ok (.invokevirtual 253, 3) := by decide +kernel
theorem dX12_qTest_55 : decode cX12_qTest 55 = .ok (.ifCond .eq 24, 3) := by decide +kernel
theorem dX12_qTest_58 : decode cX12_qTest 58 = .ok (.aload_n 0, 1) := by decide +kernel
theorem dX12_qTest_59 : decode cX12_qTest 59 = .ok (.bipush 12, 2) := by decide +kernel
theorem dX12_qTest_61 : decode cX12_qTest 61 = .ok (.aload_n 0, 1) := by decide +kernel
theorem dX12_qTest_62 : decode cX12_qTest 62 = .ok (.getfield 236, 3) := by decide +kernel
theorem dX12_qTest_65 : decode cX12_qTest 65 = .ok (.invokevirtual 568, 3) := by decide +kernel
theorem dX12_qTest_68 : decode cX12_qTest 68 = .ok (.aload_n 0, 1) := by decide +kernel
theorem dX12_qTest_69 : decode cX12_qTest 69 = .ok (.aload_n 0, 1) := by decide +kernel
theorem dX12_qTest_70 : decode cX12_qTest 70 = .ok (.getfield 170, 3) := by decide +kernel
theorem dX12_qTest_73 : decode cX12_qTest 73 = .ok (.invokevirtual 300, 3) := by decide +kernel
theorem dX12_qTest_76 : decode cX12_qTest 76 = .ok (.goto (-74), 3) := by decide +kernel
theorem dX12_qTest_79 : decode cX12_qTest 79 = .ok (.aload_n 0, 1) := by decide +kernel
theorem dX12_qTest_80 : decode cX12_qTest 80 = .ok (.invokevirtual 595, 3) := by decide +kernel
theorem dX12_qTest_83 : decode cX12_qTest 83 = .ok (.aload_n 0, 1) := by decide +kernel
theorem dX12_qTest_84 : decode cX12_qTest 84 = .ok (.invokevirtual 598, 3) := by decide +kernel
theorem dX12_qTest_87 : decode cX12_qTest 87 = .ok (.aload_n 0, 1) := by decide +kernel
theorem dX12_qTest_88 : decode cX12_qTest 88 = .ok (.getfield 230, 3) := by decide +kernel
theorem dX12_qTest_91 : decode cX12_qTest 91 = .ok (.ifCond .ne 14, 3) := by decide +kernel
theorem dX12_qTest_94 : decode cX12_qTest 94 = .ok (.aload_n 0, 1) := by decide +kernel
theorem dX12_qTest_95 : decode cX12_qTest 95 = .ok (.invokevirtual 601, 3) := by decide +kernel
theorem dX12_qTest_98 : decode cX12_qTest 98 = .ok (.ifCond .eq 7, 3) := by decide +kernel
theorem dX12_qTest_101 : decode cX12_qTest 101 = .ok (.iconst 1, 1) := by decide +kernel
theorem dX12_qTest_102 : decode cX12_qTest 102 = .ok (.goto 4, 3) := by decide +kernel
theorem dX12_qTest_105 : decode cX12_qTest 105 = .ok (.iconst 0, 1) := by decide +kernel
theorem dX12_qTest_106 : decode cX12_qTest 106 = .ok (.istore_n 1, 1) := by decide +kernel
theorem dX12_qTest_107 : decode cX12_qTest 107 = .ok (.goto (-105), 3) := by decide +kernel
theorem dX12_qTest_110 : decode cX12_qTest 110 = .ok (.aload_n 0, 1) := by decide +kernel
theorem dX12_qTest_111 : decode cX12_qTest 111 = .ok (.getfield 230, 3) := by decide +kernel
theorem dX12_qTest_114 : decode cX12_qTest 114 = .ok (.ifCond .ne 17, 3) := by decide +kernel
theorem dX12_qTest_117 : decode cX12_qTest 117 = .ok (.aload_n 0, 1) := by decide +kernel
theorem dX12_qTest_118 : decode cX12_qTest 118 = .ok (.getfield 315, 3) := by decide +kernel
theorem dX12_qTest_121 : decode cX12_qTest 121 = .ok (.ifCond .le 10, 3) := by decide +kernel
theorem dX12_qTest_124 : decode cX12_qTest 124 = .ok (.aload_n 0, 1) := by decide +kernel
theorem dX12_qTest_125 : decode cX12_qTest 125 = .ok (.invokevirtual 556, 3) := by decide +kernel
theorem dX12_qTest_128 : decode cX12_qTest 128 = .ok (.goto (-18), 3) := by decide +kernel
theorem dX12_qTest_131 : decode cX12_qTest 131 = .ok (.return_, 1) := by decide +kernel
theorem kl_RX12_170 : KLk RX12 170 12 70 := ⟨RX12, TX12, 97, rfl, by decide, Or.inl (kwm 1267 (by decide +kernel) (by decide +kernel))⟩
theorem kc_RX12_595 : Cond.methodLink RX12 595 yX12_qFact ∈ ktG ∧ (Cond.instanceMethod yX12_qFact ∈ ktG ∧ Cond.selects yX12_qFact.cls yX12_qFact yX12_qFact ∈ ktG) ∧ Cond.initialized yX12_qFact.cls ∈ ktG ∧ Cond.code yX12_qFact cX12_qFact 2 none ∈ ktG := ⟨(kwm 1585 (by decide +kernel) (by decide +kernel)), ⟨(kwm 1587 (by decide +kernel) (by decide +kernel)), (kwm 54 (by decide +kernel) (by decide +kernel))⟩, (kwm 139 (by decide +kernel) (by decide +kernel)), kwm 1588 (by decide +kernel) (by decide +kernel)⟩
theorem kh_X12_qFact : yX12_qFact.cls ≠ "java/lang/invoke/MethodHandle" ∧ yX12_qFact.cls ≠ "java/lang/invoke/VarHandle" ∧ (parseMethodDescriptor yX12_qFact.desc).map (fun d => d.parameters.length) = some 0 := by decide +kernel
theorem kc_RX12_601 : Cond.methodLink RX12 601 yX12_qGoesOnTest ∈ ktG ∧ (Cond.instanceMethod yX12_qGoesOnTest ∈ ktG ∧ Cond.selects yX12_qGoesOnTest.cls yX12_qGoesOnTest yX12_qGoesOnTest ∈ ktG) ∧ Cond.initialized yX12_qGoesOnTest.cls ∈ ktG ∧ Cond.code yX12_qGoesOnTest cX12_qGoesOnTest 1 (some .boolean) ∈ ktG := ⟨(kwm 1656 (by decide +kernel) (by decide +kernel)), ⟨(kwm 1658 (by decide +kernel) (by decide +kernel)), (kwm 71 (by decide +kernel) (by decide +kernel))⟩, (kwm 139 (by decide +kernel) (by decide +kernel)), kwm 1659 (by decide +kernel) (by decide +kernel)⟩
theorem kh_X12_qGoesOnTest : yX12_qGoesOnTest.cls ≠ "java/lang/invoke/MethodHandle" ∧ yX12_qGoesOnTest.cls ≠ "java/lang/invoke/VarHandle" ∧ (parseMethodDescriptor yX12_qGoesOnTest.desc).map (fun d => d.parameters.length) = some 0 := by decide +kernel
def E_X12_qTest_l2 (v0 : Nat) : KH → Nat → List (Nat × Value) → List Value → KH → Prop := fun (e : KH) pc ls st hh => pc = 110 ∧ ls = [(0, .ref v0)] ∧ st = [] ∧ e = hh
def B_X12_qTest_l2 (v0 : Nat) : ((Int32 × KH) ⊕ (KH)) → Nat → List (Nat × Value) → List Value → KH → Prop := Sum.elim (fun (s : Int32 × KH) pc ls st hh => pc = 2 ∧ ls = [(0, .ref v0), (1, .int s.1)] ∧ st = [] ∧ hh = s.2) (E_X12_qTest_l2 v0)
def f_X12_qTest_b106 (h : KH) (v0 : Nat) (w0 : Int32) : Option ((Int32 × KH) ⊕ (KH)) :=
  some (.inl (w0, h))
set_option maxHeartbeats 4000000 in
set_option maxRecDepth 100000 in
theorem s_X12_qTest_b106 {Z : Nat → (Nat → Nat) → State → Prop} (h : KH) (v0 : Nat) (w0 : Int32) {t : (Int32 × KH) ⊕ (KH)} (hn : h.1 = 243) (H : f_X12_qTest_b106 h v0 w0 = some t) : KX Z RX12 cX12_qTest 3 false 9 (B_X12_qTest_l2 v0 t) 106 [(0, .ref v0)] [.int w0] h := by
  unfold f_X12_qTest_b106 at H
  refine x_istore_n (q := 107) (i := 1) (ls2 := [(1, .int w0), (0, .ref v0)]) dX12_qTest_106 rfl rfl (by decide) rfl ?_
  refine x_goto dX12_qTest_107 (q := 2) (by decide) ?_
  cases H
  refine x_sub (ls2 := [(0, .ref v0), (1, .int w0)]) [1, 0] rfl ?_
  exact x_end (x_cfg rfl)
def f_X12_qTest_b105 (h : KH) (v0 : Nat) : Option ((Int32 × KH) ⊕ (KH)) :=
  f_X12_qTest_b106 h v0 (0 : Int32)
set_option maxHeartbeats 4000000 in
set_option maxRecDepth 100000 in
theorem s_X12_qTest_b105 {Z : Nat → (Nat → Nat) → State → Prop} (h : KH) (v0 : Nat) {t : (Int32 × KH) ⊕ (KH)} (hn : h.1 = 243) (H : f_X12_qTest_b105 h v0 = some t) : KX Z RX12 cX12_qTest 3 false 9 (B_X12_qTest_l2 v0 t) 105 [(0, .ref v0)] [] h := by
  unfold f_X12_qTest_b105 at H
  refine x_iconst (q := 106) (v := (0 : Int32)) dX12_qTest_105 rfl (by decide) ?_
  refine x_sub (ls2 := [(0, .ref v0)]) [0] rfl ?_
  exact s_X12_qTest_b106 h v0 (0 : Int32) hn H
def f_X12_qTest_l2 (v0 : Nat) (s : Int32 × KH) : Option ((Int32 × KH) ⊕ (KH)) :=
  if s.1 = 0 then
  some (.inr s.2)
  else
  if kkind v0 = 12 then if (kI s.2 v0 5) = 0 then
  kb (f_X12_look0 s.2 v0) fun r4 =>
  if r4.1 = (91 : Int32) then
  kb (f_X12_qOpens r4.2 v0 (25 : Int32) (kI r4.2 v0 2)) fun r38 =>
  kl (ksI r38 v0 2 ((kI r38 v0 2) + (1 : Int32))) fun h42 =>
  some (.inl (s.1, h42))
  else
  if (kR r4.2 v0 70) < 999999 then kb (f_X12_isHere r4.2 v0 (kR r4.2 v0 70)) fun r10 =>
  if r10.1 = 0 then
  kb (f_X12_qFact r10.2 v0) fun r15 =>
  kb (f_X12_qDropsNots r15 v0) fun r19 =>
  if (kI r19 v0 5) = 0 then
  kb (f_X12_qGoesOnTest r19 v0) fun r24 =>
  if r24.1 = 0 then
  f_X12_qTest_b105 r24.2 v0
  else
  f_X12_qTest_b106 r24.2 v0 (1 : Int32)
  else
  f_X12_qTest_b105 r19 v0
  else
  kb (f_X12_qOpens r10.2 v0 (12 : Int32) (kI r10.2 v0 2)) fun r29 =>
  if (kR r29 v0 70) < 999999 then kb (f_X12_asks r29 v0 (kR r29 v0 70)) fun r34 =>
  some (.inl (s.1, r34)) else none else none
  else
  some (.inr s.2) else none
set_option maxHeartbeats 4000000 in
set_option maxRecDepth 100000 in
theorem s_X12_qTest_l2 {Z : Nat → (Nat → Nat) → State → Prop} (v0 : Nat) (s : Int32 × KH) (t : (Int32 × KH) ⊕ (KH)) (hn : (s.2).1 = 243) (H : f_X12_qTest_l2 v0 s = some t) : KX Z RX12 cX12_qTest 3 false 9 (B_X12_qTest_l2 v0 t) 2 [(0, .ref v0), (1, .int s.1)] [] s.2 := by
  unfold f_X12_qTest_l2 at H
  refine x_iload_n (q := 3) dX12_qTest_2 rfl rfl ?_
  replace H := kite H; rcases H with ⟨g1, H⟩ | ⟨g1, H⟩
  · refine x_if_eq_t dX12_qTest_3 (q := 110) (by decide) g1 ?_
    cases H
    refine x_sub (ls2 := [(0, .ref v0)]) [0] rfl ?_
    exact x_end (x_cfg rfl)
  · refine x_if_eq_f (q := 6) dX12_qTest_3 (t := 110) (by decide) rfl g1 ?_
    refine x_aload_n (q := 7) dX12_qTest_6 rfl rfl ?_
    replace H := kif H; obtain ⟨g2, H⟩ := H
    refine x_getI (q := 10) dX12_qTest_7 rfl kl_RX12_230 (Or.inl rfl) (k243 g2 (by decide) hn) ?_
    replace H := kite H; rcases H with ⟨g3, H⟩ | ⟨g3, H⟩
    · refine x_if_ne_f (q := 13) dX12_qTest_10 (t := 110) (by decide) rfl g3 ?_
      refine x_aload_n (q := 14) dX12_qTest_13 rfl rfl ?_
      replace H := kbe H; obtain ⟨r4, c5, H⟩ := H
      have m6 := s_X12_look0 (Z := Z) s.2 v0 hn c5
      refine x_callV (q := 17) (as := []) (rest := []) dX12_qTest_14 rfl kc_RX12_242 kh_X12_look0 (by decide) (Nat.le_of_ble_eq_true rfl) m6 (ci := 12) (by exact ⟨rfl, by decide⟩) (k243 g2 (by decide) hn) ?_
      have n7 : (r4.2).1 = 243 := m6.1.full hn
      refine x_istore_n (q := 18) (i := 2) (ls2 := [(2, .int r4.1), (0, .ref v0), (1, .int s.1)]) dX12_qTest_17 rfl rfl (by decide) rfl ?_
      refine x_iload_n (q := 19) dX12_qTest_18 rfl rfl ?_
      refine x_bipush (q := 21) (v := (91 : Int32)) dX12_qTest_19 rfl (by decide) ?_
      replace H := kite H; rcases H with ⟨g8, H⟩ | ⟨g8, H⟩
      · refine x_icmp_ne_f (q := 24) dX12_qTest_21 (t := 47) (by decide) rfl g8 ?_
        refine x_aload_n (q := 25) dX12_qTest_24 rfl rfl ?_
        refine x_bipush (q := 27) (v := (25 : Int32)) dX12_qTest_25 rfl (by decide) ?_
        refine x_aload_n (q := 28) dX12_qTest_27 rfl rfl ?_
        refine x_getI (q := 31) dX12_qTest_28 rfl kl_RX12_236 (Or.inl rfl) (k243 g2 (by decide) n7) ?_
        replace H := kbe H; obtain ⟨r38, c39, H⟩ := H
        have m40 := s_X12_qOpens (Z := Z) r4.2 v0 (25 : Int32) (kI r4.2 v0 2) n7 c39
        refine x_callV (q := 34) (as := [.int (25 : Int32), .int (kI r4.2 v0 2)]) (rest := []) dX12_qTest_31 rfl kc_RX12_568 kh_X12_qOpens (by decide) (Nat.le_of_ble_eq_true rfl) m40 (ci := 12) (by exact ⟨rfl, by decide⟩) (k243 g2 (by decide) n7) ?_
        have n41 : (r38).1 = 243 := m40.1.full n7
        refine x_aload_n (q := 35) dX12_qTest_34 rfl rfl ?_
        refine x_dup (q := 36) dX12_qTest_35 rfl rfl ?_
        refine x_getI (q := 39) dX12_qTest_36 rfl kl_RX12_236 (Or.inl rfl) (k243 g2 (by decide) n41) ?_
        refine x_iconst (q := 40) (v := (1 : Int32)) dX12_qTest_39 rfl (by decide) ?_
        refine x_iadd (q := 41) dX12_qTest_40 rfl ?_
        replace H := kle H; obtain ⟨h42, q43, H⟩ := H
        refine x_putI (q := 44) dX12_qTest_41 rfl kl_RX12_236 (Or.inl rfl) rfl (k243 g2 (by decide) n41) ?_
        refine x_nmH q43 ?_
        have n44 : h42.1 = 243 := by rw [q43]; exact n41
        refine x_goto dX12_qTest_44 (q := 2) (by decide) ?_
        cases H
        refine x_sub (ls2 := [(0, .ref v0), (1, .int s.1)]) [1, 2] rfl ?_
        exact x_end (x_cfg rfl)
      · refine x_icmp_ne_t dX12_qTest_21 (q := 47) (by decide) g8 ?_
        refine x_aload_n (q := 48) dX12_qTest_47 rfl rfl ?_
        refine x_aload_n (q := 49) dX12_qTest_48 rfl rfl ?_
        replace H := kif H; obtain ⟨g9, H⟩ := H
        refine x_getR (q := 52) dX12_qTest_49 rfl kl_RX12_170 rfl (k243 g2 (by decide) n7) g9 ?_
        replace H := kbe H; obtain ⟨r10, c11, H⟩ := H
        have m12 := s_X12_isHere (Z := Z) r4.2 v0 (kR r4.2 v0 70) n7 c11
        refine x_callV (q := 55) (as := [.ref (kR r4.2 v0 70)]) (rest := []) dX12_qTest_52 rfl kc_RX12_253 kh_X12_isHere (by decide) (Nat.le_of_ble_eq_true rfl) m12 (ci := 12) (by exact ⟨rfl, by decide⟩) (k243 g2 (by decide) n7) ?_
        have n13 : (r10.2).1 = 243 := m12.1.full n7
        replace H := kite H; rcases H with ⟨g14, H⟩ | ⟨g14, H⟩
        · refine x_if_eq_t dX12_qTest_55 (q := 79) (by decide) g14 ?_
          refine x_aload_n (q := 80) dX12_qTest_79 rfl rfl ?_
          replace H := kbe H; obtain ⟨r15, c16, H⟩ := H
          have m17 := s_X12_qFact (Z := Z) r10.2 v0 n13 c16
          refine x_callV (q := 83) (as := []) (rest := []) dX12_qTest_80 rfl kc_RX12_595 kh_X12_qFact (by decide) (Nat.le_of_ble_eq_true rfl) m17 (ci := 12) (by exact ⟨rfl, by decide⟩) (k243 g2 (by decide) n13) ?_
          have n18 : (r15).1 = 243 := m17.1.full n13
          refine x_aload_n (q := 84) dX12_qTest_83 rfl rfl ?_
          replace H := kbe H; obtain ⟨r19, c20, H⟩ := H
          have m21 := s_X12_qDropsNots (Z := Z) r15 v0 n18 c20
          refine x_callV (q := 87) (as := []) (rest := []) dX12_qTest_84 rfl kc_RX12_598 kh_X12_qDropsNots (by decide) (Nat.le_of_ble_eq_true rfl) m21 (ci := 12) (by exact ⟨rfl, by decide⟩) (k243 g2 (by decide) n18) ?_
          have n22 : (r19).1 = 243 := m21.1.full n18
          refine x_aload_n (q := 88) dX12_qTest_87 rfl rfl ?_
          refine x_getI (q := 91) dX12_qTest_88 rfl kl_RX12_230 (Or.inl rfl) (k243 g2 (by decide) n22) ?_
          replace H := kite H; rcases H with ⟨g23, H⟩ | ⟨g23, H⟩
          · refine x_if_ne_f (q := 94) dX12_qTest_91 (t := 105) (by decide) rfl g23 ?_
            refine x_aload_n (q := 95) dX12_qTest_94 rfl rfl ?_
            replace H := kbe H; obtain ⟨r24, c25, H⟩ := H
            have m26 := s_X12_qGoesOnTest (Z := Z) r19 v0 n22 c25
            refine x_callV (q := 98) (as := []) (rest := []) dX12_qTest_95 rfl kc_RX12_601 kh_X12_qGoesOnTest (by decide) (Nat.le_of_ble_eq_true rfl) m26 (ci := 12) (by exact ⟨rfl, by decide⟩) (k243 g2 (by decide) n22) ?_
            have n27 : (r24.2).1 = 243 := m26.1.full n22
            replace H := kite H; rcases H with ⟨g28, H⟩ | ⟨g28, H⟩
            · refine x_if_eq_t dX12_qTest_98 (q := 105) (by decide) g28 ?_
              refine x_sub (ls2 := [(0, .ref v0)]) [1] rfl ?_
              exact s_X12_qTest_b105 r24.2 v0 n27 H
            · refine x_if_eq_f (q := 101) dX12_qTest_98 (t := 105) (by decide) rfl g28 ?_
              refine x_iconst (q := 102) (v := (1 : Int32)) dX12_qTest_101 rfl (by decide) ?_
              refine x_goto dX12_qTest_102 (q := 106) (by decide) ?_
              refine x_sub (ls2 := [(0, .ref v0)]) [1] rfl ?_
              exact s_X12_qTest_b106 r24.2 v0 (1 : Int32) n27 H
          · refine x_if_ne_t dX12_qTest_91 (q := 105) (by decide) g23 ?_
            refine x_sub (ls2 := [(0, .ref v0)]) [1] rfl ?_
            exact s_X12_qTest_b105 r19 v0 n22 H
        · refine x_if_eq_f (q := 58) dX12_qTest_55 (t := 79) (by decide) rfl g14 ?_
          refine x_aload_n (q := 59) dX12_qTest_58 rfl rfl ?_
          refine x_bipush (q := 61) (v := (12 : Int32)) dX12_qTest_59 rfl (by decide) ?_
          refine x_aload_n (q := 62) dX12_qTest_61 rfl rfl ?_
          refine x_getI (q := 65) dX12_qTest_62 rfl kl_RX12_236 (Or.inl rfl) (k243 g2 (by decide) n13) ?_
          replace H := kbe H; obtain ⟨r29, c30, H⟩ := H
          have m31 := s_X12_qOpens (Z := Z) r10.2 v0 (12 : Int32) (kI r10.2 v0 2) n13 c30
          refine x_callV (q := 68) (as := [.int (12 : Int32), .int (kI r10.2 v0 2)]) (rest := []) dX12_qTest_65 rfl kc_RX12_568 kh_X12_qOpens (by decide) (Nat.le_of_ble_eq_true rfl) m31 (ci := 12) (by exact ⟨rfl, by decide⟩) (k243 g2 (by decide) n13) ?_
          have n32 : (r29).1 = 243 := m31.1.full n13
          refine x_aload_n (q := 69) dX12_qTest_68 rfl rfl ?_
          refine x_aload_n (q := 70) dX12_qTest_69 rfl rfl ?_
          replace H := kif H; obtain ⟨g33, H⟩ := H
          refine x_getR (q := 73) dX12_qTest_70 rfl kl_RX12_170 rfl (k243 g2 (by decide) n32) g33 ?_
          replace H := kbe H; obtain ⟨r34, c35, H⟩ := H
          have m36 := s_X12_asks (Z := Z) r29 v0 (kR r29 v0 70) n32 c35
          refine x_callV (q := 76) (as := [.ref (kR r29 v0 70)]) (rest := []) dX12_qTest_73 rfl kc_RX12_300 kh_X12_asks (by decide) (Nat.le_of_ble_eq_true rfl) m36 (ci := 12) (by exact ⟨rfl, by decide⟩) (k243 g2 (by decide) n32) ?_
          have n37 : (r34).1 = 243 := m36.1.full n32
          refine x_goto dX12_qTest_76 (q := 2) (by decide) ?_
          cases H
          refine x_sub (ls2 := [(0, .ref v0), (1, .int s.1)]) [1, 2] rfl ?_
          exact x_end (x_cfg rfl)
    · refine x_if_ne_t dX12_qTest_10 (q := 110) (by decide) g3 ?_
      cases H
      refine x_sub (ls2 := [(0, .ref v0)]) [0] rfl ?_
      exact x_end (x_cfg rfl)
theorem sl_X12_qTest_l2 {Z : Nat → (Nat → Nat) → State → Prop} (v0 : Nat) (n : Nat) (s : Int32 × KH) (r : KH) (hn : (s.2).1 = 243) (H : kloop (f_X12_qTest_l2 v0) n s = some r) : KX Z RX12 cX12_qTest 3 false 9 (E_X12_qTest_l2 v0 r) 2 [(0, .ref v0), (1, .int s.1)] [] s.2 :=
  k_loop (ls := (fun (s : Int32 × KH) => ([(0, .ref v0), (1, .int s.1)] : List (Nat × Value)))) (hp := (fun (s : Int32 × KH) => (s.2 : KH))) (G := E_X12_qTest_l2 v0) (fun s t hn H => s_X12_qTest_l2 v0 s t hn H) n s r hn H
def E_X12_qTest_l110 (v0 : Nat) : KH → Nat → List (Nat × Value) → List Value → KH → Prop := fun (e : KH) pc ls st hh => pc = 131 ∧ ls = [] ∧ st = [] ∧ e = hh
def B_X12_qTest_l110 (v0 : Nat) : ((KH) ⊕ (KH)) → Nat → List (Nat × Value) → List Value → KH → Prop := Sum.elim (fun (s : KH) pc ls st hh => pc = 110 ∧ ls = [(0, .ref v0)] ∧ st = [] ∧ hh = s) (E_X12_qTest_l110 v0)
def f_X12_qTest_l110 (v0 : Nat) (s : KH) : Option ((KH) ⊕ (KH)) :=
  if kkind v0 = 12 then if (kI s v0 5) = 0 then
  if (kI s v0 88) ≤ 0 then
  some (.inr s)
  else
  kb (f_X12_qDrops s v0) fun r4 =>
  some (.inl r4)
  else
  some (.inr s) else none
set_option maxHeartbeats 4000000 in
set_option maxRecDepth 100000 in
theorem s_X12_qTest_l110 {Z : Nat → (Nat → Nat) → State → Prop} (v0 : Nat) (s : KH) (t : (KH) ⊕ (KH)) (hn : (s).1 = 243) (H : f_X12_qTest_l110 v0 s = some t) : KX Z RX12 cX12_qTest 3 false 9 (B_X12_qTest_l110 v0 t) 110 [(0, .ref v0)] [] s := by
  unfold f_X12_qTest_l110 at H
  refine x_aload_n (q := 111) dX12_qTest_110 rfl rfl ?_
  replace H := kif H; obtain ⟨g1, H⟩ := H
  refine x_getI (q := 114) dX12_qTest_111 rfl kl_RX12_230 (Or.inl rfl) (k243 g1 (by decide) hn) ?_
  replace H := kite H; rcases H with ⟨g2, H⟩ | ⟨g2, H⟩
  · refine x_if_ne_f (q := 117) dX12_qTest_114 (t := 131) (by decide) rfl g2 ?_
    refine x_aload_n (q := 118) dX12_qTest_117 rfl rfl ?_
    refine x_getI (q := 121) dX12_qTest_118 rfl kl_RX12_315 (Or.inl rfl) (k243 g1 (by decide) hn) ?_
    replace H := kite H; rcases H with ⟨g3, H⟩ | ⟨g3, H⟩
    · refine x_if_le_t dX12_qTest_121 (q := 131) (by decide) g3 ?_
      cases H
      refine x_sub (ls2 := []) [] rfl ?_
      exact x_end (x_cfg rfl)
    · refine x_if_le_f (q := 124) dX12_qTest_121 (t := 131) (by decide) rfl g3 ?_
      refine x_aload_n (q := 125) dX12_qTest_124 rfl rfl ?_
      replace H := kbe H; obtain ⟨r4, c5, H⟩ := H
      have m6 := s_X12_qDrops (Z := Z) s v0 hn c5
      refine x_callV (q := 128) (as := []) (rest := []) dX12_qTest_125 rfl kc_RX12_556 kh_X12_qDrops (by decide) (Nat.le_of_ble_eq_true rfl) m6 (ci := 12) (by exact ⟨rfl, by decide⟩) (k243 g1 (by decide) hn) ?_
      have n7 : (r4).1 = 243 := m6.1.full hn
      refine x_goto dX12_qTest_128 (q := 110) (by decide) ?_
      cases H
      refine x_sub (ls2 := [(0, .ref v0)]) [0] rfl ?_
      exact x_end (x_cfg rfl)
  · refine x_if_ne_t dX12_qTest_114 (q := 131) (by decide) g2 ?_
    cases H
    refine x_sub (ls2 := []) [] rfl ?_
    exact x_end (x_cfg rfl)
theorem sl_X12_qTest_l110 {Z : Nat → (Nat → Nat) → State → Prop} (v0 : Nat) (n : Nat) (s : KH) (r : KH) (hn : (s).1 = 243) (H : kloop (f_X12_qTest_l110 v0) n s = some r) : KX Z RX12 cX12_qTest 3 false 9 (E_X12_qTest_l110 v0 r) 110 [(0, .ref v0)] [] s :=
  k_loop (ls := (fun (s : KH) => ([(0, .ref v0)] : List (Nat × Value)))) (hp := (fun (s : KH) => (s : KH))) (G := E_X12_qTest_l110 v0) (fun s t hn H => s_X12_qTest_l110 v0 s t hn H) n s r hn H
def f_X12_qTest (h : KH) (v0 : Nat) : Option (KH) :=
  kb (kloop (f_X12_qTest_l2 v0) KF ((1 : Int32), h)) fun e1 =>
  kb (kloop (f_X12_qTest_l110 v0) KF e1) fun e4 =>
  some e4
set_option maxHeartbeats 4000000 in
set_option maxRecDepth 100000 in
theorem s0_X12_qTest {Z : Nat → (Nat → Nat) → State → Prop} (h : KH) (v0 : Nat) {t : KH} (hn : h.1 = 243) (H : f_X12_qTest h v0 = some t) : KX Z RX12 cX12_qTest 3 false 9 (KRv cX12_qTest t) 0 [(0, .ref v0)] [] h := by
  unfold f_X12_qTest at H
  refine x_iconst (q := 1) (v := (1 : Int32)) dX12_qTest_0 rfl (by decide) ?_
  refine x_istore_n (q := 2) (i := 1) (ls2 := [(1, .int (1 : Int32)), (0, .ref v0)]) dX12_qTest_1 rfl rfl (by decide) rfl ?_
  refine x_sub (ls2 := [(0, .ref v0), (1, .int (1 : Int32))]) [1, 0] rfl ?_
  replace H := kbe H; obtain ⟨e1, c2, H⟩ := H
  refine x_app (sl_X12_qTest_l2 v0 KF ((1 : Int32), h) e1 hn c2) fun pc2 ls2 st2 h2 hg m3 => ?_
  obtain ⟨rfl, rfl, rfl, rfl⟩ := hg
  refine x_sub (ls2 := [(0, .ref v0)]) [0] rfl ?_
  replace H := kbe H; obtain ⟨e4, c5, H⟩ := H
  refine x_app (sl_X12_qTest_l110 v0 KF e1 e4 (m3.full hn) c5) fun pc2 ls2 st2 h2 hg m6 => ?_
  obtain ⟨rfl, rfl, rfl, rfl⟩ := hg
  cases H
  exact x_end ⟨dX12_qTest_131, rfl, rfl⟩
theorem s_X12_qTest {Z : Nat → (Nat → Nat) → State → Prop} (h : KH) (v0 : Nat) {t : KH} (hn : h.1 = 243) (H : f_X12_qTest h v0 = some t) : KM Z yX12_qTest cX12_qTest 3 none 9 [.ref v0] h none t :=
  kx_v (own := RX12) (ini := false) (by decide +kernel) (by decide +kernel) rfl (Nat.le_of_ble_eq_true rfl) (s0_X12_qTest h v0 hn H)
theorem dX12_lawTold_0 : decode cX12_lawTold 0 = .ok (.aload_n 0, 1) := by decide +kernel
theorem dX12_lawTold_1 : decode cX12_lawTold 1 = .ok (.getfield 230, 3) := by decide +kernel
theorem dX12_lawTold_4 : decode cX12_lawTold 4 = .ok (.ifCond .ne 19, 3) := by decide +kernel
theorem dX12_lawTold_7 : decode cX12_lawTold 7 = .ok (.aload_n 0, 1) := by decide +kernel
theorem dX12_lawTold_8 : decode cX12_lawTold 8 = .ok (.getfield 106, 3) := by decide +kernel
theorem dX12_lawTold_11 : decode cX12_lawTold 11 = .ok (.iconst 0, 1) := by decide +kernel
theorem dX12_lawTold_12 : decode cX12_lawTold 12 = .ok (.iaload, 1) := by decide +kernel
theorem dX12_lawTold_13 : decode cX12_lawTold 13 = .ok (.iconst (-1), 1) := by decide +kernel
theorem dX12_lawTold_14 : decode cX12_lawTold 14 = .ok (.if_icmp .eq 9, 3) := by decide +kernel
theorem dX12_lawTold_17 : decode cX12_lawTold 17 = .ok (.aload_n 0, 1) := by decide +kernel
theorem dX12_lawTold_18 : decode cX12_lawTold 18 = .ok (.iconst 5, 1) := by decide +kernel
theorem dX12_lawTold_19 : decode cX12_lawTold 19 = .ok (.iload_n 1, 1) := by decide +kernel
theorem dX12_lawTold_20 : decode cX12_lawTold 20 = .ok (.invokevirtual 260, 3) := by decide +kernel
theorem dX12_lawTold_23 : decode cX12_lawTold 23 = .ok (.aload_n 0, 1) := by decide +kernel
theorem dX12_lawTold_24 : decode cX12_lawTold 24 = .ok (.getfield 230, 3) := by decide +kernel
theorem dX12_lawTold_27 : decode cX12_lawTold 27 = .ok (.ifCond .eq 4, 3) := by decide +kernel
theorem dX12_lawTold_30 : decode cX12_lawTold 30 = .ok (.return_, 1) := by decide +kernel
theorem dX12_lawTold_31 : decode cX12_lawTold 31 = .ok (.aload_n 0, 1) := by decide +kernel
theorem dX12_lawTold_32 : decode cX12_lawTold 32 = .ok (.iconst 1, 1) := by decide +kernel
theorem dX12_lawTold_33 : decode cX12_lawTold 33 = .ok (.putfield 285, 3) := by decide +kernel
theorem dX12_lawTold_36 : decode cX12_lawTold 36 = .ok (.aload_n 0, 1) := by decide +kernel
theorem dX12_lawTold_37 : decode cX12_lawTold 37 = .ok (.iconst 0, 1) := by decide +kernel
theorem dX12_lawTold_38 : decode cX12_lawTold 38 = .ok (.putfield 312, 3) := by decide +kernel
theorem dX12_lawTold_41 : decode cX12_lawTold 41 = .ok (.aload_n 0, 1) := by decide +kernel
theorem dX12_lawTold_42 : decode cX12_lawTold 42 = .ok (.iconst 0, 1) := by decide +kernel
theorem dX12_lawTold_43 : decode cX12_lawTold 43 = .ok (.putfield 315, 3) := by decide +kernel
theorem dX12_lawTold_46 : decode cX12_lawTold 46 = .ok (.aload_n 0, 1) := by decide +kernel
theorem dX12_lawTold_47 : decode cX12_lawTold 47 = .ok (.iconst 0, 1) := by decide +kernel
theorem dX12_lawTold_48 : decode cX12_lawTold 48 = .ok (.putfield 318, 3) := by decide +kernel
theorem dX12_lawTold_51 : decode cX12_lawTold 51 = .ok (.aload_n 0, 1) := by decide +kernel
theorem dX12_lawTold_52 : decode cX12_lawTold 52 = .ok (.iconst 0, 1) := by decide +kernel
theorem dX12_lawTold_53 : decode cX12_lawTold 53 = .ok (.putfield 321, 3) := by decide +kernel
theorem dX12_lawTold_56 : decode cX12_lawTold 56 = .ok (.aload_n 0, 1) := by decide +kernel
theorem dX12_lawTold_57 : decode cX12_lawTold 57 = .ok (.invokevirtual 324, 3) := by decide +kernel
theorem dX12_lawTold_60 : decode cX12_lawTold 60 = .ok (.aload_n 0, 1) := by decide +kernel
theorem dX12_lawTold_61 : decode cX12_lawTold 61 = .ok (.getfield 230, 3) := by decide +kernel
theorem dX12_lawTold_64 : decode cX12_lawTold 64 = .ok (.ifCond .eq 4, 3) := by decide +kernel
theorem dX12_lawTold_67 : decode cX12_lawTold 67 = .ok (.return_, 1) := by decide +kernel
theorem dX12_lawTold_68 : decode cX12_lawTold 68 = .ok (.aload_n 0, 1) := by decide +kernel
theorem dX12_lawTold_69 : decode cX12_lawTold 69 = .ok (.getfield 106, 3) := by decide +kernel
theorem dX12_lawTold_72 : decode cX12_lawTold 72 = .ok (.iconst 0, 1) := by decide +kernel
theorem dX12_lawTold_73 : decode cX12_lawTold 73 = .ok (.aload_n 0, 1) := by decide +kernel
theorem dX12_lawTold_74 : decode cX12_lawTold 74 = .ok (.getfield 327, 3) := by decide +kernel
theorem dX12_lawTold_77 : decode cX12_lawTold 77 = .ok (.iastore, 1) := by decide +kernel
theorem dX12_lawTold_78 : decode cX12_lawTold 78 = .ok (.iconst 0, 1) := by decide +kernel
theorem dX12_lawTold_79 : decode cX12_lawTold 79 = .ok (.istore_n 2, 1) := by decide +kernel
theorem dX12_lawTold_80 : decode cX12_lawTold 80 = .ok (.iload_n 2, 1) := by decide +kernel
theorem dX12_lawTold_81 : decode cX12_lawTold 81 = .ok (.aload_n 0, 1) := by decide +kernel
theorem dX12_lawTold_82 : decode cX12_lawTold 82 = .ok (.getfield 312, 3) := by decide +kernel
theorem dX12_lawTold_85 : decode cX12_lawTold 85 = .ok (.if_icmp .ge 34, 3) := by decide +kernel
theorem dX12_lawTold_88 : decode cX12_lawTold 88 = .ok (.aload_n 0, 1) := by decide +kernel
theorem dX12_lawTold_89 : decode cX12_lawTold 89 = .ok (.getfield 112, 3) := by decide +kernel
theorem dX12_lawTold_92 : decode cX12_lawTold 92 = .ok (.aload_n 0, 1) := by decide +kernel
theorem dX12_lawTold_93 : decode cX12_lawTold 93 = .ok (.getfield 327, 3) := by decide +kernel
theorem dX12_lawTold_96 : decode cX12_lawTold 96 = .ok (.aload_n 0, 1) := by decide +kernel
theorem dX12_lawTold_97 : decode cX12_lawTold 97 = .ok (.getfield 215, 3) := by decide +kernel
theorem dX12_lawTold_100 : decode cX12_lawTold 100 = .ok (.iload_n 2, 1) := by decide +kernel
theorem dX12_lawTold_101 : decode cX12_lawTold 101 = .ok (.iaload, 1) := by decide +kernel
theorem dX12_lawTold_102 : decode cX12_lawTold 102 = .ok (.iastore, 1) := by decide +kernel
theorem dX12_lawTold_103 : decode cX12_lawTold 103 = .ok (.aload_n 0, 1) := by decide +kernel
theorem dX12_lawTold_104 : decode cX12_lawTold 104 = .ok (.dup, 1) := by decide +kernel
theorem dX12_lawTold_105 : decode cX12_lawTold 105 = .ok (.getfield 327, 3) := by decide +kernel
theorem dX12_lawTold_108 : decode cX12_lawTold 108 = .ok (.iconst 1, 1) := by decide +kernel
theorem dX12_lawTold_109 : decode cX12_lawTold 109 = .ok (.iadd, 1) := by decide +kernel
theorem dX12_lawTold_110 : decode cX12_lawTold 110 = .ok (.putfield 327, 3) := by decide +kernel
theorem dX12_lawTold_113 : decode cX12_lawTold 113 = .ok (.iinc 2 1, 3) := by decide +kernel
theorem dX12_lawTold_116 : decode cX12_lawTold 116 = .ok (.goto (-36), 3) := by decide +kernel
theorem dX12_lawTold_119 : decode cX12_lawTold 119 = .ok (.aload_n 0, 1) := by decide +kernel
theorem dX12_lawTold_120 : decode cX12_lawTold 120 = .ok (.getfield 109, 3) := by decide +kernel
theorem dX12_lawTold_123 : decode cX12_lawTold 123 = .ok (.iconst 0, 1) := by decide +kernel
theorem dX12_lawTold_124 : decode cX12_lawTold 124 = .ok (.aload_n 0, 1) := by decide +kernel
theorem dX12_lawTold_125 : decode cX12_lawTold 125 = .ok (.getfield 327, 3) := by decide +kernel
theorem dX12_lawTold_128 : decode cX12_lawTold 128 = .ok (.iastore, 1) := by decide +kernel
theorem dX12_lawTold_129 : decode cX12_lawTold 129 = .ok (.return_, 1) := by decide +kernel
theorem kc_RX12_324 : Cond.methodLink RX12 324 yX12_qTest ∈ ktG ∧ (Cond.instanceMethod yX12_qTest ∈ ktG ∧ Cond.selects yX12_qTest.cls yX12_qTest yX12_qTest ∈ ktG) ∧ Cond.initialized yX12_qTest.cls ∈ ktG ∧ Cond.code yX12_qTest cX12_qTest 3 none ∈ ktG := ⟨(kwm 1577 (by decide +kernel) (by decide +kernel)), ⟨(kwm 1579 (by decide +kernel) (by decide +kernel)), (kwm 52 (by decide +kernel) (by decide +kernel))⟩, (kwm 139 (by decide +kernel) (by decide +kernel)), kwm 1580 (by decide +kernel) (by decide +kernel)⟩
theorem kh_X12_qTest : yX12_qTest.cls ≠ "java/lang/invoke/MethodHandle" ∧ yX12_qTest.cls ≠ "java/lang/invoke/VarHandle" ∧ (parseMethodDescriptor yX12_qTest.desc).map (fun d => d.parameters.length) = some 0 := by decide +kernel
theorem kl_RX12_106 : KLk RX12 106 12 39 := ⟨RX12, TX12, 97, rfl, by decide, Or.inl (kwm 1236 (by decide +kernel) (by decide +kernel))⟩
theorem kl_RX12_327 : KLk RX12 327 12 42 := ⟨RX12, TX12, 97, rfl, by decide, Or.inl (kwm 1239 (by decide +kernel) (by decide +kernel))⟩
theorem kl_RX12_112 : KLk RX12 112 12 41 := ⟨RX12, TX12, 97, rfl, by decide, Or.inl (kwm 1238 (by decide +kernel) (by decide +kernel))⟩
theorem kl_RX12_109 : KLk RX12 109 12 40 := ⟨RX12, TX12, 97, rfl, by decide, Or.inl (kwm 1237 (by decide +kernel) (by decide +kernel))⟩
def E_X12_lawTold_l80 (v0 : Nat) : KH → Nat → List (Nat × Value) → List Value → KH → Prop := fun (e : KH) pc ls st hh => pc = 119 ∧ ls = [(0, .ref v0)] ∧ st = [] ∧ e = hh
def B_X12_lawTold_l80 (v0 : Nat) : ((Int32 × KH) ⊕ (KH)) → Nat → List (Nat × Value) → List Value → KH → Prop := Sum.elim (fun (s : Int32 × KH) pc ls st hh => pc = 80 ∧ ls = [(0, .ref v0), (2, .int s.1)] ∧ st = [] ∧ hh = s.2) (E_X12_lawTold_l80 v0)
def f_X12_lawTold_l80 (v0 : Nat) (s : Int32 × KH) : Option ((Int32 × KH) ⊕ (KH)) :=
  if kkind v0 = 12 then if (kI s.2 v0 86) ≤ s.1 then
  some (.inr s.2)
  else
  if (kR s.2 v0 41) < 999999 then if (kR s.2 v0 85) < 999999 then if kkind (kR s.2 v0 85) = 20 then if (s.1 < 0 ∨ klen (kR s.2 v0 85) ≤ (s.1).toNatClampNeg) then none else if kkind (kR s.2 v0 41) = 20 then if ((kI s.2 v0 42) < 0 ∨ klen (kR s.2 v0 41) ≤ ((kI s.2 v0 42)).toNatClampNeg) then none else kl (ksI s.2 (kR s.2 v0 41) (((kI s.2 v0 42)).toNatClampNeg) (kI s.2 (kR s.2 v0 85) ((s.1).toNatClampNeg))) fun h9 =>
  kl (ksI h9 v0 42 ((kI h9 v0 42) + (1 : Int32))) fun h12 =>
  kl (s.1 + (1 : Int32)) fun x15 =>
  some (.inl (x15, h12)) else none else none else none else none else none
set_option maxHeartbeats 4000000 in
set_option maxRecDepth 100000 in
theorem s_X12_lawTold_l80 {Z : Nat → (Nat → Nat) → State → Prop} (v0 : Nat) (s : Int32 × KH) (t : (Int32 × KH) ⊕ (KH)) (hn : (s.2).1 = 243) (H : f_X12_lawTold_l80 v0 s = some t) : KX Z RX12 cX12_lawTold 3 false 10 (B_X12_lawTold_l80 v0 t) 80 [(0, .ref v0), (2, .int s.1)] [] s.2 := by
  unfold f_X12_lawTold_l80 at H
  refine x_iload_n (q := 81) dX12_lawTold_80 rfl rfl ?_
  refine x_aload_n (q := 82) dX12_lawTold_81 rfl rfl ?_
  replace H := kif H; obtain ⟨g1, H⟩ := H
  refine x_getI (q := 85) dX12_lawTold_82 rfl kl_RX12_312 (Or.inl rfl) (k243 g1 (by decide) hn) ?_
  replace H := kite H; rcases H with ⟨g2, H⟩ | ⟨g2, H⟩
  · refine x_icmp_ge_t dX12_lawTold_85 (q := 119) (by decide) g2 ?_
    cases H
    refine x_sub (ls2 := [(0, .ref v0)]) [0] rfl ?_
    exact x_end (x_cfg rfl)
  · refine x_icmp_ge_f (q := 88) dX12_lawTold_85 (t := 119) (by decide) rfl g2 ?_
    refine x_aload_n (q := 89) dX12_lawTold_88 rfl rfl ?_
    replace H := kif H; obtain ⟨g3, H⟩ := H
    refine x_getR (q := 92) dX12_lawTold_89 rfl kl_RX12_112 rfl (k243 g1 (by decide) hn) g3 ?_
    refine x_aload_n (q := 93) dX12_lawTold_92 rfl rfl ?_
    refine x_getI (q := 96) dX12_lawTold_93 rfl kl_RX12_327 (Or.inl rfl) (k243 g1 (by decide) hn) ?_
    refine x_aload_n (q := 97) dX12_lawTold_96 rfl rfl ?_
    replace H := kif H; obtain ⟨g4, H⟩ := H
    refine x_getR (q := 100) dX12_lawTold_97 rfl kl_RX12_215 rfl (k243 g1 (by decide) hn) g4 ?_
    refine x_iload_n (q := 101) dX12_lawTold_100 rfl rfl ?_
    replace H := kif H; obtain ⟨g5, H⟩ := H
    replace H := kifn H; obtain ⟨g6, H⟩ := H
    refine x_iald (q := 102) dX12_lawTold_101 rfl (k243 g5 (by decide) hn) g6 ?_
    replace H := kif H; obtain ⟨g7, H⟩ := H
    replace H := kifn H; obtain ⟨g8, H⟩ := H
    replace H := kle H; obtain ⟨h9, q10, H⟩ := H
    refine x_iast (q := 103) dX12_lawTold_102 rfl (k243 g7 (by decide) hn) g8 ?_
    refine x_nmH q10 ?_
    have n11 : h9.1 = 243 := by rw [q10]; exact hn
    refine x_aload_n (q := 104) dX12_lawTold_103 rfl rfl ?_
    refine x_dup (q := 105) dX12_lawTold_104 rfl rfl ?_
    refine x_getI (q := 108) dX12_lawTold_105 rfl kl_RX12_327 (Or.inl rfl) (k243 g1 (by decide) n11) ?_
    refine x_iconst (q := 109) (v := (1 : Int32)) dX12_lawTold_108 rfl (by decide) ?_
    refine x_iadd (q := 110) dX12_lawTold_109 rfl ?_
    replace H := kle H; obtain ⟨h12, q13, H⟩ := H
    refine x_putI (q := 113) dX12_lawTold_110 rfl kl_RX12_327 (Or.inl rfl) rfl (k243 g1 (by decide) n11) ?_
    refine x_nmH q13 ?_
    have n14 : h12.1 = 243 := by rw [q13]; exact n11
    replace H := kle H; obtain ⟨x15, q16, H⟩ := H
    refine x_iinc (q := 116) (i := 2) (ls2 := [(2, .int x15), (0, .ref v0)]) dX12_lawTold_113 rfl rfl (by decide) (by rw [q16]; rfl) ?_
    refine x_goto dX12_lawTold_116 (q := 80) (by decide) ?_
    cases H
    refine x_sub (ls2 := [(0, .ref v0), (2, .int x15)]) [1, 0] rfl ?_
    exact x_end (x_cfg rfl)
theorem sl_X12_lawTold_l80 {Z : Nat → (Nat → Nat) → State → Prop} (v0 : Nat) (n : Nat) (s : Int32 × KH) (r : KH) (hn : (s.2).1 = 243) (H : kloop (f_X12_lawTold_l80 v0) n s = some r) : KX Z RX12 cX12_lawTold 3 false 10 (E_X12_lawTold_l80 v0 r) 80 [(0, .ref v0), (2, .int s.1)] [] s.2 :=
  k_loop (ls := (fun (s : Int32 × KH) => ([(0, .ref v0), (2, .int s.1)] : List (Nat × Value)))) (hp := (fun (s : Int32 × KH) => (s.2 : KH))) (G := E_X12_lawTold_l80 v0) (fun s t hn H => s_X12_lawTold_l80 v0 s t hn H) n s r hn H
def f_X12_lawTold_b23 (h : KH) (v0 : Nat) : Option (KH) :=
  if kkind v0 = 12 then if (kI h v0 5) = 0 then
  kl (ksI h v0 44 (1 : Int32)) fun h3 =>
  kl (ksI h3 v0 86 (0 : Int32)) fun h6 =>
  kl (ksI h6 v0 88 (0 : Int32)) fun h9 =>
  kl (ksI h9 v0 89 (0 : Int32)) fun h12 =>
  kl (ksI h12 v0 90 (0 : Int32)) fun h15 =>
  kb (f_X12_qTest h15 v0) fun r18 =>
  if (kI r18 v0 5) = 0 then
  if (kR r18 v0 39) < 999999 then if kkind (kR r18 v0 39) = 20 then if klen (kR r18 v0 39) ≤ 0 then none else kl (ksI r18 (kR r18 v0 39) 0 (kI r18 v0 42)) fun h26 =>
  kb (kloop (f_X12_lawTold_l80 v0) KF ((0 : Int32), h26)) fun e29 =>
  if (kR e29 v0 40) < 999999 then if kkind (kR e29 v0 40) = 20 then if klen (kR e29 v0 40) ≤ 0 then none else kl (ksI e29 (kR e29 v0 40) 0 (kI e29 v0 42)) fun h35 =>
  some h35 else none else none else none else none
  else
  some r18
  else
  some h else none
set_option maxHeartbeats 4000000 in
set_option maxRecDepth 100000 in
theorem s_X12_lawTold_b23 {Z : Nat → (Nat → Nat) → State → Prop} (h : KH) (v0 : Nat) {t : KH} (hn : h.1 = 243) (H : f_X12_lawTold_b23 h v0 = some t) : KX Z RX12 cX12_lawTold 3 false 10 (KRv cX12_lawTold t) 23 [(0, .ref v0)] [] h := by
  unfold f_X12_lawTold_b23 at H
  refine x_aload_n (q := 24) dX12_lawTold_23 rfl rfl ?_
  replace H := kif H; obtain ⟨g1, H⟩ := H
  refine x_getI (q := 27) dX12_lawTold_24 rfl kl_RX12_230 (Or.inl rfl) (k243 g1 (by decide) hn) ?_
  replace H := kite H; rcases H with ⟨g2, H⟩ | ⟨g2, H⟩
  · refine x_if_eq_t dX12_lawTold_27 (q := 31) (by decide) g2 ?_
    refine x_aload_n (q := 32) dX12_lawTold_31 rfl rfl ?_
    refine x_iconst (q := 33) (v := (1 : Int32)) dX12_lawTold_32 rfl (by decide) ?_
    replace H := kle H; obtain ⟨h3, q4, H⟩ := H
    refine x_putZ (q := 36) dX12_lawTold_33 rfl kl_RX12_285 (Or.inl rfl) rfl (by decide) (k243 g1 (by decide) hn) ?_
    refine x_nmH q4 ?_
    have n5 : h3.1 = 243 := by rw [q4]; exact hn
    refine x_aload_n (q := 37) dX12_lawTold_36 rfl rfl ?_
    refine x_iconst (q := 38) (v := (0 : Int32)) dX12_lawTold_37 rfl (by decide) ?_
    replace H := kle H; obtain ⟨h6, q7, H⟩ := H
    refine x_putI (q := 41) dX12_lawTold_38 rfl kl_RX12_312 (Or.inl rfl) rfl (k243 g1 (by decide) n5) ?_
    refine x_nmH q7 ?_
    have n8 : h6.1 = 243 := by rw [q7]; exact n5
    refine x_aload_n (q := 42) dX12_lawTold_41 rfl rfl ?_
    refine x_iconst (q := 43) (v := (0 : Int32)) dX12_lawTold_42 rfl (by decide) ?_
    replace H := kle H; obtain ⟨h9, q10, H⟩ := H
    refine x_putI (q := 46) dX12_lawTold_43 rfl kl_RX12_315 (Or.inl rfl) rfl (k243 g1 (by decide) n8) ?_
    refine x_nmH q10 ?_
    have n11 : h9.1 = 243 := by rw [q10]; exact n8
    refine x_aload_n (q := 47) dX12_lawTold_46 rfl rfl ?_
    refine x_iconst (q := 48) (v := (0 : Int32)) dX12_lawTold_47 rfl (by decide) ?_
    replace H := kle H; obtain ⟨h12, q13, H⟩ := H
    refine x_putI (q := 51) dX12_lawTold_48 rfl kl_RX12_318 (Or.inl rfl) rfl (k243 g1 (by decide) n11) ?_
    refine x_nmH q13 ?_
    have n14 : h12.1 = 243 := by rw [q13]; exact n11
    refine x_aload_n (q := 52) dX12_lawTold_51 rfl rfl ?_
    refine x_iconst (q := 53) (v := (0 : Int32)) dX12_lawTold_52 rfl (by decide) ?_
    replace H := kle H; obtain ⟨h15, q16, H⟩ := H
    refine x_putI (q := 56) dX12_lawTold_53 rfl kl_RX12_321 (Or.inl rfl) rfl (k243 g1 (by decide) n14) ?_
    refine x_nmH q16 ?_
    have n17 : h15.1 = 243 := by rw [q16]; exact n14
    refine x_aload_n (q := 57) dX12_lawTold_56 rfl rfl ?_
    replace H := kbe H; obtain ⟨r18, c19, H⟩ := H
    have m20 := s_X12_qTest (Z := Z) h15 v0 n17 c19
    refine x_callV (q := 60) (as := []) (rest := []) dX12_lawTold_57 rfl kc_RX12_324 kh_X12_qTest (by decide) (Nat.le_of_ble_eq_true rfl) m20 (ci := 12) (by exact ⟨rfl, by decide⟩) (k243 g1 (by decide) n17) ?_
    have n21 : (r18).1 = 243 := m20.1.full n17
    refine x_aload_n (q := 61) dX12_lawTold_60 rfl rfl ?_
    refine x_getI (q := 64) dX12_lawTold_61 rfl kl_RX12_230 (Or.inl rfl) (k243 g1 (by decide) n21) ?_
    replace H := kite H; rcases H with ⟨g22, H⟩ | ⟨g22, H⟩
    · refine x_if_eq_t dX12_lawTold_64 (q := 68) (by decide) g22 ?_
      refine x_aload_n (q := 69) dX12_lawTold_68 rfl rfl ?_
      replace H := kif H; obtain ⟨g23, H⟩ := H
      refine x_getR (q := 72) dX12_lawTold_69 rfl kl_RX12_106 rfl (k243 g1 (by decide) n21) g23 ?_
      refine x_iconst (q := 73) (v := (0 : Int32)) dX12_lawTold_72 rfl (by decide) ?_
      refine x_aload_n (q := 74) dX12_lawTold_73 rfl rfl ?_
      refine x_getI (q := 77) dX12_lawTold_74 rfl kl_RX12_327 (Or.inl rfl) (k243 g1 (by decide) n21) ?_
      replace H := kif H; obtain ⟨g24, H⟩ := H
      replace H := kifn H; obtain ⟨g25, H⟩ := H
      replace H := kle H; obtain ⟨h26, q27, H⟩ := H
      refine x_iast (q := 78) dX12_lawTold_77 rfl (k243 g24 (by decide) n21) (fun z => z.elim (by decide) g25) ?_
      refine x_nmH q27 ?_
      have n28 : h26.1 = 243 := by rw [q27]; exact n21
      refine x_iconst (q := 79) (v := (0 : Int32)) dX12_lawTold_78 rfl (by decide) ?_
      refine x_istore_n (q := 80) (i := 2) (ls2 := [(2, .int (0 : Int32)), (0, .ref v0)]) dX12_lawTold_79 rfl rfl (by decide) rfl ?_
      refine x_sub (ls2 := [(0, .ref v0), (2, .int (0 : Int32))]) [1, 0] rfl ?_
      replace H := kbe H; obtain ⟨e29, c30, H⟩ := H
      refine x_app (sl_X12_lawTold_l80 v0 KF ((0 : Int32), h26) e29 n28 c30) fun pc2 ls2 st2 h2 hg m31 => ?_
      obtain ⟨rfl, rfl, rfl, rfl⟩ := hg
      refine x_aload_n (q := 120) dX12_lawTold_119 rfl rfl ?_
      replace H := kif H; obtain ⟨g32, H⟩ := H
      refine x_getR (q := 123) dX12_lawTold_120 rfl kl_RX12_109 rfl (k243 g1 (by decide) (m31.full n28)) g32 ?_
      refine x_iconst (q := 124) (v := (0 : Int32)) dX12_lawTold_123 rfl (by decide) ?_
      refine x_aload_n (q := 125) dX12_lawTold_124 rfl rfl ?_
      refine x_getI (q := 128) dX12_lawTold_125 rfl kl_RX12_327 (Or.inl rfl) (k243 g1 (by decide) (m31.full n28)) ?_
      replace H := kif H; obtain ⟨g33, H⟩ := H
      replace H := kifn H; obtain ⟨g34, H⟩ := H
      replace H := kle H; obtain ⟨h35, q36, H⟩ := H
      refine x_iast (q := 129) dX12_lawTold_128 rfl (k243 g33 (by decide) (m31.full n28)) (fun z => z.elim (by decide) g34) ?_
      refine x_nmH q36 ?_
      have n37 : h35.1 = 243 := by rw [q36]; exact (m31.full n28)
      cases H
      exact x_end ⟨dX12_lawTold_129, rfl, rfl⟩
    · refine x_if_eq_f (q := 67) dX12_lawTold_64 (t := 68) (by decide) rfl g22 ?_
      cases H
      exact x_end ⟨dX12_lawTold_67, rfl, rfl⟩
  · refine x_if_eq_f (q := 30) dX12_lawTold_27 (t := 31) (by decide) rfl g2 ?_
    cases H
    exact x_end ⟨dX12_lawTold_30, rfl, rfl⟩
def f_X12_lawTold (h : KH) (v0 : Nat) (v1 : Int32) : Option (KH) :=
  if kkind v0 = 12 then if (kI h v0 5) = 0 then
  if (kR h v0 39) < 999999 then if kkind (kR h v0 39) = 20 then if klen (kR h v0 39) ≤ 0 then none else if (kI h (kR h v0 39) 0) = (-1 : Int32) then
  f_X12_lawTold_b23 h v0
  else
  kb (f_X12_fail h v0 (5 : Int32) v1) fun r7 =>
  f_X12_lawTold_b23 r7 v0 else none else none
  else
  f_X12_lawTold_b23 h v0 else none
set_option maxHeartbeats 4000000 in
set_option maxRecDepth 100000 in
theorem s0_X12_lawTold {Z : Nat → (Nat → Nat) → State → Prop} (h : KH) (v0 : Nat) (v1 : Int32) {t : KH} (hn : h.1 = 243) (H : f_X12_lawTold h v0 v1 = some t) : KX Z RX12 cX12_lawTold 3 false 10 (KRv cX12_lawTold t) 0 [(0, .ref v0), (1, .int v1)] [] h := by
  unfold f_X12_lawTold at H
  refine x_aload_n (q := 1) dX12_lawTold_0 rfl rfl ?_
  replace H := kif H; obtain ⟨g1, H⟩ := H
  refine x_getI (q := 4) dX12_lawTold_1 rfl kl_RX12_230 (Or.inl rfl) (k243 g1 (by decide) hn) ?_
  replace H := kite H; rcases H with ⟨g2, H⟩ | ⟨g2, H⟩
  · refine x_if_ne_f (q := 7) dX12_lawTold_4 (t := 23) (by decide) rfl g2 ?_
    refine x_aload_n (q := 8) dX12_lawTold_7 rfl rfl ?_
    replace H := kif H; obtain ⟨g3, H⟩ := H
    refine x_getR (q := 11) dX12_lawTold_8 rfl kl_RX12_106 rfl (k243 g1 (by decide) hn) g3 ?_
    refine x_iconst (q := 12) (v := (0 : Int32)) dX12_lawTold_11 rfl (by decide) ?_
    replace H := kif H; obtain ⟨g4, H⟩ := H
    replace H := kifn H; obtain ⟨g5, H⟩ := H
    refine x_iald (q := 13) dX12_lawTold_12 rfl (k243 g4 (by decide) hn) (fun z => z.elim (by decide) g5) ?_
    refine x_iconst (q := 14) (v := (-1 : Int32)) dX12_lawTold_13 rfl (by decide) ?_
    replace H := kite H; rcases H with ⟨g6, H⟩ | ⟨g6, H⟩
    · refine x_icmp_eq_t dX12_lawTold_14 (q := 23) (by decide) g6 ?_
      refine x_sub (ls2 := [(0, .ref v0)]) [0] rfl ?_
      exact s_X12_lawTold_b23 h v0 hn H
    · refine x_icmp_eq_f (q := 17) dX12_lawTold_14 (t := 23) (by decide) rfl g6 ?_
      refine x_aload_n (q := 18) dX12_lawTold_17 rfl rfl ?_
      refine x_iconst (q := 19) (v := (5 : Int32)) dX12_lawTold_18 rfl (by decide) ?_
      refine x_iload_n (q := 20) dX12_lawTold_19 rfl rfl ?_
      replace H := kbe H; obtain ⟨r7, c8, H⟩ := H
      have m9 := s_X12_fail (Z := Z) h v0 (5 : Int32) v1 hn c8
      refine x_callV (q := 23) (as := [.int (5 : Int32), .int v1]) (rest := []) dX12_lawTold_20 rfl kc_RX12_260 kh_X12_fail (by decide) (Nat.le_of_ble_eq_true rfl) m9 (ci := 12) (by exact ⟨rfl, by decide⟩) (k243 g1 (by decide) hn) ?_
      have n10 : (r7).1 = 243 := m9.1.full hn
      refine x_sub (ls2 := [(0, .ref v0)]) [0] rfl ?_
      exact s_X12_lawTold_b23 r7 v0 n10 H
  · refine x_if_ne_t dX12_lawTold_4 (q := 23) (by decide) g2 ?_
    refine x_sub (ls2 := [(0, .ref v0)]) [0] rfl ?_
    exact s_X12_lawTold_b23 h v0 hn H
theorem s_X12_lawTold {Z : Nat → (Nat → Nat) → State → Prop} (h : KH) (v0 : Nat) (v1 : Int32) {t : KH} (hn : h.1 = 243) (H : f_X12_lawTold h v0 v1 = some t) : KM Z yX12_lawTold cX12_lawTold 3 none 10 [.ref v0, .int v1] h none t :=
  kx_v (own := RX12) (ini := false) (by decide +kernel) (by decide +kernel) rfl (Nat.le_of_ble_eq_true rfl) (s0_X12_lawTold h v0 v1 hn H)
theorem dX12_statementTold_0 : decode cX12_statementTold 0 = .ok (.aload_n 0, 1) := by decide +kernel
theorem dX12_statementTold_1 : decode cX12_statementTold 1 = .ok (.getfield 236, 3) := by decide +kernel
theorem dX12_statementTold_4 : decode cX12_statementTold 4 = .ok (.istore_n 1, 1) := by decide +kernel
theorem dX12_statementTold_5 : decode cX12_statementTold 5 = .ok (.aload_n 0, 1) := by decide +kernel
theorem dX12_statementTold_6 : decode cX12_statementTold 6 = .ok (.getfield 330, 3) := by decide +kernel
theorem dX12_statementTold_9 : decode cX12_statementTold 9 = .ok (.bipush 60, 2) := by decide +kernel
theorem dX12_statementTold_11 : decode cX12_statementTold 11 = .ok (.if_icmp .ne 10, 3) := by decide +kernel
theorem dX12_statementTold_14 : decode cX12_statementTold 14 = .ok (.aload_n 0, 1) := by decide +kernel
theorem dX12_statementTold_15 : decode cX12_statementTold 15 = .ok (.iconst 5, 1) := by decide +kernel
theorem dX12_statementTold_16 : decode cX12_statementTold 16 = .ok (.iload_n 1, 1) := by decide +kernel
theorem dX12_statementTold_17 : decode cX12_statementTold 17 = .ok (.invokevirtual 260, 3) := by decide +kernel
theorem dX12_statementTold_20 : decode cX12_statementTold 20 = .ok (.return_, 1) := by decide +kernel
theorem dX12_statementTold_21 : decode cX12_statementTold 21 = .ok (.aload_n 0, 1) := by decide +kernel
theorem dX12_statementTold_22 : decode cX12_statementTold 22 = .ok (.aload_n 0, 1) := by decide +kernel
theorem dX12_statementTold_23 : decode cX12_statementTold 23 = .ok (.getfield 20, 3) := by decide +kernel
theorem dX12_statementTold_26 : decode cX12_statementTold 26 = .ok (.invokevirtual 257, 3) := by decide +kernel
theorem dX12_statementTold_29 : decode cX12_statementTold 29 = .ok (.ifCond .eq 11, 3) := by decide +kernel
theorem dX12_statementTold_32 : decode cX12_statementTold 32 = .ok (.aload_n 0, 1) := by decide +kernel
theorem dX12_statementTold_33 : decode cX12_statementTold 33 = .ok (.iload_n 1, 1) := by decide +kernel
theorem dX12_statementTold_34 : decode cX12_statementTold 34 = .ok (.invokevirtual 333, 3) := by decide +kernel
theorem dX12_statementTold_37 : decode cX12_statementTold 37 = .ok (.goto 109, 3) := by decide +kernel
theorem dX12_statementTold_40 : decode cX12_statementTold 40 = .ok (.aload_n 0, 1) := by decide +kernel
theorem dX12_statementTold_41 : decode cX12_statementTold 41 = .ok (.aload_n 0, 1) := by decide +kernel
theorem dX12_statementTold_42 : decode cX12_statementTold 42 = .ok (.getfield 36, 3) := by decide +kernel
theorem dX12_statementTold_45 : decode cX12_statementTold 45 = .ok (.invokevirtual 257, 3) := by decide +kernel
theorem dX12_statementTold_48 : decode cX12_statementTold 48 = .ok (.ifCond .eq 11, 3) := by decide +kernel
theorem dX12_statementTold_51 : decode cX12_statementTold 51 = .ok (.aload_n 0, 1) := by decide +kernel
theorem dX12_statementTold_52 : decode cX12_statementTold 52 = .ok (.iload_n 1, 1) := by decide +kernel
theorem dX12_statementTold_53 : decode cX12_statementTold 53 = .ok (.invokevirtual 337, 3) := by decide +kernel
theorem dX12_statementTold_56 : decode cX12_statementTold 56 = .ok (.goto 90, 3) := by decide +kernel
theorem dX12_statementTold_59 : decode cX12_statementTold 59 = .ok (.aload_n 0, 1) := by decide +kernel
theorem dX12_statementTold_60 : decode cX12_statementTold 60 = .ok (.aload_n 0, 1) := by decide +kernel
theorem dX12_statementTold_61 : decode cX12_statementTold 61 = .ok (.getfield 42, 3) := by decide +kernel
theorem dX12_statementTold_64 : decode cX12_statementTold 64 = .ok (.invokevirtual 257, 3) := by decide +kernel
theorem dX12_statementTold_67 : decode cX12_statementTold 67 = .ok (.ifCond .eq 11, 3) := by decide +kernel
theorem dX12_statementTold_70 : decode cX12_statementTold 70 = .ok (.aload_n 0, 1) := by decide +kernel
theorem dX12_statementTold_71 : decode cX12_statementTold 71 = .ok (.iload_n 1, 1) := by decide +kernel
theorem dX12_statementTold_72 : decode cX12_statementTold 72 = .ok (.invokevirtual 340, 3) := by decide +kernel
theorem dX12_statementTold_75 : decode cX12_statementTold 75 = .ok (.goto 71, 3) := by decide +kernel
theorem dX12_statementTold_78 : decode cX12_statementTold 78 = .ok (.aload_n 0, 1) := by decide +kernel
theorem dX12_statementTold_79 : decode cX12_statementTold 79 = .ok (.aload_n 0, 1) := by decide +kernel
theorem dX12_statementTold_80 : decode cX12_statementTold 80 = .ok (.getfield 45, 3) := by decide +kernel
theorem dX12_statementTold_83 : decode cX12_statementTold 83 = .ok (.invokevirtual 257, 3) := by decide +kernel
theorem dX12_statementTold_86 : decode cX12_statementTold 86 = .ok (.ifCond .eq 11, 3) := by decide +kernel
theorem dX12_statementTold_89 : decode cX12_statementTold 89 = .ok (.aload_n 0, 1) := by decide +kernel
theorem dX12_statementTold_90 : decode cX12_statementTold 90 = .ok (.iload_n 1, 1) := by decide +kernel
theorem dX12_statementTold_91 : decode cX12_statementTold 91 = .ok (.invokevirtual 343, 3) := by decide +kernel
theorem dX12_statementTold_94 : decode cX12_statementTold 94 = .ok (.goto 52, 3) := by decide +kernel
theorem dX12_statementTold_97 : decode cX12_statementTold 97 = .ok (.aload_n 0, 1) := by decide +kernel
theorem dX12_statementTold_98 : decode cX12_statementTold 98 = .ok (.aload_n 0, 1) := by decide +kernel
theorem dX12_statementTold_99 : decode cX12_statementTold 99 = .ok (.getfield 48, 3) := by decide +kernel
theorem dX12_statementTold_102 : decode cX12_statementTold 102 = .ok (.invokevirtual 257, 3) := by decide +kernel
theorem dX12_statementTold_105 : decode cX12_statementTold 105 = .ok (.ifCond .eq 19, 3) := by decide +kernel
theorem dX12_statementTold_108 : decode cX12_statementTold 108 = .ok (.aload_n 0, 1) := by decide +kernel
theorem dX12_statementTold_109 : decode cX12_statementTold 109 = .ok (.getfield 103, 3) := by decide +kernel
theorem dX12_statementTold_112 : decode cX12_statementTold 112 = .ok (.iconst 0, 1) := by decide +kernel
theorem dX12_statementTold_113 : decode cX12_statementTold 113 = .ok (.aload_n 0, 1) := by decide +kernel
theorem dX12_statementTold_114 : decode cX12_statementTold 114 = .ok (.iconst 1, 1) := by decide +kernel
theorem dX12_statementTold_115 : decode cX12_statementTold 115 = .ok (.bipush 99, 2) := by decide +kernel
theorem dX12_statementTold_117 : decode cX12_statementTold 117 = .ok (.invokevirtual 304, 3) := by decide +kernel
theorem dX12_statementTold_120 : decode cX12_statementTold 120 = .ok (.iastore, 1) := by decide +kernel
theorem dX12_statementTold_121 : decode cX12_statementTold 121 = .ok (.goto 25, 3) := by decide +kernel
theorem dX12_statementTold_124 : decode cX12_statementTold 124 = .ok (.aload_n 0, 1) := by decide +kernel
theorem dX12_statementTold_125 : decode cX12_statementTold 125 = .ok (.aload_n 0, 1) := by decide +kernel
theorem dX12_statementTold_126 : decode cX12_statementTold 126 = .ok (.getfield 51, 3) := by decide +kernel
theorem dX12_statementTold_129 : decode cX12_statementTold 129 = .ok (.invokevirtual 300, 3) := by decide +kernel
theorem dX12_statementTold_132 : decode cX12_statementTold 132 = .ok (.aload_n 0, 1) := by decide +kernel
theorem dX12_statementTold_133 : decode cX12_statementTold 133 = .ok (.getfield 103, 3) := by decide +kernel
theorem dX12_statementTold_136 : decode cX12_statementTold 136 = .ok (.iconst 1, 1) := by decide +kernel
theorem dX12_statementTold_137 : decode cX12_statementTold 137 = .ok (.aload_n 0, 1) := by decide +kernel
theorem dX12_statementTold_138 : decode cX12_statementTold 138 = .ok (.iconst 0, 1) := by decide +kernel
theorem dX12_statementTold_139 : decode cX12_statementTold 139 = .ok (.sipush 9999, 3) := by decide +kernel
theorem dX12_statementTold_142 : decode cX12_statementTold 142 = .ok (.invokevirtual 304, 3) := by decide +kernel
theorem dX12_statementTold_145 : decode cX12_statementTold 145 = .ok (.iastore, 1) := by decide +kernel
theorem dX12_statementTold_146 : decode cX12_statementTold 146 = .ok (.aload_n 0, 1) := by decide +kernel
theorem dX12_statementTold_147 : decode cX12_statementTold 147 = .ok (.bipush 59, 2) := by decide +kernel
theorem dX12_statementTold_149 : decode cX12_statementTold 149 = .ok (.invokevirtual 346, 3) := by decide +kernel
theorem dX12_statementTold_152 : decode cX12_statementTold 152 = .ok (.aload_n 0, 1) := by decide +kernel
theorem dX12_statementTold_153 : decode cX12_statementTold 153 = .ok (.dup, 1) := by decide +kernel
theorem dX12_statementTold_154 : decode cX12_statementTold 154 = .ok (.getfield 330, 3) := by decide +kernel
theorem dX12_statementTold_157 : decode cX12_statementTold 157 = .ok (.iconst 1, 1) := by decide +kernel
theorem dX12_statementTold_158 : decode cX12_statementTold 158 = .ok (.iadd, 1) := by decide +kernel
theorem dX12_statementTold_159 : decode cX12_statementTold 159 = .ok (.putfield 330, 3) := by decide +kernel
theorem dX12_statementTold_162 : decode cX12_statementTold 162 = .ok (.return_, 1) := by decide +kernel
theorem kl_RX12_330 : KLk RX12 330 12 43 := ⟨RX12, TX12, 97, rfl, by decide, Or.inl (kwm 1240 (by decide +kernel) (by decide +kernel))⟩
theorem kl_RX12_103 : KLk RX12 103 12 38 := ⟨RX12, TX12, 97, rfl, by decide, Or.inl (kwm 1235 (by decide +kernel) (by decide +kernel))⟩
theorem kc_RX12_343 : Cond.methodLink RX12 343 yX12_lawTold ∈ ktG ∧ (Cond.instanceMethod yX12_lawTold ∈ ktG ∧ Cond.selects yX12_lawTold.cls yX12_lawTold yX12_lawTold ∈ ktG) ∧ Cond.initialized yX12_lawTold.cls ∈ ktG ∧ Cond.code yX12_lawTold cX12_lawTold 3 none ∈ ktG := ⟨(kwm 1573 (by decide +kernel) (by decide +kernel)), ⟨(kwm 1575 (by decide +kernel) (by decide +kernel)), (kwm 51 (by decide +kernel) (by decide +kernel))⟩, (kwm 139 (by decide +kernel) (by decide +kernel)), kwm 1576 (by decide +kernel) (by decide +kernel)⟩
theorem kh_X12_lawTold : yX12_lawTold.cls ≠ "java/lang/invoke/MethodHandle" ∧ yX12_lawTold.cls ≠ "java/lang/invoke/VarHandle" ∧ (parseMethodDescriptor yX12_lawTold.desc).map (fun d => d.parameters.length) = some 1 := by decide +kernel
theorem kc_RX12_340 : Cond.methodLink RX12 340 yX12_markTold ∈ ktG ∧ (Cond.instanceMethod yX12_markTold ∈ ktG ∧ Cond.selects yX12_markTold.cls yX12_markTold yX12_markTold ∈ ktG) ∧ Cond.initialized yX12_markTold.cls ∈ ktG ∧ Cond.code yX12_markTold cX12_markTold 7 none ∈ ktG := ⟨(kwm 1569 (by decide +kernel) (by decide +kernel)), ⟨(kwm 1571 (by decide +kernel) (by decide +kernel)), (kwm 50 (by decide +kernel) (by decide +kernel))⟩, (kwm 139 (by decide +kernel) (by decide +kernel)), kwm 1572 (by decide +kernel) (by decide +kernel)⟩
theorem kh_X12_markTold : yX12_markTold.cls ≠ "java/lang/invoke/MethodHandle" ∧ yX12_markTold.cls ≠ "java/lang/invoke/VarHandle" ∧ (parseMethodDescriptor yX12_markTold.desc).map (fun d => d.parameters.length) = some 1 := by decide +kernel
theorem kc_RX12_337 : Cond.methodLink RX12 337 yX12_testTold ∈ ktG ∧ (Cond.instanceMethod yX12_testTold ∈ ktG ∧ Cond.selects yX12_testTold.cls yX12_testTold yX12_testTold ∈ ktG) ∧ Cond.initialized yX12_testTold.cls ∈ ktG ∧ Cond.code yX12_testTold cX12_testTold 5 none ∈ ktG := ⟨(kwm 1565 (by decide +kernel) (by decide +kernel)), ⟨(kwm 1567 (by decide +kernel) (by decide +kernel)), (kwm 49 (by decide +kernel) (by decide +kernel))⟩, (kwm 139 (by decide +kernel) (by decide +kernel)), kwm 1568 (by decide +kernel) (by decide +kernel)⟩
theorem kh_X12_testTold : yX12_testTold.cls ≠ "java/lang/invoke/MethodHandle" ∧ yX12_testTold.cls ≠ "java/lang/invoke/VarHandle" ∧ (parseMethodDescriptor yX12_testTold.desc).map (fun d => d.parameters.length) = some 1 := by decide +kernel
theorem kc_RX12_333 : Cond.methodLink RX12 333 yX12_kindTold ∈ ktG ∧ (Cond.instanceMethod yX12_kindTold ∈ ktG ∧ Cond.selects yX12_kindTold.cls yX12_kindTold yX12_kindTold ∈ ktG) ∧ Cond.initialized yX12_kindTold.cls ∈ ktG ∧ Cond.code yX12_kindTold cX12_kindTold 9 none ∈ ktG := ⟨(kwm 1525 (by decide +kernel) (by decide +kernel)), ⟨(kwm 1527 (by decide +kernel) (by decide +kernel)), (kwm 41 (by decide +kernel) (by decide +kernel))⟩, (kwm 139 (by decide +kernel) (by decide +kernel)), kwm 1528 (by decide +kernel) (by decide +kernel)⟩
theorem kh_X12_kindTold : yX12_kindTold.cls ≠ "java/lang/invoke/MethodHandle" ∧ yX12_kindTold.cls ≠ "java/lang/invoke/VarHandle" ∧ (parseMethodDescriptor yX12_kindTold.desc).map (fun d => d.parameters.length) = some 1 := by decide +kernel
def f_X12_statementTold_b146 (h : KH) (v0 : Nat) : Option (KH) :=
  if kkind v0 = 12 then kb (f_X12_asksSign h v0 (59 : Int32)) fun r2 =>
  kl (ksI r2 v0 43 ((kI r2 v0 43) + (1 : Int32))) fun h6 =>
  some h6 else none
set_option maxHeartbeats 4000000 in
set_option maxRecDepth 100000 in
theorem s_X12_statementTold_b146 {Z : Nat → (Nat → Nat) → State → Prop} (h : KH) (v0 : Nat) {t : KH} (hn : h.1 = 243) (H : f_X12_statementTold_b146 h v0 = some t) : KX Z RX12 cX12_statementTold 2 false 11 (KRv cX12_statementTold t) 146 [(0, .ref v0)] [] h := by
  unfold f_X12_statementTold_b146 at H
  refine x_aload_n (q := 147) dX12_statementTold_146 rfl rfl ?_
  refine x_bipush (q := 149) (v := (59 : Int32)) dX12_statementTold_147 rfl (by decide) ?_
  replace H := kif H; obtain ⟨g1, H⟩ := H
  replace H := kbe H; obtain ⟨r2, c3, H⟩ := H
  have m4 := s_X12_asksSign (Z := Z) h v0 (59 : Int32) hn c3
  refine x_callV (q := 152) (as := [.int (59 : Int32)]) (rest := []) dX12_statementTold_149 rfl kc_RX12_346 kh_X12_asksSign (by decide) (Nat.le_of_ble_eq_true rfl) m4 (ci := 12) (by exact ⟨rfl, by decide⟩) (k243 g1 (by decide) hn) ?_
  have n5 : (r2).1 = 243 := m4.1.full hn
  refine x_aload_n (q := 153) dX12_statementTold_152 rfl rfl ?_
  refine x_dup (q := 154) dX12_statementTold_153 rfl rfl ?_
  refine x_getI (q := 157) dX12_statementTold_154 rfl kl_RX12_330 (Or.inl rfl) (k243 g1 (by decide) n5) ?_
  refine x_iconst (q := 158) (v := (1 : Int32)) dX12_statementTold_157 rfl (by decide) ?_
  refine x_iadd (q := 159) dX12_statementTold_158 rfl ?_
  replace H := kle H; obtain ⟨h6, q7, H⟩ := H
  refine x_putI (q := 162) dX12_statementTold_159 rfl kl_RX12_330 (Or.inl rfl) rfl (k243 g1 (by decide) n5) ?_
  refine x_nmH q7 ?_
  have n8 : h6.1 = 243 := by rw [q7]; exact n5
  cases H
  exact x_end ⟨dX12_statementTold_162, rfl, rfl⟩
def f_X12_statementTold (h : KH) (v0 : Nat) : Option (KH) :=
  if kkind v0 = 12 then kl (kI h v0 2) fun x2 =>
  if (kI h v0 43) = (60 : Int32) then
  kb (f_X12_fail h v0 (5 : Int32) x2) fun r76 =>
  some r76
  else
  if (kR h v0 10) < 999999 then kb (f_X12_takes h v0 (kR h v0 10)) fun r6 =>
  if r6.1 = 0 then
  if (kR r6.2 v0 15) < 999999 then kb (f_X12_takes r6.2 v0 (kR r6.2 v0 15)) fun r12 =>
  if r12.1 = 0 then
  if (kR r12.2 v0 17) < 999999 then kb (f_X12_takes r12.2 v0 (kR r12.2 v0 17)) fun r18 =>
  if r18.1 = 0 then
  if (kR r18.2 v0 18) < 999999 then kb (f_X12_takes r18.2 v0 (kR r18.2 v0 18)) fun r24 =>
  if r24.1 = 0 then
  if (kR r24.2 v0 19) < 999999 then kb (f_X12_takes r24.2 v0 (kR r24.2 v0 19)) fun r30 =>
  if r30.1 = 0 then
  if (kR r30.2 v0 20) < 999999 then kb (f_X12_asks r30.2 v0 (kR r30.2 v0 20)) fun r36 =>
  if (kR r36 v0 38) < 999999 then kb (f_X12_number r36 v0 (0 : Int32) (9999 : Int32)) fun r41 =>
  if kkind (kR r36 v0 38) = 20 then if klen (kR r36 v0 38) ≤ 1 then none else kl (ksI r41.2 (kR r36 v0 38) 1 r41.1) fun h47 =>
  f_X12_statementTold_b146 h47 v0 else none else none else none
  else
  if (kR r30.2 v0 38) < 999999 then kb (f_X12_number r30.2 v0 (1 : Int32) (99 : Int32)) fun r51 =>
  if kkind (kR r30.2 v0 38) = 20 then if klen (kR r30.2 v0 38) ≤ 0 then none else kl (ksI r51.2 (kR r30.2 v0 38) 0 r51.1) fun h57 =>
  f_X12_statementTold_b146 h57 v0 else none else none else none
  else
  kb (f_X12_lawTold r24.2 v0 x2) fun r60 =>
  f_X12_statementTold_b146 r60 v0 else none
  else
  kb (f_X12_markTold r18.2 v0 x2) fun r64 =>
  f_X12_statementTold_b146 r64 v0 else none
  else
  kb (f_X12_testTold r12.2 v0 x2) fun r68 =>
  f_X12_statementTold_b146 r68 v0 else none
  else
  kb (f_X12_kindTold r6.2 v0 x2) fun r72 =>
  f_X12_statementTold_b146 r72 v0 else none else none
set_option maxHeartbeats 4000000 in
set_option maxRecDepth 100000 in
theorem s0_X12_statementTold {Z : Nat → (Nat → Nat) → State → Prop} (h : KH) (v0 : Nat) {t : KH} (hn : h.1 = 243) (H : f_X12_statementTold h v0 = some t) : KX Z RX12 cX12_statementTold 2 false 11 (KRv cX12_statementTold t) 0 [(0, .ref v0)] [] h := by
  unfold f_X12_statementTold at H
  refine x_aload_n (q := 1) dX12_statementTold_0 rfl rfl ?_
  replace H := kif H; obtain ⟨g1, H⟩ := H
  refine x_getI (q := 4) dX12_statementTold_1 rfl kl_RX12_236 (Or.inl rfl) (k243 g1 (by decide) hn) ?_
  replace H := kle H; obtain ⟨x2, q3, H⟩ := H
  refine x_nmI q3 ?_
  refine x_istore_n (q := 5) (i := 1) (ls2 := [(1, .int x2), (0, .ref v0)]) dX12_statementTold_4 rfl rfl (by decide) rfl ?_
  refine x_aload_n (q := 6) dX12_statementTold_5 rfl rfl ?_
  refine x_getI (q := 9) dX12_statementTold_6 rfl kl_RX12_330 (Or.inl rfl) (k243 g1 (by decide) hn) ?_
  refine x_bipush (q := 11) (v := (60 : Int32)) dX12_statementTold_9 rfl (by decide) ?_
  replace H := kite H; rcases H with ⟨g4, H⟩ | ⟨g4, H⟩
  · refine x_icmp_ne_f (q := 14) dX12_statementTold_11 (t := 21) (by decide) rfl g4 ?_
    refine x_aload_n (q := 15) dX12_statementTold_14 rfl rfl ?_
    refine x_iconst (q := 16) (v := (5 : Int32)) dX12_statementTold_15 rfl (by decide) ?_
    refine x_iload_n (q := 17) dX12_statementTold_16 rfl rfl ?_
    replace H := kbe H; obtain ⟨r76, c77, H⟩ := H
    have m78 := s_X12_fail (Z := Z) h v0 (5 : Int32) x2 hn c77
    refine x_callV (q := 20) (as := [.int (5 : Int32), .int x2]) (rest := []) dX12_statementTold_17 rfl kc_RX12_260 kh_X12_fail (by decide) (Nat.le_of_ble_eq_true rfl) m78 (ci := 12) (by exact ⟨rfl, by decide⟩) (k243 g1 (by decide) hn) ?_
    have n79 : (r76).1 = 243 := m78.1.full hn
    cases H
    exact x_end ⟨dX12_statementTold_20, rfl, rfl⟩
  · refine x_icmp_ne_t dX12_statementTold_11 (q := 21) (by decide) g4 ?_
    refine x_aload_n (q := 22) dX12_statementTold_21 rfl rfl ?_
    refine x_aload_n (q := 23) dX12_statementTold_22 rfl rfl ?_
    replace H := kif H; obtain ⟨g5, H⟩ := H
    refine x_getR (q := 26) dX12_statementTold_23 rfl kl_RX12_20 rfl (k243 g1 (by decide) hn) g5 ?_
    replace H := kbe H; obtain ⟨r6, c7, H⟩ := H
    have m8 := s_X12_takes (Z := Z) h v0 (kR h v0 10) hn c7
    refine x_callV (q := 29) (as := [.ref (kR h v0 10)]) (rest := []) dX12_statementTold_26 rfl kc_RX12_257 kh_X12_takes (by decide) (Nat.le_of_ble_eq_true rfl) m8 (ci := 12) (by exact ⟨rfl, by decide⟩) (k243 g1 (by decide) hn) ?_
    have n9 : (r6.2).1 = 243 := m8.1.full hn
    replace H := kite H; rcases H with ⟨g10, H⟩ | ⟨g10, H⟩
    · refine x_if_eq_t dX12_statementTold_29 (q := 40) (by decide) g10 ?_
      refine x_aload_n (q := 41) dX12_statementTold_40 rfl rfl ?_
      refine x_aload_n (q := 42) dX12_statementTold_41 rfl rfl ?_
      replace H := kif H; obtain ⟨g11, H⟩ := H
      refine x_getR (q := 45) dX12_statementTold_42 rfl kl_RX12_36 rfl (k243 g1 (by decide) n9) g11 ?_
      replace H := kbe H; obtain ⟨r12, c13, H⟩ := H
      have m14 := s_X12_takes (Z := Z) r6.2 v0 (kR r6.2 v0 15) n9 c13
      refine x_callV (q := 48) (as := [.ref (kR r6.2 v0 15)]) (rest := []) dX12_statementTold_45 rfl kc_RX12_257 kh_X12_takes (by decide) (Nat.le_of_ble_eq_true rfl) m14 (ci := 12) (by exact ⟨rfl, by decide⟩) (k243 g1 (by decide) n9) ?_
      have n15 : (r12.2).1 = 243 := m14.1.full n9
      replace H := kite H; rcases H with ⟨g16, H⟩ | ⟨g16, H⟩
      · refine x_if_eq_t dX12_statementTold_48 (q := 59) (by decide) g16 ?_
        refine x_aload_n (q := 60) dX12_statementTold_59 rfl rfl ?_
        refine x_aload_n (q := 61) dX12_statementTold_60 rfl rfl ?_
        replace H := kif H; obtain ⟨g17, H⟩ := H
        refine x_getR (q := 64) dX12_statementTold_61 rfl kl_RX12_42 rfl (k243 g1 (by decide) n15) g17 ?_
        replace H := kbe H; obtain ⟨r18, c19, H⟩ := H
        have m20 := s_X12_takes (Z := Z) r12.2 v0 (kR r12.2 v0 17) n15 c19
        refine x_callV (q := 67) (as := [.ref (kR r12.2 v0 17)]) (rest := []) dX12_statementTold_64 rfl kc_RX12_257 kh_X12_takes (by decide) (Nat.le_of_ble_eq_true rfl) m20 (ci := 12) (by exact ⟨rfl, by decide⟩) (k243 g1 (by decide) n15) ?_
        have n21 : (r18.2).1 = 243 := m20.1.full n15
        replace H := kite H; rcases H with ⟨g22, H⟩ | ⟨g22, H⟩
        · refine x_if_eq_t dX12_statementTold_67 (q := 78) (by decide) g22 ?_
          refine x_aload_n (q := 79) dX12_statementTold_78 rfl rfl ?_
          refine x_aload_n (q := 80) dX12_statementTold_79 rfl rfl ?_
          replace H := kif H; obtain ⟨g23, H⟩ := H
          refine x_getR (q := 83) dX12_statementTold_80 rfl kl_RX12_45 rfl (k243 g1 (by decide) n21) g23 ?_
          replace H := kbe H; obtain ⟨r24, c25, H⟩ := H
          have m26 := s_X12_takes (Z := Z) r18.2 v0 (kR r18.2 v0 18) n21 c25
          refine x_callV (q := 86) (as := [.ref (kR r18.2 v0 18)]) (rest := []) dX12_statementTold_83 rfl kc_RX12_257 kh_X12_takes (by decide) (Nat.le_of_ble_eq_true rfl) m26 (ci := 12) (by exact ⟨rfl, by decide⟩) (k243 g1 (by decide) n21) ?_
          have n27 : (r24.2).1 = 243 := m26.1.full n21
          replace H := kite H; rcases H with ⟨g28, H⟩ | ⟨g28, H⟩
          · refine x_if_eq_t dX12_statementTold_86 (q := 97) (by decide) g28 ?_
            refine x_aload_n (q := 98) dX12_statementTold_97 rfl rfl ?_
            refine x_aload_n (q := 99) dX12_statementTold_98 rfl rfl ?_
            replace H := kif H; obtain ⟨g29, H⟩ := H
            refine x_getR (q := 102) dX12_statementTold_99 rfl kl_RX12_48 rfl (k243 g1 (by decide) n27) g29 ?_
            replace H := kbe H; obtain ⟨r30, c31, H⟩ := H
            have m32 := s_X12_takes (Z := Z) r24.2 v0 (kR r24.2 v0 19) n27 c31
            refine x_callV (q := 105) (as := [.ref (kR r24.2 v0 19)]) (rest := []) dX12_statementTold_102 rfl kc_RX12_257 kh_X12_takes (by decide) (Nat.le_of_ble_eq_true rfl) m32 (ci := 12) (by exact ⟨rfl, by decide⟩) (k243 g1 (by decide) n27) ?_
            have n33 : (r30.2).1 = 243 := m32.1.full n27
            replace H := kite H; rcases H with ⟨g34, H⟩ | ⟨g34, H⟩
            · refine x_if_eq_t dX12_statementTold_105 (q := 124) (by decide) g34 ?_
              refine x_aload_n (q := 125) dX12_statementTold_124 rfl rfl ?_
              refine x_aload_n (q := 126) dX12_statementTold_125 rfl rfl ?_
              replace H := kif H; obtain ⟨g35, H⟩ := H
              refine x_getR (q := 129) dX12_statementTold_126 rfl kl_RX12_51 rfl (k243 g1 (by decide) n33) g35 ?_
              replace H := kbe H; obtain ⟨r36, c37, H⟩ := H
              have m38 := s_X12_asks (Z := Z) r30.2 v0 (kR r30.2 v0 20) n33 c37
              refine x_callV (q := 132) (as := [.ref (kR r30.2 v0 20)]) (rest := []) dX12_statementTold_129 rfl kc_RX12_300 kh_X12_asks (by decide) (Nat.le_of_ble_eq_true rfl) m38 (ci := 12) (by exact ⟨rfl, by decide⟩) (k243 g1 (by decide) n33) ?_
              have n39 : (r36).1 = 243 := m38.1.full n33
              refine x_aload_n (q := 133) dX12_statementTold_132 rfl rfl ?_
              replace H := kif H; obtain ⟨g40, H⟩ := H
              refine x_getR (q := 136) dX12_statementTold_133 rfl kl_RX12_103 rfl (k243 g1 (by decide) n39) g40 ?_
              refine x_iconst (q := 137) (v := (1 : Int32)) dX12_statementTold_136 rfl (by decide) ?_
              refine x_aload_n (q := 138) dX12_statementTold_137 rfl rfl ?_
              refine x_iconst (q := 139) (v := (0 : Int32)) dX12_statementTold_138 rfl (by decide) ?_
              refine x_sipush (q := 142) (v := (9999 : Int32)) dX12_statementTold_139 rfl (by decide) ?_
              replace H := kbe H; obtain ⟨r41, c42, H⟩ := H
              have m43 := s_X12_number (Z := Z) r36 v0 (0 : Int32) (9999 : Int32) n39 c42
              refine x_callV (q := 145) (as := [.int (0 : Int32), .int (9999 : Int32)]) (rest := [.int (1 : Int32), .ref (kR r36 v0 38)]) dX12_statementTold_142 rfl kc_RX12_304 kh_X12_number (by decide) (Nat.le_of_ble_eq_true rfl) m43 (ci := 12) (by exact ⟨rfl, by decide⟩) (k243 g1 (by decide) n39) ?_
              have n44 : (r41.2).1 = 243 := m43.1.full n39
              replace H := kif H; obtain ⟨g45, H⟩ := H
              replace H := kifn H; obtain ⟨g46, H⟩ := H
              replace H := kle H; obtain ⟨h47, q48, H⟩ := H
              refine x_iast (q := 146) dX12_statementTold_145 rfl (k243 g45 (by decide) n44) (fun z => z.elim (by decide) g46) ?_
              refine x_nmH q48 ?_
              have n49 : h47.1 = 243 := by rw [q48]; exact n44
              refine x_sub (ls2 := [(0, .ref v0)]) [1] rfl ?_
              exact s_X12_statementTold_b146 h47 v0 n49 H
            · refine x_if_eq_f (q := 108) dX12_statementTold_105 (t := 124) (by decide) rfl g34 ?_
              refine x_aload_n (q := 109) dX12_statementTold_108 rfl rfl ?_
              replace H := kif H; obtain ⟨g50, H⟩ := H
              refine x_getR (q := 112) dX12_statementTold_109 rfl kl_RX12_103 rfl (k243 g1 (by decide) n33) g50 ?_
              refine x_iconst (q := 113) (v := (0 : Int32)) dX12_statementTold_112 rfl (by decide) ?_
              refine x_aload_n (q := 114) dX12_statementTold_113 rfl rfl ?_
              refine x_iconst (q := 115) (v := (1 : Int32)) dX12_statementTold_114 rfl (by decide) ?_
              refine x_bipush (q := 117) (v := (99 : Int32)) dX12_statementTold_115 rfl (by decide) ?_
              replace H := kbe H; obtain ⟨r51, c52, H⟩ := H
              have m53 := s_X12_number (Z := Z) r30.2 v0 (1 : Int32) (99 : Int32) n33 c52
              refine x_callV (q := 120) (as := [.int (1 : Int32), .int (99 : Int32)]) (rest := [.int (0 : Int32), .ref (kR r30.2 v0 38)]) dX12_statementTold_117 rfl kc_RX12_304 kh_X12_number (by decide) (Nat.le_of_ble_eq_true rfl) m53 (ci := 12) (by exact ⟨rfl, by decide⟩) (k243 g1 (by decide) n33) ?_
              have n54 : (r51.2).1 = 243 := m53.1.full n33
              replace H := kif H; obtain ⟨g55, H⟩ := H
              replace H := kifn H; obtain ⟨g56, H⟩ := H
              replace H := kle H; obtain ⟨h57, q58, H⟩ := H
              refine x_iast (q := 121) dX12_statementTold_120 rfl (k243 g55 (by decide) n54) (fun z => z.elim (by decide) g56) ?_
              refine x_nmH q58 ?_
              have n59 : h57.1 = 243 := by rw [q58]; exact n54
              refine x_goto dX12_statementTold_121 (q := 146) (by decide) ?_
              refine x_sub (ls2 := [(0, .ref v0)]) [1] rfl ?_
              exact s_X12_statementTold_b146 h57 v0 n59 H
          · refine x_if_eq_f (q := 89) dX12_statementTold_86 (t := 97) (by decide) rfl g28 ?_
            refine x_aload_n (q := 90) dX12_statementTold_89 rfl rfl ?_
            refine x_iload_n (q := 91) dX12_statementTold_90 rfl rfl ?_
            replace H := kbe H; obtain ⟨r60, c61, H⟩ := H
            have m62 := s_X12_lawTold (Z := Z) r24.2 v0 x2 n27 c61
            refine x_callV (q := 94) (as := [.int x2]) (rest := []) dX12_statementTold_91 rfl kc_RX12_343 kh_X12_lawTold (by decide) (Nat.le_of_ble_eq_true rfl) m62 (ci := 12) (by exact ⟨rfl, by decide⟩) (k243 g1 (by decide) n27) ?_
            have n63 : (r60).1 = 243 := m62.1.full n27
            refine x_goto dX12_statementTold_94 (q := 146) (by decide) ?_
            refine x_sub (ls2 := [(0, .ref v0)]) [1] rfl ?_
            exact s_X12_statementTold_b146 r60 v0 n63 H
        · refine x_if_eq_f (q := 70) dX12_statementTold_67 (t := 78) (by decide) rfl g22 ?_
          refine x_aload_n (q := 71) dX12_statementTold_70 rfl rfl ?_
          refine x_iload_n (q := 72) dX12_statementTold_71 rfl rfl ?_
          replace H := kbe H; obtain ⟨r64, c65, H⟩ := H
          have m66 := s_X12_markTold (Z := Z) r18.2 v0 x2 n21 c65
          refine x_callV (q := 75) (as := [.int x2]) (rest := []) dX12_statementTold_72 rfl kc_RX12_340 kh_X12_markTold (by decide) (Nat.le_of_ble_eq_true rfl) m66 (ci := 12) (by exact ⟨rfl, by decide⟩) (k243 g1 (by decide) n21) ?_
          have n67 : (r64).1 = 243 := m66.1.full n21
          refine x_goto dX12_statementTold_75 (q := 146) (by decide) ?_
          refine x_sub (ls2 := [(0, .ref v0)]) [1] rfl ?_
          exact s_X12_statementTold_b146 r64 v0 n67 H
      · refine x_if_eq_f (q := 51) dX12_statementTold_48 (t := 59) (by decide) rfl g16 ?_
        refine x_aload_n (q := 52) dX12_statementTold_51 rfl rfl ?_
        refine x_iload_n (q := 53) dX12_statementTold_52 rfl rfl ?_
        replace H := kbe H; obtain ⟨r68, c69, H⟩ := H
        have m70 := s_X12_testTold (Z := Z) r12.2 v0 x2 n15 c69
        refine x_callV (q := 56) (as := [.int x2]) (rest := []) dX12_statementTold_53 rfl kc_RX12_337 kh_X12_testTold (by decide) (Nat.le_of_ble_eq_true rfl) m70 (ci := 12) (by exact ⟨rfl, by decide⟩) (k243 g1 (by decide) n15) ?_
        have n71 : (r68).1 = 243 := m70.1.full n15
        refine x_goto dX12_statementTold_56 (q := 146) (by decide) ?_
        refine x_sub (ls2 := [(0, .ref v0)]) [1] rfl ?_
        exact s_X12_statementTold_b146 r68 v0 n71 H
    · refine x_if_eq_f (q := 32) dX12_statementTold_29 (t := 40) (by decide) rfl g10 ?_
      refine x_aload_n (q := 33) dX12_statementTold_32 rfl rfl ?_
      refine x_iload_n (q := 34) dX12_statementTold_33 rfl rfl ?_
      replace H := kbe H; obtain ⟨r72, c73, H⟩ := H
      have m74 := s_X12_kindTold (Z := Z) r6.2 v0 x2 n9 c73
      refine x_callV (q := 37) (as := [.int x2]) (rest := []) dX12_statementTold_34 rfl kc_RX12_333 kh_X12_kindTold (by decide) (Nat.le_of_ble_eq_true rfl) m74 (ci := 12) (by exact ⟨rfl, by decide⟩) (k243 g1 (by decide) n9) ?_
      have n75 : (r72).1 = 243 := m74.1.full n9
      refine x_goto dX12_statementTold_37 (q := 146) (by decide) ?_
      refine x_sub (ls2 := [(0, .ref v0)]) [1] rfl ?_
      exact s_X12_statementTold_b146 r72 v0 n75 H
theorem s_X12_statementTold {Z : Nat → (Nat → Nat) → State → Prop} (h : KH) (v0 : Nat) {t : KH} (hn : h.1 = 243) (H : f_X12_statementTold h v0 = some t) : KM Z yX12_statementTold cX12_statementTold 2 none 11 [.ref v0] h none t :=
  kx_v (own := RX12) (ini := false) (by decide +kernel) (by decide +kernel) rfl (Nat.le_of_ble_eq_true rfl) (s0_X12_statementTold h v0 hn H)
theorem dX12_stands_0 : decode cX12_stands 0 = .ok (.iconst 0, 1) := by decide +kernel
theorem dX12_stands_1 : decode cX12_stands 1 = .ok (.istore_n 1, 1) := by decide +kernel
theorem dX12_stands_2 : decode cX12_stands 2 = .ok (.iload_n 1, 1) := by decide +kernel
theorem dX12_stands_3 : decode cX12_stands 3 = .ok (.iconst 3, 1) := by decide +kernel
theorem dX12_stands_4 : decode cX12_stands 4 = .ok (.if_icmp .ge 23, 3) := by decide +kernel
theorem dX12_stands_7 : decode cX12_stands 7 = .ok (.aload_n 0, 1) := by decide +kernel
theorem dX12_stands_8 : decode cX12_stands 8 = .ok (.getfield 87, 3) := by decide +kernel
theorem dX12_stands_11 : decode cX12_stands 11 = .ok (.iconst 3, 1) := by decide +kernel
theorem dX12_stands_12 : decode cX12_stands 12 = .ok (.iload_n 1, 1) := by decide +kernel
theorem dX12_stands_13 : decode cX12_stands 13 = .ok (.iadd, 1) := by decide +kernel
theorem dX12_stands_14 : decode cX12_stands 14 = .ok (.aload_n 0, 1) := by decide +kernel
theorem dX12_stands_15 : decode cX12_stands 15 = .ok (.getfield 87, 3) := by decide +kernel
theorem dX12_stands_18 : decode cX12_stands 18 = .ok (.iload_n 1, 1) := by decide +kernel
theorem dX12_stands_19 : decode cX12_stands 19 = .ok (.iaload, 1) := by decide +kernel
theorem dX12_stands_20 : decode cX12_stands 20 = .ok (.iastore, 1) := by decide +kernel
theorem dX12_stands_21 : decode cX12_stands 21 = .ok (.iinc 1 1, 3) := by decide +kernel
theorem dX12_stands_24 : decode cX12_stands 24 = .ok (.goto (-22), 3) := by decide +kernel
theorem dX12_stands_27 : decode cX12_stands 27 = .ok (.iconst 0, 1) := by decide +kernel
theorem dX12_stands_28 : decode cX12_stands 28 = .ok (.istore_n 1, 1) := by decide +kernel
theorem dX12_stands_29 : decode cX12_stands 29 = .ok (.iload_n 1, 1) := by decide +kernel
theorem dX12_stands_30 : decode cX12_stands 30 = .ok (.bipush 18, 2) := by decide +kernel
theorem dX12_stands_32 : decode cX12_stands 32 = .ok (.if_icmp .ge 24, 3) := by decide +kernel
theorem dX12_stands_35 : decode cX12_stands 35 = .ok (.aload_n 0, 1) := by decide +kernel
theorem dX12_stands_36 : decode cX12_stands 36 = .ok (.getfield 90, 3) := by decide +kernel
theorem dX12_stands_39 : decode cX12_stands 39 = .ok (.bipush 18, 2) := by decide +kernel
theorem dX12_stands_41 : decode cX12_stands 41 = .ok (.iload_n 1, 1) := by decide +kernel
theorem dX12_stands_42 : decode cX12_stands 42 = .ok (.iadd, 1) := by decide +kernel
theorem dX12_stands_43 : decode cX12_stands 43 = .ok (.aload_n 0, 1) := by decide +kernel
theorem dX12_stands_44 : decode cX12_stands 44 = .ok (.getfield 90, 3) := by decide +kernel
theorem dX12_stands_47 : decode cX12_stands 47 = .ok (.iload_n 1, 1) := by decide +kernel
theorem dX12_stands_48 : decode cX12_stands 48 = .ok (.laload, 1) := by decide +kernel
theorem dX12_stands_49 : decode cX12_stands 49 = .ok (.lastore, 1) := by decide +kernel
theorem dX12_stands_50 : decode cX12_stands 50 = .ok (.iinc 1 1, 3) := by decide +kernel
theorem dX12_stands_53 : decode cX12_stands 53 = .ok (.goto (-24), 3) := by decide +kernel
theorem dX12_stands_56 : decode cX12_stands 56 = .ok (.iconst 0, 1) := by decide +kernel
theorem dX12_stands_57 : decode cX12_stands 57 = .ok (.istore_n 1, 1) := by decide +kernel
theorem dX12_stands_58 : decode cX12_stands 58 = .ok (.iload_n 1, 1) := by decide +kernel
theorem dX12_stands_59 : decode cX12_stands 59 = .ok (.bipush 24, 2) := by decide +kernel
theorem dX12_stands_61 : decode cX12_stands 61 = .ok (.if_icmp .ge 24, 3) := by decide +kernel
theorem dX12_stands_64 : decode cX12_stands 64 = .ok (.aload_n 0, 1) := by decide +kernel
theorem dX12_stands_65 : decode cX12_stands 65 = .ok (.getfield 94, 3) := by decide +kernel
theorem dX12_stands_68 : decode cX12_stands 68 = .ok (.bipush 24, 2) := by decide +kernel
theorem dX12_stands_70 : decode cX12_stands 70 = .ok (.iload_n 1, 1) := by decide +kernel
theorem dX12_stands_71 : decode cX12_stands 71 = .ok (.iadd, 1) := by decide +kernel
theorem dX12_stands_72 : decode cX12_stands 72 = .ok (.aload_n 0, 1) := by decide +kernel
theorem dX12_stands_73 : decode cX12_stands 73 = .ok (.getfield 94, 3) := by decide +kernel
theorem dX12_stands_76 : decode cX12_stands 76 = .ok (.iload_n 1, 1) := by decide +kernel
theorem dX12_stands_77 : decode cX12_stands 77 = .ok (.iaload, 1) := by decide +kernel
theorem dX12_stands_78 : decode cX12_stands 78 = .ok (.iastore, 1) := by decide +kernel
theorem dX12_stands_79 : decode cX12_stands 79 = .ok (.iinc 1 1, 3) := by decide +kernel
theorem dX12_stands_82 : decode cX12_stands 82 = .ok (.goto (-24), 3) := by decide +kernel
theorem dX12_stands_85 : decode cX12_stands 85 = .ok (.iconst 0, 1) := by decide +kernel
theorem dX12_stands_86 : decode cX12_stands 86 = .ok (.istore_n 1, 1) := by decide +kernel
theorem dX12_stands_87 : decode cX12_stands 87 = .ok (.iload_n 1, 1) := by decide +kernel
theorem dX12_stands_88 : decode cX12_stands 88 = .ok (.bipush 6, 2) := by decide +kernel
theorem dX12_stands_90 : decode cX12_stands 90 = .ok (.if_icmp .ge 24, 3) := by decide +kernel
theorem dX12_stands_93 : decode cX12_stands 93 = .ok (.aload_n 0, 1) := by decide +kernel
theorem dX12_stands_94 : decode cX12_stands 94 = .ok (.getfield 97, 3) := by decide +kernel
theorem dX12_stands_97 : decode cX12_stands 97 = .ok (.bipush 6, 2) := by decide +kernel
theorem dX12_stands_99 : decode cX12_stands 99 = .ok (.iload_n 1, 1) := by decide +kernel
theorem dX12_stands_100 : decode cX12_stands 100 = .ok (.iadd, 1) := by decide +kernel
theorem dX12_stands_101 : decode cX12_stands 101 = .ok (.aload_n 0, 1) := by decide +kernel
theorem dX12_stands_102 : decode cX12_stands 102 = .ok (.getfield 97, 3) := by decide +kernel
theorem dX12_stands_105 : decode cX12_stands 105 = .ok (.iload_n 1, 1) := by decide +kernel
theorem dX12_stands_106 : decode cX12_stands 106 = .ok (.iaload, 1) := by decide +kernel
theorem dX12_stands_107 : decode cX12_stands 107 = .ok (.iastore, 1) := by decide +kernel
theorem dX12_stands_108 : decode cX12_stands 108 = .ok (.iinc 1 1, 3) := by decide +kernel
theorem dX12_stands_111 : decode cX12_stands 111 = .ok (.goto (-24), 3) := by decide +kernel
theorem dX12_stands_114 : decode cX12_stands 114 = .ok (.iconst 0, 1) := by decide +kernel
theorem dX12_stands_115 : decode cX12_stands 115 = .ok (.istore_n 1, 1) := by decide +kernel
theorem dX12_stands_116 : decode cX12_stands 116 = .ok (.iload_n 1, 1) := by decide +kernel
theorem dX12_stands_117 : decode cX12_stands 117 = .ok (.bipush 10, 2) := by decide +kernel
theorem dX12_stands_119 : decode cX12_stands 119 = .ok (.if_icmp .ge 24, 3) := by decide +kernel
theorem dX12_stands_122 : decode cX12_stands 122 = .ok (.aload_n 0, 1) := by decide +kernel
theorem dX12_stands_123 : decode cX12_stands 123 = .ok (.getfield 100, 3) := by decide +kernel
theorem dX12_stands_126 : decode cX12_stands 126 = .ok (.bipush 10, 2) := by decide +kernel
theorem dX12_stands_128 : decode cX12_stands 128 = .ok (.iload_n 1, 1) := by decide +kernel
theorem dX12_stands_129 : decode cX12_stands 129 = .ok (.iadd, 1) := by decide +kernel
theorem dX12_stands_130 : decode cX12_stands 130 = .ok (.aload_n 0, 1) := by decide +kernel
theorem dX12_stands_131 : decode cX12_stands 131 = .ok (.getfield 100, 3) := by decide +kernel
theorem dX12_stands_134 : decode cX12_stands 134 = .ok (.iload_n 1, 1) := by decide +kernel
theorem dX12_stands_135 : decode cX12_stands 135 = .ok (.iaload, 1) := by decide +kernel
theorem dX12_stands_136 : decode cX12_stands 136 = .ok (.iastore, 1) := by decide +kernel
theorem dX12_stands_137 : decode cX12_stands 137 = .ok (.iinc 1 1, 3) := by decide +kernel
theorem dX12_stands_140 : decode cX12_stands 140 = .ok (.goto (-24), 3) := by decide +kernel
theorem dX12_stands_143 : decode cX12_stands 143 = .ok (.iconst 0, 1) := by decide +kernel
theorem dX12_stands_144 : decode cX12_stands 144 = .ok (.istore_n 1, 1) := by decide +kernel
theorem dX12_stands_145 : decode cX12_stands 145 = .ok (.iload_n 1, 1) := by decide +kernel
theorem dX12_stands_146 : decode cX12_stands 146 = .ok (.iconst 2, 1) := by decide +kernel
theorem dX12_stands_147 : decode cX12_stands 147 = .ok (.if_icmp .ge 23, 3) := by decide +kernel
theorem dX12_stands_150 : decode cX12_stands 150 = .ok (.aload_n 0, 1) := by decide +kernel
theorem dX12_stands_151 : decode cX12_stands 151 = .ok (.getfield 103, 3) := by decide +kernel
theorem dX12_stands_154 : decode cX12_stands 154 = .ok (.iconst 2, 1) := by decide +kernel
theorem dX12_stands_155 : decode cX12_stands 155 = .ok (.iload_n 1, 1) := by decide +kernel
theorem dX12_stands_156 : decode cX12_stands 156 = .ok (.iadd, 1) := by decide +kernel
theorem dX12_stands_157 : decode cX12_stands 157 = .ok (.aload_n 0, 1) := by decide +kernel
theorem dX12_stands_158 : decode cX12_stands 158 = .ok (.getfield 103, 3) := by decide +kernel
theorem dX12_stands_161 : decode cX12_stands 161 = .ok (.iload_n 1, 1) := by decide +kernel
theorem dX12_stands_162 : decode cX12_stands 162 = .ok (.iaload, 1) := by decide +kernel
theorem dX12_stands_163 : decode cX12_stands 163 = .ok (.iastore, 1) := by decide +kernel
theorem dX12_stands_164 : decode cX12_stands 164 = .ok (.iinc 1 1, 3) := by decide +kernel
theorem dX12_stands_167 : decode cX12_stands 167 = .ok (.goto (-22), 3) := by decide +kernel
theorem dX12_stands_170 : decode cX12_stands 170 = .ok (.aload_n 0, 1) := by decide +kernel
theorem dX12_stands_171 : decode cX12_stands 171 = .ok (.getfield 106, 3) := by decide +kernel
theorem dX12_stands_174 : decode cX12_stands 174 = .ok (.iconst 1, 1) := by decide +kernel
theorem dX12_stands_175 : decode cX12_stands 175 = .ok (.aload_n 0, 1) := by decide +kernel
theorem dX12_stands_176 : decode cX12_stands 176 = .ok (.getfield 106, 3) := by decide +kernel
theorem dX12_stands_179 : decode cX12_stands 179 = .ok (.iconst 0, 1) := by decide +kernel
theorem dX12_stands_180 : decode cX12_stands 180 = .ok (.iaload, 1) := by decide +kernel
theorem dX12_stands_181 : decode cX12_stands 181 = .ok (.iastore, 1) := by decide +kernel
theorem dX12_stands_182 : decode cX12_stands 182 = .ok (.aload_n 0, 1) := by decide +kernel
theorem dX12_stands_183 : decode cX12_stands 183 = .ok (.getfield 109, 3) := by decide +kernel
theorem dX12_stands_186 : decode cX12_stands 186 = .ok (.iconst 1, 1) := by decide +kernel
theorem dX12_stands_187 : decode cX12_stands 187 = .ok (.aload_n 0, 1) := by decide +kernel
theorem dX12_stands_188 : decode cX12_stands 188 = .ok (.getfield 109, 3) := by decide +kernel
theorem dX12_stands_191 : decode cX12_stands 191 = .ok (.iconst 0, 1) := by decide +kernel
theorem dX12_stands_192 : decode cX12_stands 192 = .ok (.iaload, 1) := by decide +kernel
theorem dX12_stands_193 : decode cX12_stands 193 = .ok (.iastore, 1) := by decide +kernel
theorem dX12_stands_194 : decode cX12_stands 194 = .ok (.iconst 0, 1) := by decide +kernel
theorem dX12_stands_195 : decode cX12_stands 195 = .ok (.istore_n 1, 1) := by decide +kernel
theorem dX12_stands_196 : decode cX12_stands 196 = .ok (.iload_n 1, 1) := by decide +kernel
theorem dX12_stands_197 : decode cX12_stands 197 = .ok (.aload_n 0, 1) := by decide +kernel
theorem dX12_stands_198 : decode cX12_stands 198 = .ok (.getfield 327, 3) := by decide +kernel
theorem dX12_stands_201 : decode cX12_stands 201 = .ok (.if_icmp .ge 25, 3) := by decide +kernel
theorem dX12_stands_204 : decode cX12_stands 204 = .ok (.aload_n 0, 1) := by decide +kernel
theorem dX12_stands_205 : decode cX12_stands 205 = .ok (.getfield 112, 3) := by decide +kernel
theorem dX12_stands_208 : decode cX12_stands 208 = .ok (.sipush 1600, 3) := by decide +kernel
theorem dX12_stands_211 : decode cX12_stands 211 = .ok (.iload_n 1, 1) := by decide +kernel
theorem dX12_stands_212 : decode cX12_stands 212 = .ok (.iadd, 1) := by decide +kernel
theorem dX12_stands_213 : decode cX12_stands 213 = .ok (.aload_n 0, 1) := by decide +kernel
theorem dX12_stands_214 : decode cX12_stands 214 = .ok (.getfield 112, 3) := by decide +kernel
theorem dX12_stands_217 : decode cX12_stands 217 = .ok (.iload_n 1, 1) := by decide +kernel
theorem dX12_stands_218 : decode cX12_stands 218 = .ok (.iaload, 1) := by decide +kernel
theorem dX12_stands_219 : decode cX12_stands 219 = .ok (.iastore, 1) := by decide +kernel
theorem dX12_stands_220 : decode cX12_stands 220 = .ok (.iinc 1 1, 3) := by decide +kernel
theorem dX12_stands_223 : decode cX12_stands 223 = .ok (.goto (-27), 3) := by decide +kernel
theorem dX12_stands_226 : decode cX12_stands 226 = .ok (.iconst 0, 1) := by decide +kernel
theorem dX12_stands_227 : decode cX12_stands 227 = .ok (.istore_n 1, 1) := by decide +kernel
theorem dX12_stands_228 : decode cX12_stands 228 = .ok (.iload_n 1, 1) := by decide +kernel
theorem dX12_stands_229 : decode cX12_stands 229 = .ok (.sipush 185, 3) := by decide +kernel
theorem dX12_stands_232 : decode cX12_stands 232 = .ok (.if_icmp .ge 16, 3) := by decide +kernel
theorem dX12_stands_235 : decode cX12_stands 235 = .ok (.aload_n 0, 1) := by decide +kernel
theorem dX12_stands_236 : decode cX12_stands 236 = .ok (.getfield 115, 3) := by decide +kernel
theorem dX12_stands_239 : decode cX12_stands 239 = .ok (.iload_n 1, 1) := by decide +kernel
theorem dX12_stands_240 : decode cX12_stands 240 = .ok (.iconst 0, 1) := by decide +kernel
theorem dX12_stands_241 : decode cX12_stands 241 = .ok (.iastore, 1) := by decide +kernel
theorem dX12_stands_242 : decode cX12_stands 242 = .ok (.iinc 1 1, 3) := by decide +kernel
theorem dX12_stands_245 : decode cX12_stands 245 = .ok (.goto (-17), 3) := by decide +kernel
theorem dX12_stands_248 : decode cX12_stands 248 = .ok (.aload_n 0, 1) := by decide +kernel
theorem dX12_stands_249 : decode cX12_stands 249 = .ok (.iconst 0, 1) := by decide +kernel
theorem dX12_stands_250 : decode cX12_stands 250 = .ok (.putfield 358, 3) := by decide +kernel
theorem dX12_stands_253 : decode cX12_stands 253 = .ok (.aload_n 0, 1) := by decide +kernel
theorem dX12_stands_254 : decode cX12_stands 254 = .ok (.iconst 0, 1) := by decide +kernel
theorem dX12_stands_255 : decode cX12_stands 255 = .ok (.putfield 361, 3) := by decide +kernel
theorem dX12_stands_258 : decode cX12_stands 258 = .ok (.return_, 1) := by decide +kernel
theorem kl_RX12_115 : KLk RX12 115 12 45 := ⟨RX12, TX12, 97, rfl, by decide, Or.inl (kwm 1242 (by decide +kernel) (by decide +kernel))⟩
theorem kl_RX12_358 : KLk RX12 358 12 61 := ⟨RX12, TX12, 97, rfl, by decide, Or.inl (kwm 1258 (by decide +kernel) (by decide +kernel))⟩
theorem kl_RX12_361 : KLk RX12 361 12 58 := ⟨RX12, TX12, 97, rfl, by decide, Or.inl (kwm 1255 (by decide +kernel) (by decide +kernel))⟩
def E_X12_stands_l2 (v0 : Nat) : KH → Nat → List (Nat × Value) → List Value → KH → Prop := fun (e : KH) pc ls st hh => pc = 27 ∧ ls = [(0, .ref v0)] ∧ st = [] ∧ e = hh
def B_X12_stands_l2 (v0 : Nat) : ((Int32 × KH) ⊕ (KH)) → Nat → List (Nat × Value) → List Value → KH → Prop := Sum.elim (fun (s : Int32 × KH) pc ls st hh => pc = 2 ∧ ls = [(0, .ref v0), (1, .int s.1)] ∧ st = [] ∧ hh = s.2) (E_X12_stands_l2 v0)
def f_X12_stands_l2 (v0 : Nat) (s : Int32 × KH) : Option ((Int32 × KH) ⊕ (KH)) :=
  if (3 : Int32) ≤ s.1 then
  some (.inr s.2)
  else
  if kkind v0 = 12 then if (kR s.2 v0 33) < 999999 then if kkind (kR s.2 v0 33) = 20 then if (s.1 < 0 ∨ klen (kR s.2 v0 33) ≤ (s.1).toNatClampNeg) then none else if (((3 : Int32) + s.1) < 0 ∨ klen (kR s.2 v0 33) ≤ (((3 : Int32) + s.1)).toNatClampNeg) then none else kl (ksI s.2 (kR s.2 v0 33) ((((3 : Int32) + s.1)).toNatClampNeg) (kI s.2 (kR s.2 v0 33) ((s.1).toNatClampNeg))) fun h7 =>
  kl (s.1 + (1 : Int32)) fun x10 =>
  some (.inl (x10, h7)) else none else none else none
set_option maxHeartbeats 4000000 in
set_option maxRecDepth 100000 in
theorem s_X12_stands_l2 {Z : Nat → (Nat → Nat) → State → Prop} (v0 : Nat) (s : Int32 × KH) (t : (Int32 × KH) ⊕ (KH)) (hn : (s.2).1 = 243) (H : f_X12_stands_l2 v0 s = some t) : KX Z RX12 cX12_stands 2 false 1 (B_X12_stands_l2 v0 t) 2 [(0, .ref v0), (1, .int s.1)] [] s.2 := by
  unfold f_X12_stands_l2 at H
  refine x_iload_n (q := 3) dX12_stands_2 rfl rfl ?_
  refine x_iconst (q := 4) (v := (3 : Int32)) dX12_stands_3 rfl (by decide) ?_
  replace H := kite H; rcases H with ⟨g1, H⟩ | ⟨g1, H⟩
  · refine x_icmp_ge_t dX12_stands_4 (q := 27) (by decide) g1 ?_
    cases H
    refine x_sub (ls2 := [(0, .ref v0)]) [0] rfl ?_
    exact x_end (x_cfg rfl)
  · refine x_icmp_ge_f (q := 7) dX12_stands_4 (t := 27) (by decide) rfl g1 ?_
    refine x_aload_n (q := 8) dX12_stands_7 rfl rfl ?_
    replace H := kif H; obtain ⟨g2, H⟩ := H
    replace H := kif H; obtain ⟨g3, H⟩ := H
    refine x_getR (q := 11) dX12_stands_8 rfl kl_RX12_87 rfl (k243 g2 (by decide) hn) g3 ?_
    refine x_iconst (q := 12) (v := (3 : Int32)) dX12_stands_11 rfl (by decide) ?_
    refine x_iload_n (q := 13) dX12_stands_12 rfl rfl ?_
    refine x_iadd (q := 14) dX12_stands_13 rfl ?_
    refine x_aload_n (q := 15) dX12_stands_14 rfl rfl ?_
    refine x_getR (q := 18) dX12_stands_15 rfl kl_RX12_87 rfl (k243 g2 (by decide) hn) g3 ?_
    refine x_iload_n (q := 19) dX12_stands_18 rfl rfl ?_
    replace H := kif H; obtain ⟨g4, H⟩ := H
    replace H := kifn H; obtain ⟨g5, H⟩ := H
    refine x_iald (q := 20) dX12_stands_19 rfl (k243 g4 (by decide) hn) g5 ?_
    replace H := kifn H; obtain ⟨g6, H⟩ := H
    replace H := kle H; obtain ⟨h7, q8, H⟩ := H
    refine x_iast (q := 21) dX12_stands_20 rfl (k243 g4 (by decide) hn) g6 ?_
    refine x_nmH q8 ?_
    have n9 : h7.1 = 243 := by rw [q8]; exact hn
    replace H := kle H; obtain ⟨x10, q11, H⟩ := H
    refine x_iinc (q := 24) (i := 1) (ls2 := [(1, .int x10), (0, .ref v0)]) dX12_stands_21 rfl rfl (by decide) (by rw [q11]; rfl) ?_
    refine x_goto dX12_stands_24 (q := 2) (by decide) ?_
    cases H
    refine x_sub (ls2 := [(0, .ref v0), (1, .int x10)]) [1, 0] rfl ?_
    exact x_end (x_cfg rfl)
theorem sl_X12_stands_l2 {Z : Nat → (Nat → Nat) → State → Prop} (v0 : Nat) (n : Nat) (s : Int32 × KH) (r : KH) (hn : (s.2).1 = 243) (H : kloop (f_X12_stands_l2 v0) n s = some r) : KX Z RX12 cX12_stands 2 false 1 (E_X12_stands_l2 v0 r) 2 [(0, .ref v0), (1, .int s.1)] [] s.2 :=
  k_loop (ls := (fun (s : Int32 × KH) => ([(0, .ref v0), (1, .int s.1)] : List (Nat × Value)))) (hp := (fun (s : Int32 × KH) => (s.2 : KH))) (G := E_X12_stands_l2 v0) (fun s t hn H => s_X12_stands_l2 v0 s t hn H) n s r hn H
def E_X12_stands_l29 (v0 : Nat) : KH → Nat → List (Nat × Value) → List Value → KH → Prop := fun (e : KH) pc ls st hh => pc = 56 ∧ ls = [(0, .ref v0)] ∧ st = [] ∧ e = hh
def B_X12_stands_l29 (v0 : Nat) : ((Int32 × KH) ⊕ (KH)) → Nat → List (Nat × Value) → List Value → KH → Prop := Sum.elim (fun (s : Int32 × KH) pc ls st hh => pc = 29 ∧ ls = [(0, .ref v0), (1, .int s.1)] ∧ st = [] ∧ hh = s.2) (E_X12_stands_l29 v0)
def f_X12_stands_l29 (v0 : Nat) (s : Int32 × KH) : Option ((Int32 × KH) ⊕ (KH)) :=
  if (18 : Int32) ≤ s.1 then
  some (.inr s.2)
  else
  if kkind v0 = 12 then if (kR s.2 v0 34) < 999999 then if kkind (kR s.2 v0 34) = 21 then if (s.1 < 0 ∨ klen (kR s.2 v0 34) ≤ (s.1).toNatClampNeg) then none else if (((18 : Int32) + s.1) < 0 ∨ klen (kR s.2 v0 34) ≤ (((18 : Int32) + s.1)).toNatClampNeg) then none else kl (ksL s.2 (kR s.2 v0 34) ((((18 : Int32) + s.1)).toNatClampNeg) (kL s.2 (kR s.2 v0 34) ((s.1).toNatClampNeg))) fun h7 =>
  kl (s.1 + (1 : Int32)) fun x10 =>
  some (.inl (x10, h7)) else none else none else none
set_option maxHeartbeats 4000000 in
set_option maxRecDepth 100000 in
theorem s_X12_stands_l29 {Z : Nat → (Nat → Nat) → State → Prop} (v0 : Nat) (s : Int32 × KH) (t : (Int32 × KH) ⊕ (KH)) (hn : (s.2).1 = 243) (H : f_X12_stands_l29 v0 s = some t) : KX Z RX12 cX12_stands 2 false 1 (B_X12_stands_l29 v0 t) 29 [(0, .ref v0), (1, .int s.1)] [] s.2 := by
  unfold f_X12_stands_l29 at H
  refine x_iload_n (q := 30) dX12_stands_29 rfl rfl ?_
  refine x_bipush (q := 32) (v := (18 : Int32)) dX12_stands_30 rfl (by decide) ?_
  replace H := kite H; rcases H with ⟨g1, H⟩ | ⟨g1, H⟩
  · refine x_icmp_ge_t dX12_stands_32 (q := 56) (by decide) g1 ?_
    cases H
    refine x_sub (ls2 := [(0, .ref v0)]) [0] rfl ?_
    exact x_end (x_cfg rfl)
  · refine x_icmp_ge_f (q := 35) dX12_stands_32 (t := 56) (by decide) rfl g1 ?_
    refine x_aload_n (q := 36) dX12_stands_35 rfl rfl ?_
    replace H := kif H; obtain ⟨g2, H⟩ := H
    replace H := kif H; obtain ⟨g3, H⟩ := H
    refine x_getR (q := 39) dX12_stands_36 rfl kl_RX12_90 rfl (k243 g2 (by decide) hn) g3 ?_
    refine x_bipush (q := 41) (v := (18 : Int32)) dX12_stands_39 rfl (by decide) ?_
    refine x_iload_n (q := 42) dX12_stands_41 rfl rfl ?_
    refine x_iadd (q := 43) dX12_stands_42 rfl ?_
    refine x_aload_n (q := 44) dX12_stands_43 rfl rfl ?_
    refine x_getR (q := 47) dX12_stands_44 rfl kl_RX12_90 rfl (k243 g2 (by decide) hn) g3 ?_
    refine x_iload_n (q := 48) dX12_stands_47 rfl rfl ?_
    replace H := kif H; obtain ⟨g4, H⟩ := H
    replace H := kifn H; obtain ⟨g5, H⟩ := H
    refine x_lald (q := 49) dX12_stands_48 rfl (k243 g4 (by decide) hn) g5 ?_
    replace H := kifn H; obtain ⟨g6, H⟩ := H
    replace H := kle H; obtain ⟨h7, q8, H⟩ := H
    refine x_last (q := 50) dX12_stands_49 rfl (k243 g4 (by decide) hn) g6 ?_
    refine x_nmH q8 ?_
    have n9 : h7.1 = 243 := by rw [q8]; exact hn
    replace H := kle H; obtain ⟨x10, q11, H⟩ := H
    refine x_iinc (q := 53) (i := 1) (ls2 := [(1, .int x10), (0, .ref v0)]) dX12_stands_50 rfl rfl (by decide) (by rw [q11]; rfl) ?_
    refine x_goto dX12_stands_53 (q := 29) (by decide) ?_
    cases H
    refine x_sub (ls2 := [(0, .ref v0), (1, .int x10)]) [1, 0] rfl ?_
    exact x_end (x_cfg rfl)
theorem sl_X12_stands_l29 {Z : Nat → (Nat → Nat) → State → Prop} (v0 : Nat) (n : Nat) (s : Int32 × KH) (r : KH) (hn : (s.2).1 = 243) (H : kloop (f_X12_stands_l29 v0) n s = some r) : KX Z RX12 cX12_stands 2 false 1 (E_X12_stands_l29 v0 r) 29 [(0, .ref v0), (1, .int s.1)] [] s.2 :=
  k_loop (ls := (fun (s : Int32 × KH) => ([(0, .ref v0), (1, .int s.1)] : List (Nat × Value)))) (hp := (fun (s : Int32 × KH) => (s.2 : KH))) (G := E_X12_stands_l29 v0) (fun s t hn H => s_X12_stands_l29 v0 s t hn H) n s r hn H
def E_X12_stands_l58 (v0 : Nat) : KH → Nat → List (Nat × Value) → List Value → KH → Prop := fun (e : KH) pc ls st hh => pc = 85 ∧ ls = [(0, .ref v0)] ∧ st = [] ∧ e = hh
def B_X12_stands_l58 (v0 : Nat) : ((Int32 × KH) ⊕ (KH)) → Nat → List (Nat × Value) → List Value → KH → Prop := Sum.elim (fun (s : Int32 × KH) pc ls st hh => pc = 58 ∧ ls = [(0, .ref v0), (1, .int s.1)] ∧ st = [] ∧ hh = s.2) (E_X12_stands_l58 v0)
def f_X12_stands_l58 (v0 : Nat) (s : Int32 × KH) : Option ((Int32 × KH) ⊕ (KH)) :=
  if (24 : Int32) ≤ s.1 then
  some (.inr s.2)
  else
  if kkind v0 = 12 then if (kR s.2 v0 35) < 999999 then if kkind (kR s.2 v0 35) = 20 then if (s.1 < 0 ∨ klen (kR s.2 v0 35) ≤ (s.1).toNatClampNeg) then none else if (((24 : Int32) + s.1) < 0 ∨ klen (kR s.2 v0 35) ≤ (((24 : Int32) + s.1)).toNatClampNeg) then none else kl (ksI s.2 (kR s.2 v0 35) ((((24 : Int32) + s.1)).toNatClampNeg) (kI s.2 (kR s.2 v0 35) ((s.1).toNatClampNeg))) fun h7 =>
  kl (s.1 + (1 : Int32)) fun x10 =>
  some (.inl (x10, h7)) else none else none else none
set_option maxHeartbeats 4000000 in
set_option maxRecDepth 100000 in
theorem s_X12_stands_l58 {Z : Nat → (Nat → Nat) → State → Prop} (v0 : Nat) (s : Int32 × KH) (t : (Int32 × KH) ⊕ (KH)) (hn : (s.2).1 = 243) (H : f_X12_stands_l58 v0 s = some t) : KX Z RX12 cX12_stands 2 false 1 (B_X12_stands_l58 v0 t) 58 [(0, .ref v0), (1, .int s.1)] [] s.2 := by
  unfold f_X12_stands_l58 at H
  refine x_iload_n (q := 59) dX12_stands_58 rfl rfl ?_
  refine x_bipush (q := 61) (v := (24 : Int32)) dX12_stands_59 rfl (by decide) ?_
  replace H := kite H; rcases H with ⟨g1, H⟩ | ⟨g1, H⟩
  · refine x_icmp_ge_t dX12_stands_61 (q := 85) (by decide) g1 ?_
    cases H
    refine x_sub (ls2 := [(0, .ref v0)]) [0] rfl ?_
    exact x_end (x_cfg rfl)
  · refine x_icmp_ge_f (q := 64) dX12_stands_61 (t := 85) (by decide) rfl g1 ?_
    refine x_aload_n (q := 65) dX12_stands_64 rfl rfl ?_
    replace H := kif H; obtain ⟨g2, H⟩ := H
    replace H := kif H; obtain ⟨g3, H⟩ := H
    refine x_getR (q := 68) dX12_stands_65 rfl kl_RX12_94 rfl (k243 g2 (by decide) hn) g3 ?_
    refine x_bipush (q := 70) (v := (24 : Int32)) dX12_stands_68 rfl (by decide) ?_
    refine x_iload_n (q := 71) dX12_stands_70 rfl rfl ?_
    refine x_iadd (q := 72) dX12_stands_71 rfl ?_
    refine x_aload_n (q := 73) dX12_stands_72 rfl rfl ?_
    refine x_getR (q := 76) dX12_stands_73 rfl kl_RX12_94 rfl (k243 g2 (by decide) hn) g3 ?_
    refine x_iload_n (q := 77) dX12_stands_76 rfl rfl ?_
    replace H := kif H; obtain ⟨g4, H⟩ := H
    replace H := kifn H; obtain ⟨g5, H⟩ := H
    refine x_iald (q := 78) dX12_stands_77 rfl (k243 g4 (by decide) hn) g5 ?_
    replace H := kifn H; obtain ⟨g6, H⟩ := H
    replace H := kle H; obtain ⟨h7, q8, H⟩ := H
    refine x_iast (q := 79) dX12_stands_78 rfl (k243 g4 (by decide) hn) g6 ?_
    refine x_nmH q8 ?_
    have n9 : h7.1 = 243 := by rw [q8]; exact hn
    replace H := kle H; obtain ⟨x10, q11, H⟩ := H
    refine x_iinc (q := 82) (i := 1) (ls2 := [(1, .int x10), (0, .ref v0)]) dX12_stands_79 rfl rfl (by decide) (by rw [q11]; rfl) ?_
    refine x_goto dX12_stands_82 (q := 58) (by decide) ?_
    cases H
    refine x_sub (ls2 := [(0, .ref v0), (1, .int x10)]) [1, 0] rfl ?_
    exact x_end (x_cfg rfl)
theorem sl_X12_stands_l58 {Z : Nat → (Nat → Nat) → State → Prop} (v0 : Nat) (n : Nat) (s : Int32 × KH) (r : KH) (hn : (s.2).1 = 243) (H : kloop (f_X12_stands_l58 v0) n s = some r) : KX Z RX12 cX12_stands 2 false 1 (E_X12_stands_l58 v0 r) 58 [(0, .ref v0), (1, .int s.1)] [] s.2 :=
  k_loop (ls := (fun (s : Int32 × KH) => ([(0, .ref v0), (1, .int s.1)] : List (Nat × Value)))) (hp := (fun (s : Int32 × KH) => (s.2 : KH))) (G := E_X12_stands_l58 v0) (fun s t hn H => s_X12_stands_l58 v0 s t hn H) n s r hn H
def E_X12_stands_l87 (v0 : Nat) : KH → Nat → List (Nat × Value) → List Value → KH → Prop := fun (e : KH) pc ls st hh => pc = 114 ∧ ls = [(0, .ref v0)] ∧ st = [] ∧ e = hh
def B_X12_stands_l87 (v0 : Nat) : ((Int32 × KH) ⊕ (KH)) → Nat → List (Nat × Value) → List Value → KH → Prop := Sum.elim (fun (s : Int32 × KH) pc ls st hh => pc = 87 ∧ ls = [(0, .ref v0), (1, .int s.1)] ∧ st = [] ∧ hh = s.2) (E_X12_stands_l87 v0)
def f_X12_stands_l87 (v0 : Nat) (s : Int32 × KH) : Option ((Int32 × KH) ⊕ (KH)) :=
  if (6 : Int32) ≤ s.1 then
  some (.inr s.2)
  else
  if kkind v0 = 12 then if (kR s.2 v0 36) < 999999 then if kkind (kR s.2 v0 36) = 20 then if (s.1 < 0 ∨ klen (kR s.2 v0 36) ≤ (s.1).toNatClampNeg) then none else if (((6 : Int32) + s.1) < 0 ∨ klen (kR s.2 v0 36) ≤ (((6 : Int32) + s.1)).toNatClampNeg) then none else kl (ksI s.2 (kR s.2 v0 36) ((((6 : Int32) + s.1)).toNatClampNeg) (kI s.2 (kR s.2 v0 36) ((s.1).toNatClampNeg))) fun h7 =>
  kl (s.1 + (1 : Int32)) fun x10 =>
  some (.inl (x10, h7)) else none else none else none
set_option maxHeartbeats 4000000 in
set_option maxRecDepth 100000 in
theorem s_X12_stands_l87 {Z : Nat → (Nat → Nat) → State → Prop} (v0 : Nat) (s : Int32 × KH) (t : (Int32 × KH) ⊕ (KH)) (hn : (s.2).1 = 243) (H : f_X12_stands_l87 v0 s = some t) : KX Z RX12 cX12_stands 2 false 1 (B_X12_stands_l87 v0 t) 87 [(0, .ref v0), (1, .int s.1)] [] s.2 := by
  unfold f_X12_stands_l87 at H
  refine x_iload_n (q := 88) dX12_stands_87 rfl rfl ?_
  refine x_bipush (q := 90) (v := (6 : Int32)) dX12_stands_88 rfl (by decide) ?_
  replace H := kite H; rcases H with ⟨g1, H⟩ | ⟨g1, H⟩
  · refine x_icmp_ge_t dX12_stands_90 (q := 114) (by decide) g1 ?_
    cases H
    refine x_sub (ls2 := [(0, .ref v0)]) [0] rfl ?_
    exact x_end (x_cfg rfl)
  · refine x_icmp_ge_f (q := 93) dX12_stands_90 (t := 114) (by decide) rfl g1 ?_
    refine x_aload_n (q := 94) dX12_stands_93 rfl rfl ?_
    replace H := kif H; obtain ⟨g2, H⟩ := H
    replace H := kif H; obtain ⟨g3, H⟩ := H
    refine x_getR (q := 97) dX12_stands_94 rfl kl_RX12_97 rfl (k243 g2 (by decide) hn) g3 ?_
    refine x_bipush (q := 99) (v := (6 : Int32)) dX12_stands_97 rfl (by decide) ?_
    refine x_iload_n (q := 100) dX12_stands_99 rfl rfl ?_
    refine x_iadd (q := 101) dX12_stands_100 rfl ?_
    refine x_aload_n (q := 102) dX12_stands_101 rfl rfl ?_
    refine x_getR (q := 105) dX12_stands_102 rfl kl_RX12_97 rfl (k243 g2 (by decide) hn) g3 ?_
    refine x_iload_n (q := 106) dX12_stands_105 rfl rfl ?_
    replace H := kif H; obtain ⟨g4, H⟩ := H
    replace H := kifn H; obtain ⟨g5, H⟩ := H
    refine x_iald (q := 107) dX12_stands_106 rfl (k243 g4 (by decide) hn) g5 ?_
    replace H := kifn H; obtain ⟨g6, H⟩ := H
    replace H := kle H; obtain ⟨h7, q8, H⟩ := H
    refine x_iast (q := 108) dX12_stands_107 rfl (k243 g4 (by decide) hn) g6 ?_
    refine x_nmH q8 ?_
    have n9 : h7.1 = 243 := by rw [q8]; exact hn
    replace H := kle H; obtain ⟨x10, q11, H⟩ := H
    refine x_iinc (q := 111) (i := 1) (ls2 := [(1, .int x10), (0, .ref v0)]) dX12_stands_108 rfl rfl (by decide) (by rw [q11]; rfl) ?_
    refine x_goto dX12_stands_111 (q := 87) (by decide) ?_
    cases H
    refine x_sub (ls2 := [(0, .ref v0), (1, .int x10)]) [1, 0] rfl ?_
    exact x_end (x_cfg rfl)
theorem sl_X12_stands_l87 {Z : Nat → (Nat → Nat) → State → Prop} (v0 : Nat) (n : Nat) (s : Int32 × KH) (r : KH) (hn : (s.2).1 = 243) (H : kloop (f_X12_stands_l87 v0) n s = some r) : KX Z RX12 cX12_stands 2 false 1 (E_X12_stands_l87 v0 r) 87 [(0, .ref v0), (1, .int s.1)] [] s.2 :=
  k_loop (ls := (fun (s : Int32 × KH) => ([(0, .ref v0), (1, .int s.1)] : List (Nat × Value)))) (hp := (fun (s : Int32 × KH) => (s.2 : KH))) (G := E_X12_stands_l87 v0) (fun s t hn H => s_X12_stands_l87 v0 s t hn H) n s r hn H
def E_X12_stands_l116 (v0 : Nat) : KH → Nat → List (Nat × Value) → List Value → KH → Prop := fun (e : KH) pc ls st hh => pc = 143 ∧ ls = [(0, .ref v0)] ∧ st = [] ∧ e = hh
def B_X12_stands_l116 (v0 : Nat) : ((Int32 × KH) ⊕ (KH)) → Nat → List (Nat × Value) → List Value → KH → Prop := Sum.elim (fun (s : Int32 × KH) pc ls st hh => pc = 116 ∧ ls = [(0, .ref v0), (1, .int s.1)] ∧ st = [] ∧ hh = s.2) (E_X12_stands_l116 v0)
def f_X12_stands_l116 (v0 : Nat) (s : Int32 × KH) : Option ((Int32 × KH) ⊕ (KH)) :=
  if (10 : Int32) ≤ s.1 then
  some (.inr s.2)
  else
  if kkind v0 = 12 then if (kR s.2 v0 37) < 999999 then if kkind (kR s.2 v0 37) = 20 then if (s.1 < 0 ∨ klen (kR s.2 v0 37) ≤ (s.1).toNatClampNeg) then none else if (((10 : Int32) + s.1) < 0 ∨ klen (kR s.2 v0 37) ≤ (((10 : Int32) + s.1)).toNatClampNeg) then none else kl (ksI s.2 (kR s.2 v0 37) ((((10 : Int32) + s.1)).toNatClampNeg) (kI s.2 (kR s.2 v0 37) ((s.1).toNatClampNeg))) fun h7 =>
  kl (s.1 + (1 : Int32)) fun x10 =>
  some (.inl (x10, h7)) else none else none else none
set_option maxHeartbeats 4000000 in
set_option maxRecDepth 100000 in
theorem s_X12_stands_l116 {Z : Nat → (Nat → Nat) → State → Prop} (v0 : Nat) (s : Int32 × KH) (t : (Int32 × KH) ⊕ (KH)) (hn : (s.2).1 = 243) (H : f_X12_stands_l116 v0 s = some t) : KX Z RX12 cX12_stands 2 false 1 (B_X12_stands_l116 v0 t) 116 [(0, .ref v0), (1, .int s.1)] [] s.2 := by
  unfold f_X12_stands_l116 at H
  refine x_iload_n (q := 117) dX12_stands_116 rfl rfl ?_
  refine x_bipush (q := 119) (v := (10 : Int32)) dX12_stands_117 rfl (by decide) ?_
  replace H := kite H; rcases H with ⟨g1, H⟩ | ⟨g1, H⟩
  · refine x_icmp_ge_t dX12_stands_119 (q := 143) (by decide) g1 ?_
    cases H
    refine x_sub (ls2 := [(0, .ref v0)]) [0] rfl ?_
    exact x_end (x_cfg rfl)
  · refine x_icmp_ge_f (q := 122) dX12_stands_119 (t := 143) (by decide) rfl g1 ?_
    refine x_aload_n (q := 123) dX12_stands_122 rfl rfl ?_
    replace H := kif H; obtain ⟨g2, H⟩ := H
    replace H := kif H; obtain ⟨g3, H⟩ := H
    refine x_getR (q := 126) dX12_stands_123 rfl kl_RX12_100 rfl (k243 g2 (by decide) hn) g3 ?_
    refine x_bipush (q := 128) (v := (10 : Int32)) dX12_stands_126 rfl (by decide) ?_
    refine x_iload_n (q := 129) dX12_stands_128 rfl rfl ?_
    refine x_iadd (q := 130) dX12_stands_129 rfl ?_
    refine x_aload_n (q := 131) dX12_stands_130 rfl rfl ?_
    refine x_getR (q := 134) dX12_stands_131 rfl kl_RX12_100 rfl (k243 g2 (by decide) hn) g3 ?_
    refine x_iload_n (q := 135) dX12_stands_134 rfl rfl ?_
    replace H := kif H; obtain ⟨g4, H⟩ := H
    replace H := kifn H; obtain ⟨g5, H⟩ := H
    refine x_iald (q := 136) dX12_stands_135 rfl (k243 g4 (by decide) hn) g5 ?_
    replace H := kifn H; obtain ⟨g6, H⟩ := H
    replace H := kle H; obtain ⟨h7, q8, H⟩ := H
    refine x_iast (q := 137) dX12_stands_136 rfl (k243 g4 (by decide) hn) g6 ?_
    refine x_nmH q8 ?_
    have n9 : h7.1 = 243 := by rw [q8]; exact hn
    replace H := kle H; obtain ⟨x10, q11, H⟩ := H
    refine x_iinc (q := 140) (i := 1) (ls2 := [(1, .int x10), (0, .ref v0)]) dX12_stands_137 rfl rfl (by decide) (by rw [q11]; rfl) ?_
    refine x_goto dX12_stands_140 (q := 116) (by decide) ?_
    cases H
    refine x_sub (ls2 := [(0, .ref v0), (1, .int x10)]) [1, 0] rfl ?_
    exact x_end (x_cfg rfl)
theorem sl_X12_stands_l116 {Z : Nat → (Nat → Nat) → State → Prop} (v0 : Nat) (n : Nat) (s : Int32 × KH) (r : KH) (hn : (s.2).1 = 243) (H : kloop (f_X12_stands_l116 v0) n s = some r) : KX Z RX12 cX12_stands 2 false 1 (E_X12_stands_l116 v0 r) 116 [(0, .ref v0), (1, .int s.1)] [] s.2 :=
  k_loop (ls := (fun (s : Int32 × KH) => ([(0, .ref v0), (1, .int s.1)] : List (Nat × Value)))) (hp := (fun (s : Int32 × KH) => (s.2 : KH))) (G := E_X12_stands_l116 v0) (fun s t hn H => s_X12_stands_l116 v0 s t hn H) n s r hn H
def E_X12_stands_l145 (v0 : Nat) : KH → Nat → List (Nat × Value) → List Value → KH → Prop := fun (e : KH) pc ls st hh => pc = 170 ∧ ls = [(0, .ref v0)] ∧ st = [] ∧ e = hh
def B_X12_stands_l145 (v0 : Nat) : ((Int32 × KH) ⊕ (KH)) → Nat → List (Nat × Value) → List Value → KH → Prop := Sum.elim (fun (s : Int32 × KH) pc ls st hh => pc = 145 ∧ ls = [(0, .ref v0), (1, .int s.1)] ∧ st = [] ∧ hh = s.2) (E_X12_stands_l145 v0)
def f_X12_stands_l145 (v0 : Nat) (s : Int32 × KH) : Option ((Int32 × KH) ⊕ (KH)) :=
  if (2 : Int32) ≤ s.1 then
  some (.inr s.2)
  else
  if kkind v0 = 12 then if (kR s.2 v0 38) < 999999 then if kkind (kR s.2 v0 38) = 20 then if (s.1 < 0 ∨ klen (kR s.2 v0 38) ≤ (s.1).toNatClampNeg) then none else if (((2 : Int32) + s.1) < 0 ∨ klen (kR s.2 v0 38) ≤ (((2 : Int32) + s.1)).toNatClampNeg) then none else kl (ksI s.2 (kR s.2 v0 38) ((((2 : Int32) + s.1)).toNatClampNeg) (kI s.2 (kR s.2 v0 38) ((s.1).toNatClampNeg))) fun h7 =>
  kl (s.1 + (1 : Int32)) fun x10 =>
  some (.inl (x10, h7)) else none else none else none
set_option maxHeartbeats 4000000 in
set_option maxRecDepth 100000 in
theorem s_X12_stands_l145 {Z : Nat → (Nat → Nat) → State → Prop} (v0 : Nat) (s : Int32 × KH) (t : (Int32 × KH) ⊕ (KH)) (hn : (s.2).1 = 243) (H : f_X12_stands_l145 v0 s = some t) : KX Z RX12 cX12_stands 2 false 1 (B_X12_stands_l145 v0 t) 145 [(0, .ref v0), (1, .int s.1)] [] s.2 := by
  unfold f_X12_stands_l145 at H
  refine x_iload_n (q := 146) dX12_stands_145 rfl rfl ?_
  refine x_iconst (q := 147) (v := (2 : Int32)) dX12_stands_146 rfl (by decide) ?_
  replace H := kite H; rcases H with ⟨g1, H⟩ | ⟨g1, H⟩
  · refine x_icmp_ge_t dX12_stands_147 (q := 170) (by decide) g1 ?_
    cases H
    refine x_sub (ls2 := [(0, .ref v0)]) [0] rfl ?_
    exact x_end (x_cfg rfl)
  · refine x_icmp_ge_f (q := 150) dX12_stands_147 (t := 170) (by decide) rfl g1 ?_
    refine x_aload_n (q := 151) dX12_stands_150 rfl rfl ?_
    replace H := kif H; obtain ⟨g2, H⟩ := H
    replace H := kif H; obtain ⟨g3, H⟩ := H
    refine x_getR (q := 154) dX12_stands_151 rfl kl_RX12_103 rfl (k243 g2 (by decide) hn) g3 ?_
    refine x_iconst (q := 155) (v := (2 : Int32)) dX12_stands_154 rfl (by decide) ?_
    refine x_iload_n (q := 156) dX12_stands_155 rfl rfl ?_
    refine x_iadd (q := 157) dX12_stands_156 rfl ?_
    refine x_aload_n (q := 158) dX12_stands_157 rfl rfl ?_
    refine x_getR (q := 161) dX12_stands_158 rfl kl_RX12_103 rfl (k243 g2 (by decide) hn) g3 ?_
    refine x_iload_n (q := 162) dX12_stands_161 rfl rfl ?_
    replace H := kif H; obtain ⟨g4, H⟩ := H
    replace H := kifn H; obtain ⟨g5, H⟩ := H
    refine x_iald (q := 163) dX12_stands_162 rfl (k243 g4 (by decide) hn) g5 ?_
    replace H := kifn H; obtain ⟨g6, H⟩ := H
    replace H := kle H; obtain ⟨h7, q8, H⟩ := H
    refine x_iast (q := 164) dX12_stands_163 rfl (k243 g4 (by decide) hn) g6 ?_
    refine x_nmH q8 ?_
    have n9 : h7.1 = 243 := by rw [q8]; exact hn
    replace H := kle H; obtain ⟨x10, q11, H⟩ := H
    refine x_iinc (q := 167) (i := 1) (ls2 := [(1, .int x10), (0, .ref v0)]) dX12_stands_164 rfl rfl (by decide) (by rw [q11]; rfl) ?_
    refine x_goto dX12_stands_167 (q := 145) (by decide) ?_
    cases H
    refine x_sub (ls2 := [(0, .ref v0), (1, .int x10)]) [1, 0] rfl ?_
    exact x_end (x_cfg rfl)
theorem sl_X12_stands_l145 {Z : Nat → (Nat → Nat) → State → Prop} (v0 : Nat) (n : Nat) (s : Int32 × KH) (r : KH) (hn : (s.2).1 = 243) (H : kloop (f_X12_stands_l145 v0) n s = some r) : KX Z RX12 cX12_stands 2 false 1 (E_X12_stands_l145 v0 r) 145 [(0, .ref v0), (1, .int s.1)] [] s.2 :=
  k_loop (ls := (fun (s : Int32 × KH) => ([(0, .ref v0), (1, .int s.1)] : List (Nat × Value)))) (hp := (fun (s : Int32 × KH) => (s.2 : KH))) (G := E_X12_stands_l145 v0) (fun s t hn H => s_X12_stands_l145 v0 s t hn H) n s r hn H
def E_X12_stands_l196 (v0 : Nat) : KH → Nat → List (Nat × Value) → List Value → KH → Prop := fun (e : KH) pc ls st hh => pc = 226 ∧ ls = [(0, .ref v0)] ∧ st = [] ∧ e = hh
def B_X12_stands_l196 (v0 : Nat) : ((Int32 × KH) ⊕ (KH)) → Nat → List (Nat × Value) → List Value → KH → Prop := Sum.elim (fun (s : Int32 × KH) pc ls st hh => pc = 196 ∧ ls = [(0, .ref v0), (1, .int s.1)] ∧ st = [] ∧ hh = s.2) (E_X12_stands_l196 v0)
def f_X12_stands_l196 (v0 : Nat) (s : Int32 × KH) : Option ((Int32 × KH) ⊕ (KH)) :=
  if kkind v0 = 12 then if (kI s.2 v0 42) ≤ s.1 then
  some (.inr s.2)
  else
  if (kR s.2 v0 41) < 999999 then if kkind (kR s.2 v0 41) = 20 then if (s.1 < 0 ∨ klen (kR s.2 v0 41) ≤ (s.1).toNatClampNeg) then none else if (((1600 : Int32) + s.1) < 0 ∨ klen (kR s.2 v0 41) ≤ (((1600 : Int32) + s.1)).toNatClampNeg) then none else kl (ksI s.2 (kR s.2 v0 41) ((((1600 : Int32) + s.1)).toNatClampNeg) (kI s.2 (kR s.2 v0 41) ((s.1).toNatClampNeg))) fun h7 =>
  kl (s.1 + (1 : Int32)) fun x10 =>
  some (.inl (x10, h7)) else none else none else none
set_option maxHeartbeats 4000000 in
set_option maxRecDepth 100000 in
theorem s_X12_stands_l196 {Z : Nat → (Nat → Nat) → State → Prop} (v0 : Nat) (s : Int32 × KH) (t : (Int32 × KH) ⊕ (KH)) (hn : (s.2).1 = 243) (H : f_X12_stands_l196 v0 s = some t) : KX Z RX12 cX12_stands 2 false 1 (B_X12_stands_l196 v0 t) 196 [(0, .ref v0), (1, .int s.1)] [] s.2 := by
  unfold f_X12_stands_l196 at H
  refine x_iload_n (q := 197) dX12_stands_196 rfl rfl ?_
  refine x_aload_n (q := 198) dX12_stands_197 rfl rfl ?_
  replace H := kif H; obtain ⟨g1, H⟩ := H
  refine x_getI (q := 201) dX12_stands_198 rfl kl_RX12_327 (Or.inl rfl) (k243 g1 (by decide) hn) ?_
  replace H := kite H; rcases H with ⟨g2, H⟩ | ⟨g2, H⟩
  · refine x_icmp_ge_t dX12_stands_201 (q := 226) (by decide) g2 ?_
    cases H
    refine x_sub (ls2 := [(0, .ref v0)]) [0] rfl ?_
    exact x_end (x_cfg rfl)
  · refine x_icmp_ge_f (q := 204) dX12_stands_201 (t := 226) (by decide) rfl g2 ?_
    refine x_aload_n (q := 205) dX12_stands_204 rfl rfl ?_
    replace H := kif H; obtain ⟨g3, H⟩ := H
    refine x_getR (q := 208) dX12_stands_205 rfl kl_RX12_112 rfl (k243 g1 (by decide) hn) g3 ?_
    refine x_sipush (q := 211) (v := (1600 : Int32)) dX12_stands_208 rfl (by decide) ?_
    refine x_iload_n (q := 212) dX12_stands_211 rfl rfl ?_
    refine x_iadd (q := 213) dX12_stands_212 rfl ?_
    refine x_aload_n (q := 214) dX12_stands_213 rfl rfl ?_
    refine x_getR (q := 217) dX12_stands_214 rfl kl_RX12_112 rfl (k243 g1 (by decide) hn) g3 ?_
    refine x_iload_n (q := 218) dX12_stands_217 rfl rfl ?_
    replace H := kif H; obtain ⟨g4, H⟩ := H
    replace H := kifn H; obtain ⟨g5, H⟩ := H
    refine x_iald (q := 219) dX12_stands_218 rfl (k243 g4 (by decide) hn) g5 ?_
    replace H := kifn H; obtain ⟨g6, H⟩ := H
    replace H := kle H; obtain ⟨h7, q8, H⟩ := H
    refine x_iast (q := 220) dX12_stands_219 rfl (k243 g4 (by decide) hn) g6 ?_
    refine x_nmH q8 ?_
    have n9 : h7.1 = 243 := by rw [q8]; exact hn
    replace H := kle H; obtain ⟨x10, q11, H⟩ := H
    refine x_iinc (q := 223) (i := 1) (ls2 := [(1, .int x10), (0, .ref v0)]) dX12_stands_220 rfl rfl (by decide) (by rw [q11]; rfl) ?_
    refine x_goto dX12_stands_223 (q := 196) (by decide) ?_
    cases H
    refine x_sub (ls2 := [(0, .ref v0), (1, .int x10)]) [1, 0] rfl ?_
    exact x_end (x_cfg rfl)
theorem sl_X12_stands_l196 {Z : Nat → (Nat → Nat) → State → Prop} (v0 : Nat) (n : Nat) (s : Int32 × KH) (r : KH) (hn : (s.2).1 = 243) (H : kloop (f_X12_stands_l196 v0) n s = some r) : KX Z RX12 cX12_stands 2 false 1 (E_X12_stands_l196 v0 r) 196 [(0, .ref v0), (1, .int s.1)] [] s.2 :=
  k_loop (ls := (fun (s : Int32 × KH) => ([(0, .ref v0), (1, .int s.1)] : List (Nat × Value)))) (hp := (fun (s : Int32 × KH) => (s.2 : KH))) (G := E_X12_stands_l196 v0) (fun s t hn H => s_X12_stands_l196 v0 s t hn H) n s r hn H
def E_X12_stands_l228 (v0 : Nat) : KH → Nat → List (Nat × Value) → List Value → KH → Prop := fun (e : KH) pc ls st hh => pc = 248 ∧ ls = [(0, .ref v0)] ∧ st = [] ∧ e = hh
def B_X12_stands_l228 (v0 : Nat) : ((Int32 × KH) ⊕ (KH)) → Nat → List (Nat × Value) → List Value → KH → Prop := Sum.elim (fun (s : Int32 × KH) pc ls st hh => pc = 228 ∧ ls = [(0, .ref v0), (1, .int s.1)] ∧ st = [] ∧ hh = s.2) (E_X12_stands_l228 v0)
def f_X12_stands_l228 (v0 : Nat) (s : Int32 × KH) : Option ((Int32 × KH) ⊕ (KH)) :=
  if (185 : Int32) ≤ s.1 then
  some (.inr s.2)
  else
  if kkind v0 = 12 then if (kR s.2 v0 45) < 999999 then if kkind (kR s.2 v0 45) = 20 then if (s.1 < 0 ∨ klen (kR s.2 v0 45) ≤ (s.1).toNatClampNeg) then none else kl (ksI s.2 (kR s.2 v0 45) ((s.1).toNatClampNeg) (0 : Int32)) fun h6 =>
  kl (s.1 + (1 : Int32)) fun x9 =>
  some (.inl (x9, h6)) else none else none else none
set_option maxHeartbeats 4000000 in
set_option maxRecDepth 100000 in
theorem s_X12_stands_l228 {Z : Nat → (Nat → Nat) → State → Prop} (v0 : Nat) (s : Int32 × KH) (t : (Int32 × KH) ⊕ (KH)) (hn : (s.2).1 = 243) (H : f_X12_stands_l228 v0 s = some t) : KX Z RX12 cX12_stands 2 false 1 (B_X12_stands_l228 v0 t) 228 [(0, .ref v0), (1, .int s.1)] [] s.2 := by
  unfold f_X12_stands_l228 at H
  refine x_iload_n (q := 229) dX12_stands_228 rfl rfl ?_
  refine x_sipush (q := 232) (v := (185 : Int32)) dX12_stands_229 rfl (by decide) ?_
  replace H := kite H; rcases H with ⟨g1, H⟩ | ⟨g1, H⟩
  · refine x_icmp_ge_t dX12_stands_232 (q := 248) (by decide) g1 ?_
    cases H
    refine x_sub (ls2 := [(0, .ref v0)]) [0] rfl ?_
    exact x_end (x_cfg rfl)
  · refine x_icmp_ge_f (q := 235) dX12_stands_232 (t := 248) (by decide) rfl g1 ?_
    refine x_aload_n (q := 236) dX12_stands_235 rfl rfl ?_
    replace H := kif H; obtain ⟨g2, H⟩ := H
    replace H := kif H; obtain ⟨g3, H⟩ := H
    refine x_getR (q := 239) dX12_stands_236 rfl kl_RX12_115 rfl (k243 g2 (by decide) hn) g3 ?_
    refine x_iload_n (q := 240) dX12_stands_239 rfl rfl ?_
    refine x_iconst (q := 241) (v := (0 : Int32)) dX12_stands_240 rfl (by decide) ?_
    replace H := kif H; obtain ⟨g4, H⟩ := H
    replace H := kifn H; obtain ⟨g5, H⟩ := H
    replace H := kle H; obtain ⟨h6, q7, H⟩ := H
    refine x_iast (q := 242) dX12_stands_241 rfl (k243 g4 (by decide) hn) g5 ?_
    refine x_nmH q7 ?_
    have n8 : h6.1 = 243 := by rw [q7]; exact hn
    replace H := kle H; obtain ⟨x9, q10, H⟩ := H
    refine x_iinc (q := 245) (i := 1) (ls2 := [(1, .int x9), (0, .ref v0)]) dX12_stands_242 rfl rfl (by decide) (by rw [q10]; rfl) ?_
    refine x_goto dX12_stands_245 (q := 228) (by decide) ?_
    cases H
    refine x_sub (ls2 := [(0, .ref v0), (1, .int x9)]) [1, 0] rfl ?_
    exact x_end (x_cfg rfl)
theorem sl_X12_stands_l228 {Z : Nat → (Nat → Nat) → State → Prop} (v0 : Nat) (n : Nat) (s : Int32 × KH) (r : KH) (hn : (s.2).1 = 243) (H : kloop (f_X12_stands_l228 v0) n s = some r) : KX Z RX12 cX12_stands 2 false 1 (E_X12_stands_l228 v0 r) 228 [(0, .ref v0), (1, .int s.1)] [] s.2 :=
  k_loop (ls := (fun (s : Int32 × KH) => ([(0, .ref v0), (1, .int s.1)] : List (Nat × Value)))) (hp := (fun (s : Int32 × KH) => (s.2 : KH))) (G := E_X12_stands_l228 v0) (fun s t hn H => s_X12_stands_l228 v0 s t hn H) n s r hn H
def f_X12_stands (h : KH) (v0 : Nat) : Option (KH) :=
  kb (kloop (f_X12_stands_l2 v0) KF ((0 : Int32), h)) fun e1 =>
  kb (kloop (f_X12_stands_l29 v0) KF ((0 : Int32), e1)) fun e4 =>
  kb (kloop (f_X12_stands_l58 v0) KF ((0 : Int32), e4)) fun e7 =>
  kb (kloop (f_X12_stands_l87 v0) KF ((0 : Int32), e7)) fun e10 =>
  kb (kloop (f_X12_stands_l116 v0) KF ((0 : Int32), e10)) fun e13 =>
  kb (kloop (f_X12_stands_l145 v0) KF ((0 : Int32), e13)) fun e16 =>
  if kkind v0 = 12 then if (kR e16 v0 39) < 999999 then if kkind (kR e16 v0 39) = 20 then if klen (kR e16 v0 39) ≤ 0 then none else if klen (kR e16 v0 39) ≤ 1 then none else kl (ksI e16 (kR e16 v0 39) 1 (kI e16 (kR e16 v0 39) 0)) fun h24 =>
  if (kR h24 v0 40) < 999999 then if kkind (kR h24 v0 40) = 20 then if klen (kR h24 v0 40) ≤ 0 then none else if klen (kR h24 v0 40) ≤ 1 then none else kl (ksI h24 (kR h24 v0 40) 1 (kI h24 (kR h24 v0 40) 0)) fun h31 =>
  kb (kloop (f_X12_stands_l196 v0) KF ((0 : Int32), h31)) fun e34 =>
  kb (kloop (f_X12_stands_l228 v0) KF ((0 : Int32), e34)) fun e37 =>
  kl (ksI e37 v0 61 (0 : Int32)) fun h40 =>
  kl (ksI h40 v0 58 (0 : Int32)) fun h43 =>
  some h43 else none else none else none else none else none
set_option maxHeartbeats 4000000 in
set_option maxRecDepth 100000 in
theorem s0_X12_stands {Z : Nat → (Nat → Nat) → State → Prop} (h : KH) (v0 : Nat) {t : KH} (hn : h.1 = 243) (H : f_X12_stands h v0 = some t) : KX Z RX12 cX12_stands 2 false 1 (KRv cX12_stands t) 0 [(0, .ref v0)] [] h := by
  unfold f_X12_stands at H
  refine x_iconst (q := 1) (v := (0 : Int32)) dX12_stands_0 rfl (by decide) ?_
  refine x_istore_n (q := 2) (i := 1) (ls2 := [(1, .int (0 : Int32)), (0, .ref v0)]) dX12_stands_1 rfl rfl (by decide) rfl ?_
  refine x_sub (ls2 := [(0, .ref v0), (1, .int (0 : Int32))]) [1, 0] rfl ?_
  replace H := kbe H; obtain ⟨e1, c2, H⟩ := H
  refine x_app (sl_X12_stands_l2 v0 KF ((0 : Int32), h) e1 hn c2) fun pc2 ls2 st2 h2 hg m3 => ?_
  obtain ⟨rfl, rfl, rfl, rfl⟩ := hg
  refine x_iconst (q := 28) (v := (0 : Int32)) dX12_stands_27 rfl (by decide) ?_
  refine x_istore_n (q := 29) (i := 1) (ls2 := [(1, .int (0 : Int32)), (0, .ref v0)]) dX12_stands_28 rfl rfl (by decide) rfl ?_
  refine x_sub (ls2 := [(0, .ref v0), (1, .int (0 : Int32))]) [1, 0] rfl ?_
  replace H := kbe H; obtain ⟨e4, c5, H⟩ := H
  refine x_app (sl_X12_stands_l29 v0 KF ((0 : Int32), e1) e4 (m3.full hn) c5) fun pc2 ls2 st2 h2 hg m6 => ?_
  obtain ⟨rfl, rfl, rfl, rfl⟩ := hg
  refine x_iconst (q := 57) (v := (0 : Int32)) dX12_stands_56 rfl (by decide) ?_
  refine x_istore_n (q := 58) (i := 1) (ls2 := [(1, .int (0 : Int32)), (0, .ref v0)]) dX12_stands_57 rfl rfl (by decide) rfl ?_
  refine x_sub (ls2 := [(0, .ref v0), (1, .int (0 : Int32))]) [1, 0] rfl ?_
  replace H := kbe H; obtain ⟨e7, c8, H⟩ := H
  refine x_app (sl_X12_stands_l58 v0 KF ((0 : Int32), e4) e7 (m6.full (m3.full hn)) c8) fun pc2 ls2 st2 h2 hg m9 => ?_
  obtain ⟨rfl, rfl, rfl, rfl⟩ := hg
  refine x_iconst (q := 86) (v := (0 : Int32)) dX12_stands_85 rfl (by decide) ?_
  refine x_istore_n (q := 87) (i := 1) (ls2 := [(1, .int (0 : Int32)), (0, .ref v0)]) dX12_stands_86 rfl rfl (by decide) rfl ?_
  refine x_sub (ls2 := [(0, .ref v0), (1, .int (0 : Int32))]) [1, 0] rfl ?_
  replace H := kbe H; obtain ⟨e10, c11, H⟩ := H
  refine x_app (sl_X12_stands_l87 v0 KF ((0 : Int32), e7) e10 (m9.full (m6.full (m3.full hn))) c11) fun pc2 ls2 st2 h2 hg m12 => ?_
  obtain ⟨rfl, rfl, rfl, rfl⟩ := hg
  refine x_iconst (q := 115) (v := (0 : Int32)) dX12_stands_114 rfl (by decide) ?_
  refine x_istore_n (q := 116) (i := 1) (ls2 := [(1, .int (0 : Int32)), (0, .ref v0)]) dX12_stands_115 rfl rfl (by decide) rfl ?_
  refine x_sub (ls2 := [(0, .ref v0), (1, .int (0 : Int32))]) [1, 0] rfl ?_
  replace H := kbe H; obtain ⟨e13, c14, H⟩ := H
  refine x_app (sl_X12_stands_l116 v0 KF ((0 : Int32), e10) e13 (m12.full (m9.full (m6.full (m3.full hn)))) c14) fun pc2 ls2 st2 h2 hg m15 => ?_
  obtain ⟨rfl, rfl, rfl, rfl⟩ := hg
  refine x_iconst (q := 144) (v := (0 : Int32)) dX12_stands_143 rfl (by decide) ?_
  refine x_istore_n (q := 145) (i := 1) (ls2 := [(1, .int (0 : Int32)), (0, .ref v0)]) dX12_stands_144 rfl rfl (by decide) rfl ?_
  refine x_sub (ls2 := [(0, .ref v0), (1, .int (0 : Int32))]) [1, 0] rfl ?_
  replace H := kbe H; obtain ⟨e16, c17, H⟩ := H
  refine x_app (sl_X12_stands_l145 v0 KF ((0 : Int32), e13) e16 (m15.full (m12.full (m9.full (m6.full (m3.full hn))))) c17) fun pc2 ls2 st2 h2 hg m18 => ?_
  obtain ⟨rfl, rfl, rfl, rfl⟩ := hg
  refine x_aload_n (q := 171) dX12_stands_170 rfl rfl ?_
  replace H := kif H; obtain ⟨g19, H⟩ := H
  replace H := kif H; obtain ⟨g20, H⟩ := H
  refine x_getR (q := 174) dX12_stands_171 rfl kl_RX12_106 rfl (k243 g19 (by decide) (m18.full (m15.full (m12.full (m9.full (m6.full (m3.full hn))))))) g20 ?_
  refine x_iconst (q := 175) (v := (1 : Int32)) dX12_stands_174 rfl (by decide) ?_
  refine x_aload_n (q := 176) dX12_stands_175 rfl rfl ?_
  refine x_getR (q := 179) dX12_stands_176 rfl kl_RX12_106 rfl (k243 g19 (by decide) (m18.full (m15.full (m12.full (m9.full (m6.full (m3.full hn))))))) g20 ?_
  refine x_iconst (q := 180) (v := (0 : Int32)) dX12_stands_179 rfl (by decide) ?_
  replace H := kif H; obtain ⟨g21, H⟩ := H
  replace H := kifn H; obtain ⟨g22, H⟩ := H
  refine x_iald (q := 181) dX12_stands_180 rfl (k243 g21 (by decide) (m18.full (m15.full (m12.full (m9.full (m6.full (m3.full hn))))))) (fun z => z.elim (by decide) g22) ?_
  replace H := kifn H; obtain ⟨g23, H⟩ := H
  replace H := kle H; obtain ⟨h24, q25, H⟩ := H
  refine x_iast (q := 182) dX12_stands_181 rfl (k243 g21 (by decide) (m18.full (m15.full (m12.full (m9.full (m6.full (m3.full hn))))))) (fun z => z.elim (by decide) g23) ?_
  refine x_nmH q25 ?_
  have n26 : h24.1 = 243 := by rw [q25]; exact (m18.full (m15.full (m12.full (m9.full (m6.full (m3.full hn))))))
  refine x_aload_n (q := 183) dX12_stands_182 rfl rfl ?_
  replace H := kif H; obtain ⟨g27, H⟩ := H
  refine x_getR (q := 186) dX12_stands_183 rfl kl_RX12_109 rfl (k243 g19 (by decide) n26) g27 ?_
  refine x_iconst (q := 187) (v := (1 : Int32)) dX12_stands_186 rfl (by decide) ?_
  refine x_aload_n (q := 188) dX12_stands_187 rfl rfl ?_
  refine x_getR (q := 191) dX12_stands_188 rfl kl_RX12_109 rfl (k243 g19 (by decide) n26) g27 ?_
  refine x_iconst (q := 192) (v := (0 : Int32)) dX12_stands_191 rfl (by decide) ?_
  replace H := kif H; obtain ⟨g28, H⟩ := H
  replace H := kifn H; obtain ⟨g29, H⟩ := H
  refine x_iald (q := 193) dX12_stands_192 rfl (k243 g28 (by decide) n26) (fun z => z.elim (by decide) g29) ?_
  replace H := kifn H; obtain ⟨g30, H⟩ := H
  replace H := kle H; obtain ⟨h31, q32, H⟩ := H
  refine x_iast (q := 194) dX12_stands_193 rfl (k243 g28 (by decide) n26) (fun z => z.elim (by decide) g30) ?_
  refine x_nmH q32 ?_
  have n33 : h31.1 = 243 := by rw [q32]; exact n26
  refine x_iconst (q := 195) (v := (0 : Int32)) dX12_stands_194 rfl (by decide) ?_
  refine x_istore_n (q := 196) (i := 1) (ls2 := [(1, .int (0 : Int32)), (0, .ref v0)]) dX12_stands_195 rfl rfl (by decide) rfl ?_
  refine x_sub (ls2 := [(0, .ref v0), (1, .int (0 : Int32))]) [1, 0] rfl ?_
  replace H := kbe H; obtain ⟨e34, c35, H⟩ := H
  refine x_app (sl_X12_stands_l196 v0 KF ((0 : Int32), h31) e34 n33 c35) fun pc2 ls2 st2 h2 hg m36 => ?_
  obtain ⟨rfl, rfl, rfl, rfl⟩ := hg
  refine x_iconst (q := 227) (v := (0 : Int32)) dX12_stands_226 rfl (by decide) ?_
  refine x_istore_n (q := 228) (i := 1) (ls2 := [(1, .int (0 : Int32)), (0, .ref v0)]) dX12_stands_227 rfl rfl (by decide) rfl ?_
  refine x_sub (ls2 := [(0, .ref v0), (1, .int (0 : Int32))]) [1, 0] rfl ?_
  replace H := kbe H; obtain ⟨e37, c38, H⟩ := H
  refine x_app (sl_X12_stands_l228 v0 KF ((0 : Int32), e34) e37 (m36.full n33) c38) fun pc2 ls2 st2 h2 hg m39 => ?_
  obtain ⟨rfl, rfl, rfl, rfl⟩ := hg
  refine x_aload_n (q := 249) dX12_stands_248 rfl rfl ?_
  refine x_iconst (q := 250) (v := (0 : Int32)) dX12_stands_249 rfl (by decide) ?_
  replace H := kle H; obtain ⟨h40, q41, H⟩ := H
  refine x_putI (q := 253) dX12_stands_250 rfl kl_RX12_358 (Or.inl rfl) rfl (k243 g19 (by decide) (m39.full (m36.full n33))) ?_
  refine x_nmH q41 ?_
  have n42 : h40.1 = 243 := by rw [q41]; exact (m39.full (m36.full n33))
  refine x_aload_n (q := 254) dX12_stands_253 rfl rfl ?_
  refine x_iconst (q := 255) (v := (0 : Int32)) dX12_stands_254 rfl (by decide) ?_
  replace H := kle H; obtain ⟨h43, q44, H⟩ := H
  refine x_putI (q := 258) dX12_stands_255 rfl kl_RX12_361 (Or.inl rfl) rfl (k243 g19 (by decide) n42) ?_
  refine x_nmH q44 ?_
  have n45 : h43.1 = 243 := by rw [q44]; exact n42
  cases H
  exact x_end ⟨dX12_stands_258, rfl, rfl⟩
theorem s_X12_stands {Z : Nat → (Nat → Nat) → State → Prop} (h : KH) (v0 : Nat) {t : KH} (hn : h.1 = 243) (H : f_X12_stands h v0 = some t) : KM Z yX12_stands cX12_stands 2 none 1 [.ref v0] h none t :=
  kx_v (own := RX12) (ini := false) (by decide +kernel) (by decide +kernel) rfl (Nat.le_of_ble_eq_true rfl) (s0_X12_stands h v0 hn H)
theorem dX12_court_0 : decode cX12_court 0 = .ok (.aload_n 0, 1) := by decide +kernel
theorem dX12_court_1 : decode cX12_court 1 = .ok (.aload_n 0, 1) := by decide +kernel
theorem dX12_court_2 : decode cX12_court 2 = .ok (.getfield 227, 3) := by decide +kernel
theorem dX12_court_5 : decode cX12_court 5 = .ok (.putfield 239, 3) := by decide +kernel
theorem dX12_court_8 : decode cX12_court 8 = .ok (.aload_n 0, 1) := by decide +kernel
theorem dX12_court_9 : decode cX12_court 9 = .ok (.iconst 0, 1) := by decide +kernel
theorem dX12_court_10 : decode cX12_court 10 = .ok (.putfield 227, 3) := by decide +kernel
theorem dX12_court_13 : decode cX12_court 13 = .ok (.aload_n 0, 1) := by decide +kernel
theorem dX12_court_14 : decode cX12_court 14 = .ok (.iconst 0, 1) := by decide +kernel
theorem dX12_court_15 : decode cX12_court 15 = .ok (.putfield 236, 3) := by decide +kernel
theorem dX12_court_18 : decode cX12_court 18 = .ok (.aload_n 0, 1) := by decide +kernel
theorem dX12_court_19 : decode cX12_court 19 = .ok (.iconst (-1), 1) := by decide +kernel
theorem dX12_court_20 : decode cX12_court 20 = .ok (.putfield 250, 3) := by decide +kernel
theorem dX12_court_23 : decode cX12_court 23 = .ok (.aload_n 0, 1) := by decide +kernel
theorem dX12_court_24 : decode cX12_court 24 = .ok (.iconst 0, 1) := by decide +kernel
theorem dX12_court_25 : decode cX12_court 25 = .ok (.putfield 230, 3) := by decide +kernel
theorem dX12_court_28 : decode cX12_court 28 = .ok (.aload_n 0, 1) := by decide +kernel
theorem dX12_court_29 : decode cX12_court 29 = .ok (.iconst (-1), 1) := by decide +kernel
theorem dX12_court_30 : decode cX12_court 30 = .ok (.putfield 233, 3) := by decide +kernel
theorem dX12_court_33 : decode cX12_court 33 = .ok (.aload_n 0, 1) := by decide +kernel
theorem dX12_court_34 : decode cX12_court 34 = .ok (.iconst 0, 1) := by decide +kernel
theorem dX12_court_35 : decode cX12_court 35 = .ok (.putfield 330, 3) := by decide +kernel
theorem dX12_court_38 : decode cX12_court 38 = .ok (.aload_n 0, 1) := by decide +kernel
theorem dX12_court_39 : decode cX12_court 39 = .ok (.iconst 0, 1) := by decide +kernel
theorem dX12_court_40 : decode cX12_court 40 = .ok (.putfield 327, 3) := by decide +kernel
theorem dX12_court_43 : decode cX12_court 43 = .ok (.iconst 0, 1) := by decide +kernel
theorem dX12_court_44 : decode cX12_court 44 = .ok (.istore_n 1, 1) := by decide +kernel
theorem dX12_court_45 : decode cX12_court 45 = .ok (.iload_n 1, 1) := by decide +kernel
theorem dX12_court_46 : decode cX12_court 46 = .ok (.iconst 3, 1) := by decide +kernel
theorem dX12_court_47 : decode cX12_court 47 = .ok (.if_icmp .ge 16, 3) := by decide +kernel
theorem dX12_court_50 : decode cX12_court 50 = .ok (.aload_n 0, 1) := by decide +kernel
theorem dX12_court_51 : decode cX12_court 51 = .ok (.getfield 87, 3) := by decide +kernel
theorem dX12_court_54 : decode cX12_court 54 = .ok (.iload_n 1, 1) := by decide +kernel
theorem dX12_court_55 : decode cX12_court 55 = .ok (.iconst 0, 1) := by decide +kernel
theorem dX12_court_56 : decode cX12_court 56 = .ok (.iastore, 1) := by decide +kernel
theorem dX12_court_57 : decode cX12_court 57 = .ok (.iinc 1 1, 3) := by decide +kernel
theorem dX12_court_60 : decode cX12_court 60 = .ok (.goto (-15), 3) := by decide +kernel
theorem dX12_court_63 : decode cX12_court 63 = .ok (.aload_n 0, 1) := by decide +kernel
theorem dX12_court_64 : decode cX12_court 64 = .ok (.getfield 103, 3) := by decide +kernel
theorem dX12_court_67 : decode cX12_court 67 = .ok (.iconst 0, 1) := by decide +kernel
theorem dX12_court_68 : decode cX12_court 68 = .ok (.bipush 50, 2) := by decide +kernel
theorem dX12_court_70 : decode cX12_court 70 = .ok (.iastore, 1) := by decide +kernel
theorem dX12_court_71 : decode cX12_court 71 = .ok (.aload_n 0, 1) := by decide +kernel
theorem dX12_court_72 : decode cX12_court 72 = .ok (.getfield 103, 3) := by decide +kernel
theorem dX12_court_75 : decode cX12_court 75 = .ok (.iconst 1, 1) := by decide +kernel
theorem dX12_court_76 : decode cX12_court 76 = .ok (.sipush 1000, 3) := by decide +kernel
theorem dX12_court_79 : decode cX12_court 79 = .ok (.iastore, 1) := by decide +kernel
theorem dX12_court_80 : decode cX12_court 80 = .ok (.aload_n 0, 1) := by decide +kernel
theorem dX12_court_81 : decode cX12_court 81 = .ok (.getfield 106, 3) := by decide +kernel
theorem dX12_court_84 : decode cX12_court 84 = .ok (.iconst 0, 1) := by decide +kernel
theorem dX12_court_85 : decode cX12_court 85 = .ok (.iconst (-1), 1) := by decide +kernel
theorem dX12_court_86 : decode cX12_court 86 = .ok (.iastore, 1) := by decide +kernel
theorem dX12_court_87 : decode cX12_court 87 = .ok (.aload_n 0, 1) := by decide +kernel
theorem dX12_court_88 : decode cX12_court 88 = .ok (.getfield 230, 3) := by decide +kernel
theorem dX12_court_91 : decode cX12_court 91 = .ok (.ifCond .ne 18, 3) := by decide +kernel
theorem dX12_court_94 : decode cX12_court 94 = .ok (.aload_n 0, 1) := by decide +kernel
theorem dX12_court_95 : decode cX12_court 95 = .ok (.invokevirtual 242, 3) := by decide +kernel
theorem dX12_court_98 : decode cX12_court 98 = .ok (.iconst (-1), 1) := by decide +kernel
theorem dX12_court_99 : decode cX12_court 99 = .ok (.if_icmp .eq 10, 3) := by decide +kernel
theorem dX12_court_102 : decode cX12_court 102 = .ok (.aload_n 0, 1) := by decide +kernel
theorem dX12_court_103 : decode cX12_court 103 = .ok (.invokevirtual 349, 3) := by decide +kernel
theorem dX12_court_106 : decode cX12_court 106 = .ok (.goto (-19), 3) := by decide +kernel
theorem dX12_court_109 : decode cX12_court 109 = .ok (.aload_n 0, 1) := by decide +kernel
theorem dX12_court_110 : decode cX12_court 110 = .ok (.aload_n 0, 1) := by decide +kernel
theorem dX12_court_111 : decode cX12_court 111 = .ok (.getfield 230, 3) := by decide +kernel
theorem dX12_court_114 : decode cX12_court 114 = .ok (.putfield 352, 3) := by decide +kernel
theorem dX12_court_117 : decode cX12_court 117 = .ok (.aload_n 0, 1) := by decide +kernel
theorem dX12_court_118 : decode cX12_court 118 = .ok (.aload_n 0, 1) := by decide +kernel
theorem dX12_court_119 : decode cX12_court 119 = .ok (.getfield 233, 3) := by decide +kernel
theorem dX12_court_122 : decode cX12_court 122 = .ok (.putfield 13, 3) := by decide +kernel
theorem dX12_court_125 : decode cX12_court 125 = .ok (.aload_n 0, 1) := by decide +kernel
theorem dX12_court_126 : decode cX12_court 126 = .ok (.getfield 230, 3) := by decide +kernel
theorem dX12_court_129 : decode cX12_court 129 = .ok (.ifCond .eq 15, 3) := by decide +kernel
theorem dX12_court_132 : decode cX12_court 132 = .ok (.aload_n 0, 1) := by decide +kernel
theorem dX12_court_133 : decode cX12_court 133 = .ok (.getfield 17, 3) := by decide +kernel
theorem dX12_court_136 : decode cX12_court 136 = .ok (.iconst 1, 1) := by decide +kernel
theorem dX12_court_137 : decode cX12_court 137 = .ok (.dup2, 1) := by decide +kernel
theorem dX12_court_138 : decode cX12_court 138 = .ok (.iaload, 1) := by decide +kernel
theorem dX12_court_139 : decode cX12_court 139 = .ok (.iconst 1, 1) := by decide +kernel
theorem dX12_court_140 : decode cX12_court 140 = .ok (.iadd, 1) := by decide +kernel
theorem dX12_court_141 : decode cX12_court 141 = .ok (.iastore, 1) := by decide +kernel
theorem dX12_court_142 : decode cX12_court 142 = .ok (.iconst (-1), 1) := by decide +kernel
theorem dX12_court_143 : decode cX12_court 143 = .ok (.ireturn, 1) := by decide +kernel
theorem dX12_court_144 : decode cX12_court 144 = .ok (.aload_n 0, 1) := by decide +kernel
theorem dX12_court_145 : decode cX12_court 145 = .ok (.invokevirtual 355, 3) := by decide +kernel
theorem dX12_court_148 : decode cX12_court 148 = .ok (.aload_n 0, 1) := by decide +kernel
theorem dX12_court_149 : decode cX12_court 149 = .ok (.getfield 330, 3) := by decide +kernel
theorem dX12_court_152 : decode cX12_court 152 = .ok (.ireturn, 1) := by decide +kernel
theorem kc_RX12_349 : Cond.methodLink RX12 349 yX12_statementTold ∈ ktG ∧ (Cond.instanceMethod yX12_statementTold ∈ ktG ∧ Cond.selects yX12_statementTold.cls yX12_statementTold yX12_statementTold ∈ ktG) ∧ Cond.initialized yX12_statementTold.cls ∈ ktG ∧ Cond.code yX12_statementTold cX12_statementTold 2 none ∈ ktG := ⟨(kwm 1506 (by decide +kernel) (by decide +kernel)), ⟨(kwm 1508 (by decide +kernel) (by decide +kernel)), (kwm 37 (by decide +kernel) (by decide +kernel))⟩, (kwm 139 (by decide +kernel) (by decide +kernel)), kwm 1509 (by decide +kernel) (by decide +kernel)⟩
theorem kh_X12_statementTold : yX12_statementTold.cls ≠ "java/lang/invoke/MethodHandle" ∧ yX12_statementTold.cls ≠ "java/lang/invoke/VarHandle" ∧ (parseMethodDescriptor yX12_statementTold.desc).map (fun d => d.parameters.length) = some 0 := by decide +kernel
theorem kl_RX12_352 : KLk RX12 352 12 7 := ⟨RX12, TX12, 97, rfl, by decide, Or.inl (kwm 1204 (by decide +kernel) (by decide +kernel))⟩
theorem kl_RX12_13 : KLk RX12 13 12 8 := ⟨RX12, TX12, 97, rfl, by decide, Or.inl (kwm 1205 (by decide +kernel) (by decide +kernel))⟩
theorem kc_RX12_355 : Cond.methodLink RX12 355 yX12_stands ∈ ktG ∧ (Cond.instanceMethod yX12_stands ∈ ktG ∧ Cond.selects yX12_stands.cls yX12_stands yX12_stands ∈ ktG) ∧ Cond.initialized yX12_stands.cls ∈ ktG ∧ Cond.code yX12_stands cX12_stands 2 none ∈ ktG := ⟨(kwm 1664 (by decide +kernel) (by decide +kernel)), ⟨(kwm 1666 (by decide +kernel) (by decide +kernel)), (kwm 73 (by decide +kernel) (by decide +kernel))⟩, (kwm 139 (by decide +kernel) (by decide +kernel)), kwm 1667 (by decide +kernel) (by decide +kernel)⟩
theorem kh_X12_stands : yX12_stands.cls ≠ "java/lang/invoke/MethodHandle" ∧ yX12_stands.cls ≠ "java/lang/invoke/VarHandle" ∧ (parseMethodDescriptor yX12_stands.desc).map (fun d => d.parameters.length) = some 0 := by decide +kernel
def E_X12_court_l45 (v0 : Nat) : KH → Nat → List (Nat × Value) → List Value → KH → Prop := fun (e : KH) pc ls st hh => pc = 63 ∧ ls = [(0, .ref v0)] ∧ st = [] ∧ e = hh
def B_X12_court_l45 (v0 : Nat) : ((Int32 × KH) ⊕ (KH)) → Nat → List (Nat × Value) → List Value → KH → Prop := Sum.elim (fun (s : Int32 × KH) pc ls st hh => pc = 45 ∧ ls = [(0, .ref v0), (1, .int s.1)] ∧ st = [] ∧ hh = s.2) (E_X12_court_l45 v0)
def f_X12_court_l45 (v0 : Nat) (s : Int32 × KH) : Option ((Int32 × KH) ⊕ (KH)) :=
  if (3 : Int32) ≤ s.1 then
  some (.inr s.2)
  else
  if kkind v0 = 12 then if (kR s.2 v0 33) < 999999 then if kkind (kR s.2 v0 33) = 20 then if (s.1 < 0 ∨ klen (kR s.2 v0 33) ≤ (s.1).toNatClampNeg) then none else kl (ksI s.2 (kR s.2 v0 33) ((s.1).toNatClampNeg) (0 : Int32)) fun h6 =>
  kl (s.1 + (1 : Int32)) fun x9 =>
  some (.inl (x9, h6)) else none else none else none
set_option maxHeartbeats 4000000 in
set_option maxRecDepth 100000 in
theorem s_X12_court_l45 {Z : Nat → (Nat → Nat) → State → Prop} (v0 : Nat) (s : Int32 × KH) (t : (Int32 × KH) ⊕ (KH)) (hn : (s.2).1 = 243) (H : f_X12_court_l45 v0 s = some t) : KX Z RX12 cX12_court 2 false 12 (B_X12_court_l45 v0 t) 45 [(0, .ref v0), (1, .int s.1)] [] s.2 := by
  unfold f_X12_court_l45 at H
  refine x_iload_n (q := 46) dX12_court_45 rfl rfl ?_
  refine x_iconst (q := 47) (v := (3 : Int32)) dX12_court_46 rfl (by decide) ?_
  replace H := kite H; rcases H with ⟨g1, H⟩ | ⟨g1, H⟩
  · refine x_icmp_ge_t dX12_court_47 (q := 63) (by decide) g1 ?_
    cases H
    refine x_sub (ls2 := [(0, .ref v0)]) [0] rfl ?_
    exact x_end (x_cfg rfl)
  · refine x_icmp_ge_f (q := 50) dX12_court_47 (t := 63) (by decide) rfl g1 ?_
    refine x_aload_n (q := 51) dX12_court_50 rfl rfl ?_
    replace H := kif H; obtain ⟨g2, H⟩ := H
    replace H := kif H; obtain ⟨g3, H⟩ := H
    refine x_getR (q := 54) dX12_court_51 rfl kl_RX12_87 rfl (k243 g2 (by decide) hn) g3 ?_
    refine x_iload_n (q := 55) dX12_court_54 rfl rfl ?_
    refine x_iconst (q := 56) (v := (0 : Int32)) dX12_court_55 rfl (by decide) ?_
    replace H := kif H; obtain ⟨g4, H⟩ := H
    replace H := kifn H; obtain ⟨g5, H⟩ := H
    replace H := kle H; obtain ⟨h6, q7, H⟩ := H
    refine x_iast (q := 57) dX12_court_56 rfl (k243 g4 (by decide) hn) g5 ?_
    refine x_nmH q7 ?_
    have n8 : h6.1 = 243 := by rw [q7]; exact hn
    replace H := kle H; obtain ⟨x9, q10, H⟩ := H
    refine x_iinc (q := 60) (i := 1) (ls2 := [(1, .int x9), (0, .ref v0)]) dX12_court_57 rfl rfl (by decide) (by rw [q10]; rfl) ?_
    refine x_goto dX12_court_60 (q := 45) (by decide) ?_
    cases H
    refine x_sub (ls2 := [(0, .ref v0), (1, .int x9)]) [1, 0] rfl ?_
    exact x_end (x_cfg rfl)
theorem sl_X12_court_l45 {Z : Nat → (Nat → Nat) → State → Prop} (v0 : Nat) (n : Nat) (s : Int32 × KH) (r : KH) (hn : (s.2).1 = 243) (H : kloop (f_X12_court_l45 v0) n s = some r) : KX Z RX12 cX12_court 2 false 12 (E_X12_court_l45 v0 r) 45 [(0, .ref v0), (1, .int s.1)] [] s.2 :=
  k_loop (ls := (fun (s : Int32 × KH) => ([(0, .ref v0), (1, .int s.1)] : List (Nat × Value)))) (hp := (fun (s : Int32 × KH) => (s.2 : KH))) (G := E_X12_court_l45 v0) (fun s t hn H => s_X12_court_l45 v0 s t hn H) n s r hn H
def E_X12_court_l87 (v0 : Nat) : KH → Nat → List (Nat × Value) → List Value → KH → Prop := fun (e : KH) pc ls st hh => pc = 109 ∧ ls = [(0, .ref v0)] ∧ st = [] ∧ e = hh
def B_X12_court_l87 (v0 : Nat) : ((KH) ⊕ (KH)) → Nat → List (Nat × Value) → List Value → KH → Prop := Sum.elim (fun (s : KH) pc ls st hh => pc = 87 ∧ ls = [(0, .ref v0)] ∧ st = [] ∧ hh = s) (E_X12_court_l87 v0)
def f_X12_court_l87 (v0 : Nat) (s : KH) : Option ((KH) ⊕ (KH)) :=
  if kkind v0 = 12 then if (kI s v0 5) = 0 then
  kb (f_X12_look0 s v0) fun r3 =>
  if r3.1 = (-1 : Int32) then
  some (.inr r3.2)
  else
  kb (f_X12_statementTold r3.2 v0) fun r8 =>
  some (.inl r8)
  else
  some (.inr s) else none
set_option maxHeartbeats 4000000 in
set_option maxRecDepth 100000 in
theorem s_X12_court_l87 {Z : Nat → (Nat → Nat) → State → Prop} (v0 : Nat) (s : KH) (t : (KH) ⊕ (KH)) (hn : (s).1 = 243) (H : f_X12_court_l87 v0 s = some t) : KX Z RX12 cX12_court 2 false 12 (B_X12_court_l87 v0 t) 87 [(0, .ref v0)] [] s := by
  unfold f_X12_court_l87 at H
  refine x_aload_n (q := 88) dX12_court_87 rfl rfl ?_
  replace H := kif H; obtain ⟨g1, H⟩ := H
  refine x_getI (q := 91) dX12_court_88 rfl kl_RX12_230 (Or.inl rfl) (k243 g1 (by decide) hn) ?_
  replace H := kite H; rcases H with ⟨g2, H⟩ | ⟨g2, H⟩
  · refine x_if_ne_f (q := 94) dX12_court_91 (t := 109) (by decide) rfl g2 ?_
    refine x_aload_n (q := 95) dX12_court_94 rfl rfl ?_
    replace H := kbe H; obtain ⟨r3, c4, H⟩ := H
    have m5 := s_X12_look0 (Z := Z) s v0 hn c4
    refine x_callV (q := 98) (as := []) (rest := []) dX12_court_95 rfl kc_RX12_242 kh_X12_look0 (by decide) (Nat.le_of_ble_eq_true rfl) m5 (ci := 12) (by exact ⟨rfl, by decide⟩) (k243 g1 (by decide) hn) ?_
    have n6 : (r3.2).1 = 243 := m5.1.full hn
    refine x_iconst (q := 99) (v := (-1 : Int32)) dX12_court_98 rfl (by decide) ?_
    replace H := kite H; rcases H with ⟨g7, H⟩ | ⟨g7, H⟩
    · refine x_icmp_eq_t dX12_court_99 (q := 109) (by decide) g7 ?_
      cases H
      refine x_sub (ls2 := [(0, .ref v0)]) [0] rfl ?_
      exact x_end (x_cfg rfl)
    · refine x_icmp_eq_f (q := 102) dX12_court_99 (t := 109) (by decide) rfl g7 ?_
      refine x_aload_n (q := 103) dX12_court_102 rfl rfl ?_
      replace H := kbe H; obtain ⟨r8, c9, H⟩ := H
      have m10 := s_X12_statementTold (Z := Z) r3.2 v0 n6 c9
      refine x_callV (q := 106) (as := []) (rest := []) dX12_court_103 rfl kc_RX12_349 kh_X12_statementTold (by decide) (Nat.le_of_ble_eq_true rfl) m10 (ci := 12) (by exact ⟨rfl, by decide⟩) (k243 g1 (by decide) n6) ?_
      have n11 : (r8).1 = 243 := m10.1.full n6
      refine x_goto dX12_court_106 (q := 87) (by decide) ?_
      cases H
      refine x_sub (ls2 := [(0, .ref v0)]) [0] rfl ?_
      exact x_end (x_cfg rfl)
  · refine x_if_ne_t dX12_court_91 (q := 109) (by decide) g2 ?_
    cases H
    refine x_sub (ls2 := [(0, .ref v0)]) [0] rfl ?_
    exact x_end (x_cfg rfl)
theorem sl_X12_court_l87 {Z : Nat → (Nat → Nat) → State → Prop} (v0 : Nat) (n : Nat) (s : KH) (r : KH) (hn : (s).1 = 243) (H : kloop (f_X12_court_l87 v0) n s = some r) : KX Z RX12 cX12_court 2 false 12 (E_X12_court_l87 v0 r) 87 [(0, .ref v0)] [] s :=
  k_loop (ls := (fun (s : KH) => ([(0, .ref v0)] : List (Nat × Value)))) (hp := (fun (s : KH) => (s : KH))) (G := E_X12_court_l87 v0) (fun s t hn H => s_X12_court_l87 v0 s t hn H) n s r hn H
def f_X12_court_b109 (h : KH) (v0 : Nat) : Option (Int32 × KH) :=
  if kkind v0 = 12 then kl (ksI h v0 7 (kI h v0 5)) fun h2 =>
  kl (ksI h2 v0 8 (kI h2 v0 6)) fun h5 =>
  if (kI h5 v0 5) = 0 then
  kb (f_X12_stands h5 v0) fun r9 =>
  some ((kI r9 v0 43), r9)
  else
  if (kR h5 v0 9) < 999999 then if kkind (kR h5 v0 9) = 20 then if klen (kR h5 v0 9) ≤ 1 then none else kl (ksI h5 (kR h5 v0 9) 1 ((kI h5 (kR h5 v0 9) 1) + (1 : Int32))) fun h16 =>
  some ((-1 : Int32), h16) else none else none else none
set_option maxHeartbeats 4000000 in
set_option maxRecDepth 100000 in
theorem s_X12_court_b109 {Z : Nat → (Nat → Nat) → State → Prop} (h : KH) (v0 : Nat) {t : Int32 × KH} (hn : h.1 = 243) (H : f_X12_court_b109 h v0 = some t) : KX Z RX12 cX12_court 2 false 12 (KRi cX12_court t.1 t.2) 109 [(0, .ref v0)] [] h := by
  unfold f_X12_court_b109 at H
  refine x_aload_n (q := 110) dX12_court_109 rfl rfl ?_
  refine x_aload_n (q := 111) dX12_court_110 rfl rfl ?_
  replace H := kif H; obtain ⟨g1, H⟩ := H
  refine x_getI (q := 114) dX12_court_111 rfl kl_RX12_230 (Or.inl rfl) (k243 g1 (by decide) hn) ?_
  replace H := kle H; obtain ⟨h2, q3, H⟩ := H
  refine x_putI (q := 117) dX12_court_114 rfl kl_RX12_352 (Or.inl rfl) rfl (k243 g1 (by decide) hn) ?_
  refine x_nmH q3 ?_
  have n4 : h2.1 = 243 := by rw [q3]; exact hn
  refine x_aload_n (q := 118) dX12_court_117 rfl rfl ?_
  refine x_aload_n (q := 119) dX12_court_118 rfl rfl ?_
  refine x_getI (q := 122) dX12_court_119 rfl kl_RX12_233 (Or.inl rfl) (k243 g1 (by decide) n4) ?_
  replace H := kle H; obtain ⟨h5, q6, H⟩ := H
  refine x_putI (q := 125) dX12_court_122 rfl kl_RX12_13 (Or.inl rfl) rfl (k243 g1 (by decide) n4) ?_
  refine x_nmH q6 ?_
  have n7 : h5.1 = 243 := by rw [q6]; exact n4
  refine x_aload_n (q := 126) dX12_court_125 rfl rfl ?_
  refine x_getI (q := 129) dX12_court_126 rfl kl_RX12_230 (Or.inl rfl) (k243 g1 (by decide) n7) ?_
  replace H := kite H; rcases H with ⟨g8, H⟩ | ⟨g8, H⟩
  · refine x_if_eq_t dX12_court_129 (q := 144) (by decide) g8 ?_
    refine x_aload_n (q := 145) dX12_court_144 rfl rfl ?_
    replace H := kbe H; obtain ⟨r9, c10, H⟩ := H
    have m11 := s_X12_stands (Z := Z) h5 v0 n7 c10
    refine x_callV (q := 148) (as := []) (rest := []) dX12_court_145 rfl kc_RX12_355 kh_X12_stands (by decide) (Nat.le_of_ble_eq_true rfl) m11 (ci := 12) (by exact ⟨rfl, by decide⟩) (k243 g1 (by decide) n7) ?_
    have n12 : (r9).1 = 243 := m11.1.full n7
    refine x_aload_n (q := 149) dX12_court_148 rfl rfl ?_
    refine x_getI (q := 152) dX12_court_149 rfl kl_RX12_330 (Or.inl rfl) (k243 g1 (by decide) n12) ?_
    cases H
    exact x_end ⟨dX12_court_152, rfl, rfl⟩
  · refine x_if_eq_f (q := 132) dX12_court_129 (t := 144) (by decide) rfl g8 ?_
    refine x_aload_n (q := 133) dX12_court_132 rfl rfl ?_
    replace H := kif H; obtain ⟨g13, H⟩ := H
    refine x_getR (q := 136) dX12_court_133 rfl kl_RX12_17 rfl (k243 g1 (by decide) n7) g13 ?_
    refine x_iconst (q := 137) (v := (1 : Int32)) dX12_court_136 rfl (by decide) ?_
    refine x_dup2 (q := 138) dX12_court_137 rfl ⟨rfl, rfl⟩ ?_
    replace H := kif H; obtain ⟨g14, H⟩ := H
    replace H := kifn H; obtain ⟨g15, H⟩ := H
    refine x_iald (q := 139) dX12_court_138 rfl (k243 g14 (by decide) n7) (fun z => z.elim (by decide) g15) ?_
    refine x_iconst (q := 140) (v := (1 : Int32)) dX12_court_139 rfl (by decide) ?_
    refine x_iadd (q := 141) dX12_court_140 rfl ?_
    replace H := kle H; obtain ⟨h16, q17, H⟩ := H
    refine x_iast (q := 142) dX12_court_141 rfl (k243 g14 (by decide) n7) (fun z => z.elim (by decide) g15) ?_
    refine x_nmH q17 ?_
    have n18 : h16.1 = 243 := by rw [q17]; exact n7
    refine x_iconst (q := 143) (v := (-1 : Int32)) dX12_court_142 rfl (by decide) ?_
    cases H
    exact x_end ⟨dX12_court_143, rfl, rfl⟩
def f_X12_court (h : KH) (v0 : Nat) : Option (Int32 × KH) :=
  if kkind v0 = 12 then kl (ksI h v0 3 (kI h v0 1)) fun h2 =>
  kl (ksI h2 v0 1 (0 : Int32)) fun h5 =>
  kl (ksI h5 v0 2 (0 : Int32)) fun h8 =>
  kl (ksI h8 v0 4 (-1 : Int32)) fun h11 =>
  kl (ksI h11 v0 5 (0 : Int32)) fun h14 =>
  kl (ksI h14 v0 6 (-1 : Int32)) fun h17 =>
  kl (ksI h17 v0 43 (0 : Int32)) fun h20 =>
  kl (ksI h20 v0 42 (0 : Int32)) fun h23 =>
  kb (kloop (f_X12_court_l45 v0) KF ((0 : Int32), h23)) fun e26 =>
  if (kR e26 v0 38) < 999999 then if kkind (kR e26 v0 38) = 20 then if klen (kR e26 v0 38) ≤ 0 then none else kl (ksI e26 (kR e26 v0 38) 0 (50 : Int32)) fun h32 =>
  if (kR h32 v0 38) < 999999 then if kkind (kR h32 v0 38) = 20 then if klen (kR h32 v0 38) ≤ 1 then none else kl (ksI h32 (kR h32 v0 38) 1 (1000 : Int32)) fun h38 =>
  if (kR h38 v0 39) < 999999 then if kkind (kR h38 v0 39) = 20 then if klen (kR h38 v0 39) ≤ 0 then none else kl (ksI h38 (kR h38 v0 39) 0 (-1 : Int32)) fun h44 =>
  kb (kloop (f_X12_court_l87 v0) KF h44) fun e47 =>
  f_X12_court_b109 e47 v0 else none else none else none else none else none else none else none
set_option maxHeartbeats 4000000 in
set_option maxRecDepth 100000 in
theorem s0_X12_court {Z : Nat → (Nat → Nat) → State → Prop} (h : KH) (v0 : Nat) {t : Int32 × KH} (hn : h.1 = 243) (H : f_X12_court h v0 = some t) : KX Z RX12 cX12_court 2 false 12 (KRi cX12_court t.1 t.2) 0 [(0, .ref v0)] [] h := by
  unfold f_X12_court at H
  refine x_aload_n (q := 1) dX12_court_0 rfl rfl ?_
  refine x_aload_n (q := 2) dX12_court_1 rfl rfl ?_
  replace H := kif H; obtain ⟨g1, H⟩ := H
  refine x_getI (q := 5) dX12_court_2 rfl kl_RX12_227 (Or.inl rfl) (k243 g1 (by decide) hn) ?_
  replace H := kle H; obtain ⟨h2, q3, H⟩ := H
  refine x_putI (q := 8) dX12_court_5 rfl kl_RX12_239 (Or.inl rfl) rfl (k243 g1 (by decide) hn) ?_
  refine x_nmH q3 ?_
  have n4 : h2.1 = 243 := by rw [q3]; exact hn
  refine x_aload_n (q := 9) dX12_court_8 rfl rfl ?_
  refine x_iconst (q := 10) (v := (0 : Int32)) dX12_court_9 rfl (by decide) ?_
  replace H := kle H; obtain ⟨h5, q6, H⟩ := H
  refine x_putI (q := 13) dX12_court_10 rfl kl_RX12_227 (Or.inl rfl) rfl (k243 g1 (by decide) n4) ?_
  refine x_nmH q6 ?_
  have n7 : h5.1 = 243 := by rw [q6]; exact n4
  refine x_aload_n (q := 14) dX12_court_13 rfl rfl ?_
  refine x_iconst (q := 15) (v := (0 : Int32)) dX12_court_14 rfl (by decide) ?_
  replace H := kle H; obtain ⟨h8, q9, H⟩ := H
  refine x_putI (q := 18) dX12_court_15 rfl kl_RX12_236 (Or.inl rfl) rfl (k243 g1 (by decide) n7) ?_
  refine x_nmH q9 ?_
  have n10 : h8.1 = 243 := by rw [q9]; exact n7
  refine x_aload_n (q := 19) dX12_court_18 rfl rfl ?_
  refine x_iconst (q := 20) (v := (-1 : Int32)) dX12_court_19 rfl (by decide) ?_
  replace H := kle H; obtain ⟨h11, q12, H⟩ := H
  refine x_putI (q := 23) dX12_court_20 rfl kl_RX12_250 (Or.inl rfl) rfl (k243 g1 (by decide) n10) ?_
  refine x_nmH q12 ?_
  have n13 : h11.1 = 243 := by rw [q12]; exact n10
  refine x_aload_n (q := 24) dX12_court_23 rfl rfl ?_
  refine x_iconst (q := 25) (v := (0 : Int32)) dX12_court_24 rfl (by decide) ?_
  replace H := kle H; obtain ⟨h14, q15, H⟩ := H
  refine x_putI (q := 28) dX12_court_25 rfl kl_RX12_230 (Or.inl rfl) rfl (k243 g1 (by decide) n13) ?_
  refine x_nmH q15 ?_
  have n16 : h14.1 = 243 := by rw [q15]; exact n13
  refine x_aload_n (q := 29) dX12_court_28 rfl rfl ?_
  refine x_iconst (q := 30) (v := (-1 : Int32)) dX12_court_29 rfl (by decide) ?_
  replace H := kle H; obtain ⟨h17, q18, H⟩ := H
  refine x_putI (q := 33) dX12_court_30 rfl kl_RX12_233 (Or.inl rfl) rfl (k243 g1 (by decide) n16) ?_
  refine x_nmH q18 ?_
  have n19 : h17.1 = 243 := by rw [q18]; exact n16
  refine x_aload_n (q := 34) dX12_court_33 rfl rfl ?_
  refine x_iconst (q := 35) (v := (0 : Int32)) dX12_court_34 rfl (by decide) ?_
  replace H := kle H; obtain ⟨h20, q21, H⟩ := H
  refine x_putI (q := 38) dX12_court_35 rfl kl_RX12_330 (Or.inl rfl) rfl (k243 g1 (by decide) n19) ?_
  refine x_nmH q21 ?_
  have n22 : h20.1 = 243 := by rw [q21]; exact n19
  refine x_aload_n (q := 39) dX12_court_38 rfl rfl ?_
  refine x_iconst (q := 40) (v := (0 : Int32)) dX12_court_39 rfl (by decide) ?_
  replace H := kle H; obtain ⟨h23, q24, H⟩ := H
  refine x_putI (q := 43) dX12_court_40 rfl kl_RX12_327 (Or.inl rfl) rfl (k243 g1 (by decide) n22) ?_
  refine x_nmH q24 ?_
  have n25 : h23.1 = 243 := by rw [q24]; exact n22
  refine x_iconst (q := 44) (v := (0 : Int32)) dX12_court_43 rfl (by decide) ?_
  refine x_istore_n (q := 45) (i := 1) (ls2 := [(1, .int (0 : Int32)), (0, .ref v0)]) dX12_court_44 rfl rfl (by decide) rfl ?_
  refine x_sub (ls2 := [(0, .ref v0), (1, .int (0 : Int32))]) [1, 0] rfl ?_
  replace H := kbe H; obtain ⟨e26, c27, H⟩ := H
  refine x_app (sl_X12_court_l45 v0 KF ((0 : Int32), h23) e26 n25 c27) fun pc2 ls2 st2 h2 hg m28 => ?_
  obtain ⟨rfl, rfl, rfl, rfl⟩ := hg
  refine x_aload_n (q := 64) dX12_court_63 rfl rfl ?_
  replace H := kif H; obtain ⟨g29, H⟩ := H
  refine x_getR (q := 67) dX12_court_64 rfl kl_RX12_103 rfl (k243 g1 (by decide) (m28.full n25)) g29 ?_
  refine x_iconst (q := 68) (v := (0 : Int32)) dX12_court_67 rfl (by decide) ?_
  refine x_bipush (q := 70) (v := (50 : Int32)) dX12_court_68 rfl (by decide) ?_
  replace H := kif H; obtain ⟨g30, H⟩ := H
  replace H := kifn H; obtain ⟨g31, H⟩ := H
  replace H := kle H; obtain ⟨h32, q33, H⟩ := H
  refine x_iast (q := 71) dX12_court_70 rfl (k243 g30 (by decide) (m28.full n25)) (fun z => z.elim (by decide) g31) ?_
  refine x_nmH q33 ?_
  have n34 : h32.1 = 243 := by rw [q33]; exact (m28.full n25)
  refine x_aload_n (q := 72) dX12_court_71 rfl rfl ?_
  replace H := kif H; obtain ⟨g35, H⟩ := H
  refine x_getR (q := 75) dX12_court_72 rfl kl_RX12_103 rfl (k243 g1 (by decide) n34) g35 ?_
  refine x_iconst (q := 76) (v := (1 : Int32)) dX12_court_75 rfl (by decide) ?_
  refine x_sipush (q := 79) (v := (1000 : Int32)) dX12_court_76 rfl (by decide) ?_
  replace H := kif H; obtain ⟨g36, H⟩ := H
  replace H := kifn H; obtain ⟨g37, H⟩ := H
  replace H := kle H; obtain ⟨h38, q39, H⟩ := H
  refine x_iast (q := 80) dX12_court_79 rfl (k243 g36 (by decide) n34) (fun z => z.elim (by decide) g37) ?_
  refine x_nmH q39 ?_
  have n40 : h38.1 = 243 := by rw [q39]; exact n34
  refine x_aload_n (q := 81) dX12_court_80 rfl rfl ?_
  replace H := kif H; obtain ⟨g41, H⟩ := H
  refine x_getR (q := 84) dX12_court_81 rfl kl_RX12_106 rfl (k243 g1 (by decide) n40) g41 ?_
  refine x_iconst (q := 85) (v := (0 : Int32)) dX12_court_84 rfl (by decide) ?_
  refine x_iconst (q := 86) (v := (-1 : Int32)) dX12_court_85 rfl (by decide) ?_
  replace H := kif H; obtain ⟨g42, H⟩ := H
  replace H := kifn H; obtain ⟨g43, H⟩ := H
  replace H := kle H; obtain ⟨h44, q45, H⟩ := H
  refine x_iast (q := 87) dX12_court_86 rfl (k243 g42 (by decide) n40) (fun z => z.elim (by decide) g43) ?_
  refine x_nmH q45 ?_
  have n46 : h44.1 = 243 := by rw [q45]; exact n40
  refine x_sub (ls2 := [(0, .ref v0)]) [0] rfl ?_
  replace H := kbe H; obtain ⟨e47, c48, H⟩ := H
  refine x_app (sl_X12_court_l87 v0 KF h44 e47 n46 c48) fun pc2 ls2 st2 h2 hg m49 => ?_
  obtain ⟨rfl, rfl, rfl, rfl⟩ := hg
  refine x_sub (ls2 := [(0, .ref v0)]) [0] rfl ?_
  exact s_X12_court_b109 e47 v0 (m49.full n46) H
theorem s_X12_court {Z : Nat → (Nat → Nat) → State → Prop} (h : KH) (v0 : Nat) {t : Int32 × KH} (hn : h.1 = 243) (H : f_X12_court h v0 = some t) : KM Z yX12_court cX12_court 2 (some .int) 12 [.ref v0] h (some (.int t.1)) t.2 :=
  kx_i (own := RX12) (ini := false) (by decide +kernel) (by decide +kernel) rfl (Nat.le_of_ble_eq_true rfl) (s0_X12_court h v0 hn H)
theorem dX12_fault_0 : decode cX12_fault 0 = .ok (.iload_n 1, 1) := by decide +kernel
theorem dX12_fault_1 : decode cX12_fault 1 = .ok (.ifCond .ne 10, 3) := by decide +kernel
theorem dX12_fault_4 : decode cX12_fault 4 = .ok (.aload_n 0, 1) := by decide +kernel
theorem dX12_fault_5 : decode cX12_fault 5 = .ok (.getfield 352, 3) := by decide +kernel
theorem dX12_fault_8 : decode cX12_fault 8 = .ok (.goto 16, 3) := by decide +kernel
theorem dX12_fault_11 : decode cX12_fault 11 = .ok (.iload_n 1, 1) := by decide +kernel
theorem dX12_fault_12 : decode cX12_fault 12 = .ok (.iconst 1, 1) := by decide +kernel
theorem dX12_fault_13 : decode cX12_fault 13 = .ok (.if_icmp .ne 10, 3) := by decide +kernel
theorem dX12_fault_16 : decode cX12_fault 16 = .ok (.aload_n 0, 1) := by decide +kernel
theorem dX12_fault_17 : decode cX12_fault 17 = .ok (.getfield 13, 3) := by decide +kernel
theorem dX12_fault_20 : decode cX12_fault 20 = .ok (.goto 4, 3) := by decide +kernel
theorem dX12_fault_23 : decode cX12_fault 23 = .ok (.iconst (-1), 1) := by decide +kernel
theorem dX12_fault_24 : decode cX12_fault 24 = .ok (.ireturn, 1) := by decide +kernel
def f_X12_fault (h : KH) (v0 : Nat) (v1 : Int32) : Option (Int32) :=
  if v1 = 0 then
  if kkind v0 = 12 then some (kI h v0 7) else none
  else
  if v1 = (1 : Int32) then
  if kkind v0 = 12 then some (kI h v0 8) else none
  else
  some (-1 : Int32)
set_option maxHeartbeats 4000000 in
set_option maxRecDepth 100000 in
theorem s0_X12_fault {Z : Nat → (Nat → Nat) → State → Prop} (h : KH) (v0 : Nat) (v1 : Int32) {t : Int32} (hn : h.1 = 243) (H : f_X12_fault h v0 v1 = some t) : KX Z RX12 cX12_fault 2 false 1 (KRi cX12_fault t h) 0 [(0, .ref v0), (1, .int v1)] [] h := by
  unfold f_X12_fault at H
  refine x_iload_n (q := 1) dX12_fault_0 rfl rfl ?_
  replace H := kite H; rcases H with ⟨g1, H⟩ | ⟨g1, H⟩
  · refine x_if_ne_f (q := 4) dX12_fault_1 (t := 11) (by decide) rfl g1 ?_
    refine x_aload_n (q := 5) dX12_fault_4 rfl rfl ?_
    replace H := kif H; obtain ⟨g4, H⟩ := H
    refine x_getI (q := 8) dX12_fault_5 rfl kl_RX12_352 (Or.inl rfl) (k243 g4 (by decide) hn) ?_
    refine x_goto dX12_fault_8 (q := 24) (by decide) ?_
    cases H
    exact x_end ⟨dX12_fault_24, rfl, rfl⟩
  · refine x_if_ne_t dX12_fault_1 (q := 11) (by decide) g1 ?_
    refine x_iload_n (q := 12) dX12_fault_11 rfl rfl ?_
    refine x_iconst (q := 13) (v := (1 : Int32)) dX12_fault_12 rfl (by decide) ?_
    replace H := kite H; rcases H with ⟨g2, H⟩ | ⟨g2, H⟩
    · refine x_icmp_ne_f (q := 16) dX12_fault_13 (t := 23) (by decide) rfl g2 ?_
      refine x_aload_n (q := 17) dX12_fault_16 rfl rfl ?_
      replace H := kif H; obtain ⟨g3, H⟩ := H
      refine x_getI (q := 20) dX12_fault_17 rfl kl_RX12_13 (Or.inl rfl) (k243 g3 (by decide) hn) ?_
      refine x_goto dX12_fault_20 (q := 24) (by decide) ?_
      cases H
      exact x_end ⟨dX12_fault_24, rfl, rfl⟩
    · refine x_icmp_ne_t dX12_fault_13 (q := 23) (by decide) g2 ?_
      refine x_iconst (q := 24) (v := (-1 : Int32)) dX12_fault_23 rfl (by decide) ?_
      cases H
      exact x_end ⟨dX12_fault_24, rfl, rfl⟩
theorem s_X12_fault {Z : Nat → (Nat → Nat) → State → Prop} (h : KH) (v0 : Nat) (v1 : Int32) {t : Int32} (hn : h.1 = 243) (H : f_X12_fault h v0 v1 = some t) : KM Z yX12_fault cX12_fault 2 (some .int) 1 [.ref v0, .int v1] h (some (.int t)) h :=
  kx_i (own := RX12) (ini := false) (by decide +kernel) (by decide +kernel) rfl (Nat.le_of_ble_eq_true rfl) (s0_X12_fault h v0 v1 hn H)
theorem dX12_kindMany_0 : decode cX12_kindMany 0 = .ok (.aload_n 0, 1) := by decide +kernel
theorem dX12_kindMany_1 : decode cX12_kindMany 1 = .ok (.getfield 87, 3) := by decide +kernel
theorem dX12_kindMany_4 : decode cX12_kindMany 4 = .ok (.iconst 3, 1) := by decide +kernel
theorem dX12_kindMany_5 : decode cX12_kindMany 5 = .ok (.iaload, 1) := by decide +kernel
theorem dX12_kindMany_6 : decode cX12_kindMany 6 = .ok (.ireturn, 1) := by decide +kernel
def f_X12_kindMany (h : KH) (v0 : Nat) : Option (Int32) :=
  if kkind v0 = 12 then if (kR h v0 33) < 999999 then if kkind (kR h v0 33) = 20 then if klen (kR h v0 33) ≤ 3 then none else some (kI h (kR h v0 33) 3) else none else none else none
set_option maxHeartbeats 4000000 in
set_option maxRecDepth 100000 in
theorem s0_X12_kindMany {Z : Nat → (Nat → Nat) → State → Prop} (h : KH) (v0 : Nat) {t : Int32} (hn : h.1 = 243) (H : f_X12_kindMany h v0 = some t) : KX Z RX12 cX12_kindMany 1 false 1 (KRi cX12_kindMany t h) 0 [(0, .ref v0)] [] h := by
  unfold f_X12_kindMany at H
  refine x_aload_n (q := 1) dX12_kindMany_0 rfl rfl ?_
  replace H := kif H; obtain ⟨g1, H⟩ := H
  replace H := kif H; obtain ⟨g2, H⟩ := H
  refine x_getR (q := 4) dX12_kindMany_1 rfl kl_RX12_87 rfl (k243 g1 (by decide) hn) g2 ?_
  refine x_iconst (q := 5) (v := (3 : Int32)) dX12_kindMany_4 rfl (by decide) ?_
  replace H := kif H; obtain ⟨g3, H⟩ := H
  replace H := kifn H; obtain ⟨g4, H⟩ := H
  refine x_iald (q := 6) dX12_kindMany_5 rfl (k243 g3 (by decide) hn) (fun z => z.elim (by decide) g4) ?_
  cases H
  exact x_end ⟨dX12_kindMany_6, rfl, rfl⟩
theorem s_X12_kindMany {Z : Nat → (Nat → Nat) → State → Prop} (h : KH) (v0 : Nat) {t : Int32} (hn : h.1 = 243) (H : f_X12_kindMany h v0 = some t) : KM Z yX12_kindMany cX12_kindMany 1 (some .int) 1 [.ref v0] h (some (.int t)) h :=
  kx_i (own := RX12) (ini := false) (by decide +kernel) (by decide +kernel) rfl (Nat.le_of_ble_eq_true rfl) (s0_X12_kindMany h v0 hn H)
theorem dX12_testMany_0 : decode cX12_testMany 0 = .ok (.aload_n 0, 1) := by decide +kernel
theorem dX12_testMany_1 : decode cX12_testMany 1 = .ok (.getfield 87, 3) := by decide +kernel
theorem dX12_testMany_4 : decode cX12_testMany 4 = .ok (.iconst 4, 1) := by decide +kernel
theorem dX12_testMany_5 : decode cX12_testMany 5 = .ok (.iaload, 1) := by decide +kernel
theorem dX12_testMany_6 : decode cX12_testMany 6 = .ok (.ireturn, 1) := by decide +kernel
def f_X12_testMany (h : KH) (v0 : Nat) : Option (Int32) :=
  if kkind v0 = 12 then if (kR h v0 33) < 999999 then if kkind (kR h v0 33) = 20 then if klen (kR h v0 33) ≤ 4 then none else some (kI h (kR h v0 33) 4) else none else none else none
set_option maxHeartbeats 4000000 in
set_option maxRecDepth 100000 in
theorem s0_X12_testMany {Z : Nat → (Nat → Nat) → State → Prop} (h : KH) (v0 : Nat) {t : Int32} (hn : h.1 = 243) (H : f_X12_testMany h v0 = some t) : KX Z RX12 cX12_testMany 1 false 1 (KRi cX12_testMany t h) 0 [(0, .ref v0)] [] h := by
  unfold f_X12_testMany at H
  refine x_aload_n (q := 1) dX12_testMany_0 rfl rfl ?_
  replace H := kif H; obtain ⟨g1, H⟩ := H
  replace H := kif H; obtain ⟨g2, H⟩ := H
  refine x_getR (q := 4) dX12_testMany_1 rfl kl_RX12_87 rfl (k243 g1 (by decide) hn) g2 ?_
  refine x_iconst (q := 5) (v := (4 : Int32)) dX12_testMany_4 rfl (by decide) ?_
  replace H := kif H; obtain ⟨g3, H⟩ := H
  replace H := kifn H; obtain ⟨g4, H⟩ := H
  refine x_iald (q := 6) dX12_testMany_5 rfl (k243 g3 (by decide) hn) (fun z => z.elim (by decide) g4) ?_
  cases H
  exact x_end ⟨dX12_testMany_6, rfl, rfl⟩
theorem s_X12_testMany {Z : Nat → (Nat → Nat) → State → Prop} (h : KH) (v0 : Nat) {t : Int32} (hn : h.1 = 243) (H : f_X12_testMany h v0 = some t) : KM Z yX12_testMany cX12_testMany 1 (some .int) 1 [.ref v0] h (some (.int t)) h :=
  kx_i (own := RX12) (ini := false) (by decide +kernel) (by decide +kernel) rfl (Nat.le_of_ble_eq_true rfl) (s0_X12_testMany h v0 hn H)
theorem dX12_markMany_0 : decode cX12_markMany 0 = .ok (.aload_n 0, 1) := by decide +kernel
theorem dX12_markMany_1 : decode cX12_markMany 1 = .ok (.getfield 87, 3) := by decide +kernel
theorem dX12_markMany_4 : decode cX12_markMany 4 = .ok (.iconst 5, 1) := by decide +kernel
theorem dX12_markMany_5 : decode cX12_markMany 5 = .ok (.iaload, 1) := by decide +kernel
theorem dX12_markMany_6 : decode cX12_markMany 6 = .ok (.ireturn, 1) := by decide +kernel
def f_X12_markMany (h : KH) (v0 : Nat) : Option (Int32) :=
  if kkind v0 = 12 then if (kR h v0 33) < 999999 then if kkind (kR h v0 33) = 20 then if klen (kR h v0 33) ≤ 5 then none else some (kI h (kR h v0 33) 5) else none else none else none
set_option maxHeartbeats 4000000 in
set_option maxRecDepth 100000 in
theorem s0_X12_markMany {Z : Nat → (Nat → Nat) → State → Prop} (h : KH) (v0 : Nat) {t : Int32} (hn : h.1 = 243) (H : f_X12_markMany h v0 = some t) : KX Z RX12 cX12_markMany 1 false 1 (KRi cX12_markMany t h) 0 [(0, .ref v0)] [] h := by
  unfold f_X12_markMany at H
  refine x_aload_n (q := 1) dX12_markMany_0 rfl rfl ?_
  replace H := kif H; obtain ⟨g1, H⟩ := H
  replace H := kif H; obtain ⟨g2, H⟩ := H
  refine x_getR (q := 4) dX12_markMany_1 rfl kl_RX12_87 rfl (k243 g1 (by decide) hn) g2 ?_
  refine x_iconst (q := 5) (v := (5 : Int32)) dX12_markMany_4 rfl (by decide) ?_
  replace H := kif H; obtain ⟨g3, H⟩ := H
  replace H := kifn H; obtain ⟨g4, H⟩ := H
  refine x_iald (q := 6) dX12_markMany_5 rfl (k243 g3 (by decide) hn) (fun z => z.elim (by decide) g4) ?_
  cases H
  exact x_end ⟨dX12_markMany_6, rfl, rfl⟩
theorem s_X12_markMany {Z : Nat → (Nat → Nat) → State → Prop} (h : KH) (v0 : Nat) {t : Int32} (hn : h.1 = 243) (H : f_X12_markMany h v0 = some t) : KM Z yX12_markMany cX12_markMany 1 (some .int) 1 [.ref v0] h (some (.int t)) h :=
  kx_i (own := RX12) (ini := false) (by decide +kernel) (by decide +kernel) rfl (Nat.le_of_ble_eq_true rfl) (s0_X12_markMany h v0 hn H)
theorem dX12_isKind_0 : decode cX12_isKind 0 = .ok (.iload_n 1, 1) := by decide +kernel
theorem dX12_isKind_1 : decode cX12_isKind 1 = .ok (.i2l, 1) := by decide +kernel
theorem dX12_isKind_2 : decode cX12_isKind 2 = .ok (.lconst 0, 1) := by decide +kernel
theorem dX12_isKind_3 : decode cX12_isKind 3 = .ok (.aload_n 0, 1) := by decide +kernel
theorem dX12_isKind_4 : decode cX12_isKind 4 = .ok (.invokevirtual 364, 3) := by decide +kernel
theorem dX12_isKind_7 : decode cX12_isKind 7 = .ok (.iconst 1, 1) := by decide +kernel
theorem dX12_isKind_8 : decode cX12_isKind 8 = .ok (.isub, 1) := by decide +kernel
theorem dX12_isKind_9 : decode cX12_isKind 9 = .ok (.i2l, 1) := by decide +kernel
theorem dX12_isKind_10 : decode cX12_isKind 10 = .ok (.invokestatic 270, 3) := by decide +kernel
theorem dX12_isKind_13 : decode cX12_isKind 13 = .ok (.ireturn, 1) := by decide +kernel
theorem kc_RX12_364 : Cond.methodLink RX12 364 yX12_kindMany ∈ ktG ∧ (Cond.instanceMethod yX12_kindMany ∈ ktG ∧ Cond.selects yX12_kindMany.cls yX12_kindMany yX12_kindMany ∈ ktG) ∧ Cond.initialized yX12_kindMany.cls ∈ ktG ∧ Cond.code yX12_kindMany cX12_kindMany 1 (some .int) ∈ ktG := ⟨(kwm 1717 (by decide +kernel) (by decide +kernel)), ⟨(kwm 1719 (by decide +kernel) (by decide +kernel)), (kwm 81 (by decide +kernel) (by decide +kernel))⟩, (kwm 139 (by decide +kernel) (by decide +kernel)), kwm 1720 (by decide +kernel) (by decide +kernel)⟩
theorem kh_X12_kindMany : yX12_kindMany.cls ≠ "java/lang/invoke/MethodHandle" ∧ yX12_kindMany.cls ≠ "java/lang/invoke/VarHandle" ∧ (parseMethodDescriptor yX12_kindMany.desc).map (fun d => d.parameters.length) = some 0 := by decide +kernel
def f_X12_isKind (h : KH) (v0 : Nat) (v1 : Int32) : Option (Int32) :=
  if kkind v0 = 12 then kb (f_X12_kindMany h v0) fun r2 =>
  kb (f_X12_isIn h ((v1).toInt64) (0 : Int64) (((r2 - (1 : Int32))).toInt64)) fun r5 =>
  if (r5 = 0 ∨ r5 = 1) then some r5 else none else none
set_option maxHeartbeats 4000000 in
set_option maxRecDepth 100000 in
theorem s0_X12_isKind {Z : Nat → (Nat → Nat) → State → Prop} (h : KH) (v0 : Nat) (v1 : Int32) {t : Int32} (hn : h.1 = 243) (H : f_X12_isKind h v0 v1 = some t) : KX Z RX12 cX12_isKind 2 false 2 (KRz cX12_isKind t h) 0 [(0, .ref v0), (1, .int v1)] [] h := by
  unfold f_X12_isKind at H
  refine x_iload_n (q := 1) dX12_isKind_0 rfl rfl ?_
  refine x_i2l (q := 2) dX12_isKind_1 rfl ?_
  refine x_lconst (q := 3) (v := (0 : Int64)) dX12_isKind_2 rfl (by decide) ?_
  refine x_aload_n (q := 4) dX12_isKind_3 rfl rfl ?_
  replace H := kif H; obtain ⟨g1, H⟩ := H
  replace H := kbe H; obtain ⟨r2, c3, H⟩ := H
  have m4 := s_X12_kindMany (Z := Z) h v0 hn c3
  refine x_callV (q := 7) (as := []) (rest := [.long (0 : Int64), .long ((v1).toInt64)]) dX12_isKind_4 rfl kc_RX12_364 kh_X12_kindMany (by decide) (Nat.le_of_ble_eq_true rfl) m4 (ci := 12) (by exact ⟨rfl, by decide⟩) (k243 g1 (by decide) hn) ?_
  refine x_iconst (q := 8) (v := (1 : Int32)) dX12_isKind_7 rfl (by decide) ?_
  refine x_isub (q := 9) dX12_isKind_8 rfl ?_
  refine x_i2l (q := 10) dX12_isKind_9 rfl ?_
  replace H := kbe H; obtain ⟨r5, c6, H⟩ := H
  have m7 := s_X12_isIn (Z := Z) h ((v1).toInt64) (0 : Int64) (((r2 - (1 : Int32))).toInt64) hn c6
  refine x_callS (q := 13) (as := [.long ((v1).toInt64), .long (0 : Int64), .long (((r2 - (1 : Int32))).toInt64)]) (rest := []) dX12_isKind_10 rfl kc_RX12_270 kh_X12_isIn (by decide) (Nat.le_of_ble_eq_true rfl) m7 ?_
  replace H := kif H; obtain ⟨g8, H⟩ := H
  cases H
  exact x_end ⟨g8, dX12_isKind_13, rfl, rfl⟩
theorem s_X12_isKind {Z : Nat → (Nat → Nat) → State → Prop} (h : KH) (v0 : Nat) (v1 : Int32) {t : Int32} (hn : h.1 = 243) (H : f_X12_isKind h v0 v1 = some t) : KM Z yX12_isKind cX12_isKind 2 (some .boolean) 2 [.ref v0, .int v1] h (some (.int t)) h :=
  kx_z (own := RX12) (ini := false) (by decide +kernel) (by decide +kernel) rfl (Nat.le_of_ble_eq_true rfl) (s0_X12_isKind h v0 v1 hn H)
theorem dX12_isTest_0 : decode cX12_isTest 0 = .ok (.iload_n 1, 1) := by decide +kernel
theorem dX12_isTest_1 : decode cX12_isTest 1 = .ok (.i2l, 1) := by decide +kernel
theorem dX12_isTest_2 : decode cX12_isTest 2 = .ok (.lconst 0, 1) := by decide +kernel
theorem dX12_isTest_3 : decode cX12_isTest 3 = .ok (.aload_n 0, 1) := by decide +kernel
theorem dX12_isTest_4 : decode cX12_isTest 4 = .ok (.invokevirtual 367, 3) := by decide +kernel
theorem dX12_isTest_7 : decode cX12_isTest 7 = .ok (.iconst 1, 1) := by decide +kernel
theorem dX12_isTest_8 : decode cX12_isTest 8 = .ok (.isub, 1) := by decide +kernel
theorem dX12_isTest_9 : decode cX12_isTest 9 = .ok (.i2l, 1) := by decide +kernel
theorem dX12_isTest_10 : decode cX12_isTest 10 = .ok (.invokestatic 270, 3) := by decide +kernel
theorem dX12_isTest_13 : decode cX12_isTest 13 = .ok (.ireturn, 1) := by decide +kernel
theorem kc_RX12_367 : Cond.methodLink RX12 367 yX12_testMany ∈ ktG ∧ (Cond.instanceMethod yX12_testMany ∈ ktG ∧ Cond.selects yX12_testMany.cls yX12_testMany yX12_testMany ∈ ktG) ∧ Cond.initialized yX12_testMany.cls ∈ ktG ∧ Cond.code yX12_testMany cX12_testMany 1 (some .int) ∈ ktG := ⟨(kwm 1680 (by decide +kernel) (by decide +kernel)), ⟨(kwm 1682 (by decide +kernel) (by decide +kernel)), (kwm 75 (by decide +kernel) (by decide +kernel))⟩, (kwm 139 (by decide +kernel) (by decide +kernel)), kwm 1683 (by decide +kernel) (by decide +kernel)⟩
theorem kh_X12_testMany : yX12_testMany.cls ≠ "java/lang/invoke/MethodHandle" ∧ yX12_testMany.cls ≠ "java/lang/invoke/VarHandle" ∧ (parseMethodDescriptor yX12_testMany.desc).map (fun d => d.parameters.length) = some 0 := by decide +kernel
def f_X12_isTest (h : KH) (v0 : Nat) (v1 : Int32) : Option (Int32) :=
  if kkind v0 = 12 then kb (f_X12_testMany h v0) fun r2 =>
  kb (f_X12_isIn h ((v1).toInt64) (0 : Int64) (((r2 - (1 : Int32))).toInt64)) fun r5 =>
  if (r5 = 0 ∨ r5 = 1) then some r5 else none else none
set_option maxHeartbeats 4000000 in
set_option maxRecDepth 100000 in
theorem s0_X12_isTest {Z : Nat → (Nat → Nat) → State → Prop} (h : KH) (v0 : Nat) (v1 : Int32) {t : Int32} (hn : h.1 = 243) (H : f_X12_isTest h v0 v1 = some t) : KX Z RX12 cX12_isTest 2 false 2 (KRz cX12_isTest t h) 0 [(0, .ref v0), (1, .int v1)] [] h := by
  unfold f_X12_isTest at H
  refine x_iload_n (q := 1) dX12_isTest_0 rfl rfl ?_
  refine x_i2l (q := 2) dX12_isTest_1 rfl ?_
  refine x_lconst (q := 3) (v := (0 : Int64)) dX12_isTest_2 rfl (by decide) ?_
  refine x_aload_n (q := 4) dX12_isTest_3 rfl rfl ?_
  replace H := kif H; obtain ⟨g1, H⟩ := H
  replace H := kbe H; obtain ⟨r2, c3, H⟩ := H
  have m4 := s_X12_testMany (Z := Z) h v0 hn c3
  refine x_callV (q := 7) (as := []) (rest := [.long (0 : Int64), .long ((v1).toInt64)]) dX12_isTest_4 rfl kc_RX12_367 kh_X12_testMany (by decide) (Nat.le_of_ble_eq_true rfl) m4 (ci := 12) (by exact ⟨rfl, by decide⟩) (k243 g1 (by decide) hn) ?_
  refine x_iconst (q := 8) (v := (1 : Int32)) dX12_isTest_7 rfl (by decide) ?_
  refine x_isub (q := 9) dX12_isTest_8 rfl ?_
  refine x_i2l (q := 10) dX12_isTest_9 rfl ?_
  replace H := kbe H; obtain ⟨r5, c6, H⟩ := H
  have m7 := s_X12_isIn (Z := Z) h ((v1).toInt64) (0 : Int64) (((r2 - (1 : Int32))).toInt64) hn c6
  refine x_callS (q := 13) (as := [.long ((v1).toInt64), .long (0 : Int64), .long (((r2 - (1 : Int32))).toInt64)]) (rest := []) dX12_isTest_10 rfl kc_RX12_270 kh_X12_isIn (by decide) (Nat.le_of_ble_eq_true rfl) m7 ?_
  replace H := kif H; obtain ⟨g8, H⟩ := H
  cases H
  exact x_end ⟨g8, dX12_isTest_13, rfl, rfl⟩
theorem s_X12_isTest {Z : Nat → (Nat → Nat) → State → Prop} (h : KH) (v0 : Nat) (v1 : Int32) {t : Int32} (hn : h.1 = 243) (H : f_X12_isTest h v0 v1 = some t) : KM Z yX12_isTest cX12_isTest 2 (some .boolean) 2 [.ref v0, .int v1] h (some (.int t)) h :=
  kx_z (own := RX12) (ini := false) (by decide +kernel) (by decide +kernel) rfl (Nat.le_of_ble_eq_true rfl) (s0_X12_isTest h v0 v1 hn H)
theorem dX12_heardOf_0 : decode cX12_heardOf 0 = .ok (.aload_n 0, 1) := by decide +kernel
theorem dX12_heardOf_1 : decode cX12_heardOf 1 = .ok (.getfield 115, 3) := by decide +kernel
theorem dX12_heardOf_4 : decode cX12_heardOf 4 = .ok (.iconst 2, 1) := by decide +kernel
theorem dX12_heardOf_5 : decode cX12_heardOf 5 = .ok (.iconst 2, 1) := by decide +kernel
theorem dX12_heardOf_6 : decode cX12_heardOf 6 = .ok (.iload_n 1, 1) := by decide +kernel
theorem dX12_heardOf_7 : decode cX12_heardOf 7 = .ok (.imul, 1) := by decide +kernel
theorem dX12_heardOf_8 : decode cX12_heardOf 8 = .ok (.iadd, 1) := by decide +kernel
theorem dX12_heardOf_9 : decode cX12_heardOf 9 = .ok (.iaload, 1) := by decide +kernel
theorem dX12_heardOf_10 : decode cX12_heardOf 10 = .ok (.ireturn, 1) := by decide +kernel
def f_X12_heardOf (h : KH) (v0 : Nat) (v1 : Int32) : Option (Int32) :=
  if kkind v0 = 12 then if (kR h v0 45) < 999999 then if kkind (kR h v0 45) = 20 then if (((2 : Int32) + ((2 : Int32) * v1)) < 0 ∨ klen (kR h v0 45) ≤ (((2 : Int32) + ((2 : Int32) * v1))).toNatClampNeg) then none else some (kI h (kR h v0 45) ((((2 : Int32) + ((2 : Int32) * v1))).toNatClampNeg)) else none else none else none
set_option maxHeartbeats 4000000 in
set_option maxRecDepth 100000 in
theorem s0_X12_heardOf {Z : Nat → (Nat → Nat) → State → Prop} (h : KH) (v0 : Nat) (v1 : Int32) {t : Int32} (hn : h.1 = 243) (H : f_X12_heardOf h v0 v1 = some t) : KX Z RX12 cX12_heardOf 2 false 1 (KRi cX12_heardOf t h) 0 [(0, .ref v0), (1, .int v1)] [] h := by
  unfold f_X12_heardOf at H
  refine x_aload_n (q := 1) dX12_heardOf_0 rfl rfl ?_
  replace H := kif H; obtain ⟨g1, H⟩ := H
  replace H := kif H; obtain ⟨g2, H⟩ := H
  refine x_getR (q := 4) dX12_heardOf_1 rfl kl_RX12_115 rfl (k243 g1 (by decide) hn) g2 ?_
  refine x_iconst (q := 5) (v := (2 : Int32)) dX12_heardOf_4 rfl (by decide) ?_
  refine x_iconst (q := 6) (v := (2 : Int32)) dX12_heardOf_5 rfl (by decide) ?_
  refine x_iload_n (q := 7) dX12_heardOf_6 rfl rfl ?_
  refine x_imul (q := 8) dX12_heardOf_7 rfl ?_
  refine x_iadd (q := 9) dX12_heardOf_8 rfl ?_
  replace H := kif H; obtain ⟨g3, H⟩ := H
  replace H := kifn H; obtain ⟨g4, H⟩ := H
  refine x_iald (q := 10) dX12_heardOf_9 rfl (k243 g3 (by decide) hn) g4 ?_
  cases H
  exact x_end ⟨dX12_heardOf_10, rfl, rfl⟩
theorem s_X12_heardOf {Z : Nat → (Nat → Nat) → State → Prop} (h : KH) (v0 : Nat) (v1 : Int32) {t : Int32} (hn : h.1 = 243) (H : f_X12_heardOf h v0 v1 = some t) : KM Z yX12_heardOf cX12_heardOf 2 (some .int) 1 [.ref v0, .int v1] h (some (.int t)) h :=
  kx_i (own := RX12) (ini := false) (by decide +kernel) (by decide +kernel) rfl (Nat.le_of_ble_eq_true rfl) (s0_X12_heardOf h v0 v1 hn H)
theorem dX12_stateOf_0 : decode cX12_stateOf 0 = .ok (.aload_n 0, 1) := by decide +kernel
theorem dX12_stateOf_1 : decode cX12_stateOf 1 = .ok (.getfield 115, 3) := by decide +kernel
theorem dX12_stateOf_4 : decode cX12_stateOf 4 = .ok (.iconst 2, 1) := by decide +kernel
theorem dX12_stateOf_5 : decode cX12_stateOf 5 = .ok (.iconst 2, 1) := by decide +kernel
theorem dX12_stateOf_6 : decode cX12_stateOf 6 = .ok (.iload_n 1, 1) := by decide +kernel
theorem dX12_stateOf_7 : decode cX12_stateOf 7 = .ok (.imul, 1) := by decide +kernel
theorem dX12_stateOf_8 : decode cX12_stateOf 8 = .ok (.iadd, 1) := by decide +kernel
theorem dX12_stateOf_9 : decode cX12_stateOf 9 = .ok (.iconst 1, 1) := by decide +kernel
theorem dX12_stateOf_10 : decode cX12_stateOf 10 = .ok (.iadd, 1) := by decide +kernel
theorem dX12_stateOf_11 : decode cX12_stateOf 11 = .ok (.iaload, 1) := by decide +kernel
theorem dX12_stateOf_12 : decode cX12_stateOf 12 = .ok (.ireturn, 1) := by decide +kernel
def f_X12_stateOf (h : KH) (v0 : Nat) (v1 : Int32) : Option (Int32) :=
  if kkind v0 = 12 then if (kR h v0 45) < 999999 then if kkind (kR h v0 45) = 20 then if ((((2 : Int32) + ((2 : Int32) * v1)) + (1 : Int32)) < 0 ∨ klen (kR h v0 45) ≤ ((((2 : Int32) + ((2 : Int32) * v1)) + (1 : Int32))).toNatClampNeg) then none else some (kI h (kR h v0 45) (((((2 : Int32) + ((2 : Int32) * v1)) + (1 : Int32))).toNatClampNeg)) else none else none else none
set_option maxHeartbeats 4000000 in
set_option maxRecDepth 100000 in
theorem s0_X12_stateOf {Z : Nat → (Nat → Nat) → State → Prop} (h : KH) (v0 : Nat) (v1 : Int32) {t : Int32} (hn : h.1 = 243) (H : f_X12_stateOf h v0 v1 = some t) : KX Z RX12 cX12_stateOf 2 false 1 (KRi cX12_stateOf t h) 0 [(0, .ref v0), (1, .int v1)] [] h := by
  unfold f_X12_stateOf at H
  refine x_aload_n (q := 1) dX12_stateOf_0 rfl rfl ?_
  replace H := kif H; obtain ⟨g1, H⟩ := H
  replace H := kif H; obtain ⟨g2, H⟩ := H
  refine x_getR (q := 4) dX12_stateOf_1 rfl kl_RX12_115 rfl (k243 g1 (by decide) hn) g2 ?_
  refine x_iconst (q := 5) (v := (2 : Int32)) dX12_stateOf_4 rfl (by decide) ?_
  refine x_iconst (q := 6) (v := (2 : Int32)) dX12_stateOf_5 rfl (by decide) ?_
  refine x_iload_n (q := 7) dX12_stateOf_6 rfl rfl ?_
  refine x_imul (q := 8) dX12_stateOf_7 rfl ?_
  refine x_iadd (q := 9) dX12_stateOf_8 rfl ?_
  refine x_iconst (q := 10) (v := (1 : Int32)) dX12_stateOf_9 rfl (by decide) ?_
  refine x_iadd (q := 11) dX12_stateOf_10 rfl ?_
  replace H := kif H; obtain ⟨g3, H⟩ := H
  replace H := kifn H; obtain ⟨g4, H⟩ := H
  refine x_iald (q := 12) dX12_stateOf_11 rfl (k243 g3 (by decide) hn) g4 ?_
  cases H
  exact x_end ⟨dX12_stateOf_12, rfl, rfl⟩
theorem s_X12_stateOf {Z : Nat → (Nat → Nat) → State → Prop} (h : KH) (v0 : Nat) (v1 : Int32) {t : Int32} (hn : h.1 = 243) (H : f_X12_stateOf h v0 v1 = some t) : KM Z yX12_stateOf cX12_stateOf 2 (some .int) 1 [.ref v0, .int v1] h (some (.int t)) h :=
  kx_i (own := RX12) (ini := false) (by decide +kernel) (by decide +kernel) rfl (Nat.le_of_ble_eq_true rfl) (s0_X12_stateOf h v0 v1 hn H)
theorem dX12_markOf_0 : decode cX12_markOf 0 = .ok (.aload_n 0, 1) := by decide +kernel
theorem dX12_markOf_1 : decode cX12_markOf 1 = .ok (.getfield 115, 3) := by decide +kernel
theorem dX12_markOf_4 : decode cX12_markOf 4 = .ok (.bipush 14, 2) := by decide +kernel
theorem dX12_markOf_6 : decode cX12_markOf 6 = .ok (.iconst 2, 1) := by decide +kernel
theorem dX12_markOf_7 : decode cX12_markOf 7 = .ok (.iload_n 1, 1) := by decide +kernel
theorem dX12_markOf_8 : decode cX12_markOf 8 = .ok (.imul, 1) := by decide +kernel
theorem dX12_markOf_9 : decode cX12_markOf 9 = .ok (.iadd, 1) := by decide +kernel
theorem dX12_markOf_10 : decode cX12_markOf 10 = .ok (.iload_n 2, 1) := by decide +kernel
theorem dX12_markOf_11 : decode cX12_markOf 11 = .ok (.iadd, 1) := by decide +kernel
theorem dX12_markOf_12 : decode cX12_markOf 12 = .ok (.iaload, 1) := by decide +kernel
theorem dX12_markOf_13 : decode cX12_markOf 13 = .ok (.ireturn, 1) := by decide +kernel
def f_X12_markOf (h : KH) (v0 : Nat) (v1 : Int32) (v2 : Int32) : Option (Int32) :=
  if kkind v0 = 12 then if (kR h v0 45) < 999999 then if kkind (kR h v0 45) = 20 then if ((((14 : Int32) + ((2 : Int32) * v1)) + v2) < 0 ∨ klen (kR h v0 45) ≤ ((((14 : Int32) + ((2 : Int32) * v1)) + v2)).toNatClampNeg) then none else some (kI h (kR h v0 45) (((((14 : Int32) + ((2 : Int32) * v1)) + v2)).toNatClampNeg)) else none else none else none
set_option maxHeartbeats 4000000 in
set_option maxRecDepth 100000 in
theorem s0_X12_markOf {Z : Nat → (Nat → Nat) → State → Prop} (h : KH) (v0 : Nat) (v1 : Int32) (v2 : Int32) {t : Int32} (hn : h.1 = 243) (H : f_X12_markOf h v0 v1 v2 = some t) : KX Z RX12 cX12_markOf 3 false 1 (KRi cX12_markOf t h) 0 [(0, .ref v0), (1, .int v1), (2, .int v2)] [] h := by
  unfold f_X12_markOf at H
  refine x_aload_n (q := 1) dX12_markOf_0 rfl rfl ?_
  replace H := kif H; obtain ⟨g1, H⟩ := H
  replace H := kif H; obtain ⟨g2, H⟩ := H
  refine x_getR (q := 4) dX12_markOf_1 rfl kl_RX12_115 rfl (k243 g1 (by decide) hn) g2 ?_
  refine x_bipush (q := 6) (v := (14 : Int32)) dX12_markOf_4 rfl (by decide) ?_
  refine x_iconst (q := 7) (v := (2 : Int32)) dX12_markOf_6 rfl (by decide) ?_
  refine x_iload_n (q := 8) dX12_markOf_7 rfl rfl ?_
  refine x_imul (q := 9) dX12_markOf_8 rfl ?_
  refine x_iadd (q := 10) dX12_markOf_9 rfl ?_
  refine x_iload_n (q := 11) dX12_markOf_10 rfl rfl ?_
  refine x_iadd (q := 12) dX12_markOf_11 rfl ?_
  replace H := kif H; obtain ⟨g3, H⟩ := H
  replace H := kifn H; obtain ⟨g4, H⟩ := H
  refine x_iald (q := 13) dX12_markOf_12 rfl (k243 g3 (by decide) hn) g4 ?_
  cases H
  exact x_end ⟨dX12_markOf_13, rfl, rfl⟩
theorem s_X12_markOf {Z : Nat → (Nat → Nat) → State → Prop} (h : KH) (v0 : Nat) (v1 : Int32) (v2 : Int32) {t : Int32} (hn : h.1 = 243) (H : f_X12_markOf h v0 v1 v2 = some t) : KM Z yX12_markOf cX12_markOf 3 (some .int) 1 [.ref v0, .int v1, .int v2] h (some (.int t)) h :=
  kx_i (own := RX12) (ini := false) (by decide +kernel) (by decide +kernel) rfl (Nat.le_of_ble_eq_true rfl) (s0_X12_markOf h v0 v1 v2 hn H)
theorem dX12_qPuts_0 : decode cX12_qPuts 0 = .ok (.aload_n 0, 1) := by decide +kernel
theorem dX12_qPuts_1 : decode cX12_qPuts 1 = .ok (.getfield 221, 3) := by decide +kernel
theorem dX12_qPuts_4 : decode cX12_qPuts 4 = .ok (.aload_n 0, 1) := by decide +kernel
theorem dX12_qPuts_5 : decode cX12_qPuts 5 = .ok (.getfield 379, 3) := by decide +kernel
theorem dX12_qPuts_8 : decode cX12_qPuts 8 = .ok (.lload_n 1, 1) := by decide +kernel
theorem dX12_qPuts_9 : decode cX12_qPuts 9 = .ok (.lastore, 1) := by decide +kernel
theorem dX12_qPuts_10 : decode cX12_qPuts 10 = .ok (.aload_n 0, 1) := by decide +kernel
theorem dX12_qPuts_11 : decode cX12_qPuts 11 = .ok (.dup, 1) := by decide +kernel
theorem dX12_qPuts_12 : decode cX12_qPuts 12 = .ok (.getfield 379, 3) := by decide +kernel
theorem dX12_qPuts_15 : decode cX12_qPuts 15 = .ok (.iconst 1, 1) := by decide +kernel
theorem dX12_qPuts_16 : decode cX12_qPuts 16 = .ok (.iadd, 1) := by decide +kernel
theorem dX12_qPuts_17 : decode cX12_qPuts 17 = .ok (.putfield 379, 3) := by decide +kernel
theorem dX12_qPuts_20 : decode cX12_qPuts 20 = .ok (.return_, 1) := by decide +kernel
theorem kl_RX12_221 : KLk RX12 221 12 91 := ⟨RX12, TX12, 97, rfl, by decide, Or.inl (kwm 1288 (by decide +kernel) (by decide +kernel))⟩
theorem kl_RX12_379 : KLk RX12 379 12 92 := ⟨RX12, TX12, 97, rfl, by decide, Or.inl (kwm 1289 (by decide +kernel) (by decide +kernel))⟩
def f_X12_qPuts (h : KH) (v0 : Nat) (v1 : Int64) : Option (KH) :=
  if kkind v0 = 12 then if (kR h v0 91) < 999999 then if kkind (kR h v0 91) = 21 then if ((kI h v0 92) < 0 ∨ klen (kR h v0 91) ≤ ((kI h v0 92)).toNatClampNeg) then none else kl (ksL h (kR h v0 91) (((kI h v0 92)).toNatClampNeg) v1) fun h5 =>
  kl (ksI h5 v0 92 ((kI h5 v0 92) + (1 : Int32))) fun h8 =>
  some h8 else none else none else none
set_option maxHeartbeats 4000000 in
set_option maxRecDepth 100000 in
theorem s0_X12_qPuts {Z : Nat → (Nat → Nat) → State → Prop} (h : KH) (v0 : Nat) (v1 : Int64) {t : KH} (hn : h.1 = 243) (H : f_X12_qPuts h v0 v1 = some t) : KX Z RX12 cX12_qPuts 3 false 1 (KRv cX12_qPuts t) 0 [(0, .ref v0), (1, .long v1)] [] h := by
  unfold f_X12_qPuts at H
  refine x_aload_n (q := 1) dX12_qPuts_0 rfl rfl ?_
  replace H := kif H; obtain ⟨g1, H⟩ := H
  replace H := kif H; obtain ⟨g2, H⟩ := H
  refine x_getR (q := 4) dX12_qPuts_1 rfl kl_RX12_221 rfl (k243 g1 (by decide) hn) g2 ?_
  refine x_aload_n (q := 5) dX12_qPuts_4 rfl rfl ?_
  refine x_getI (q := 8) dX12_qPuts_5 rfl kl_RX12_379 (Or.inl rfl) (k243 g1 (by decide) hn) ?_
  refine x_lload_n (q := 9) dX12_qPuts_8 rfl rfl ?_
  replace H := kif H; obtain ⟨g3, H⟩ := H
  replace H := kifn H; obtain ⟨g4, H⟩ := H
  replace H := kle H; obtain ⟨h5, q6, H⟩ := H
  refine x_last (q := 10) dX12_qPuts_9 rfl (k243 g3 (by decide) hn) g4 ?_
  refine x_nmH q6 ?_
  have n7 : h5.1 = 243 := by rw [q6]; exact hn
  refine x_aload_n (q := 11) dX12_qPuts_10 rfl rfl ?_
  refine x_dup (q := 12) dX12_qPuts_11 rfl rfl ?_
  refine x_getI (q := 15) dX12_qPuts_12 rfl kl_RX12_379 (Or.inl rfl) (k243 g1 (by decide) n7) ?_
  refine x_iconst (q := 16) (v := (1 : Int32)) dX12_qPuts_15 rfl (by decide) ?_
  refine x_iadd (q := 17) dX12_qPuts_16 rfl ?_
  replace H := kle H; obtain ⟨h8, q9, H⟩ := H
  refine x_putI (q := 20) dX12_qPuts_17 rfl kl_RX12_379 (Or.inl rfl) rfl (k243 g1 (by decide) n7) ?_
  refine x_nmH q9 ?_
  have n10 : h8.1 = 243 := by rw [q9]; exact n7
  cases H
  exact x_end ⟨dX12_qPuts_20, rfl, rfl⟩
theorem s_X12_qPuts {Z : Nat → (Nat → Nat) → State → Prop} (h : KH) (v0 : Nat) (v1 : Int64) {t : KH} (hn : h.1 = 243) (H : f_X12_qPuts h v0 v1 = some t) : KM Z yX12_qPuts cX12_qPuts 3 none 1 [.ref v0, .long v1] h none t :=
  kx_v (own := RX12) (ini := false) (by decide +kernel) (by decide +kernel) rfl (Nat.le_of_ble_eq_true rfl) (s0_X12_qPuts h v0 v1 hn H)
