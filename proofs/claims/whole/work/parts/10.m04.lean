-- methods as functions, and that the machine does as they say (by wip/whole/gen_all.py): X10_factor, X10_put, X10_weigh, X10_sumOf, X10_weightOf, X10_answerIn, X10_kindIn, X10_sumOfKind, X10_sumOfYielding, X10_failingWorld, J6_bitCount_0f7a4, X10_bestSet, X10_sureSet, X11_refuse
theorem dX10_factor_0 : decode cX10_factor 0 = .ok (.aload_n 0, 1) := by decide +kernel
theorem dX10_factor_1 : decode cX10_factor 1 = .ok (.getfield 29, 3) := by decide +kernel
theorem dX10_factor_4 : decode cX10_factor 4 = .ok (.iconst 2, 1) := by decide +kernel
theorem dX10_factor_5 : decode cX10_factor 5 = .ok (.iload 4, 2) := by decide +kernel
theorem dX10_factor_7 : decode cX10_factor 7 = .ok (.imul, 1) := by decide +kernel
theorem dX10_factor_8 : decode cX10_factor 8 = .ok (.iload 5, 2) := by decide +kernel
theorem dX10_factor_10 : decode cX10_factor 10 = .ok (.ifCond .eq 7, 3) := by decide +kernel
theorem dX10_factor_13 : decode cX10_factor 13 = .ok (.iconst 1, 1) := by decide +kernel
theorem dX10_factor_14 : decode cX10_factor 14 = .ok (.goto 4, 3) := by decide +kernel
theorem dX10_factor_17 : decode cX10_factor 17 = .ok (.iconst 0, 1) := by decide +kernel
theorem dX10_factor_18 : decode cX10_factor 18 = .ok (.iadd, 1) := by decide +kernel
theorem dX10_factor_19 : decode cX10_factor 19 = .ok (.iaload, 1) := by decide +kernel
theorem dX10_factor_20 : decode cX10_factor 20 = .ok (.istore 6, 2) := by decide +kernel
theorem dX10_factor_22 : decode cX10_factor 22 = .ok (.iconst 0, 1) := by decide +kernel
theorem dX10_factor_23 : decode cX10_factor 23 = .ok (.istore 7, 2) := by decide +kernel
theorem dX10_factor_25 : decode cX10_factor 25 = .ok (.iload 7, 2) := by decide +kernel
theorem dX10_factor_27 : decode cX10_factor 27 = .ok (.aload_n 1, 1) := by decide +kernel
theorem dX10_factor_28 : decode cX10_factor 28 = .ok (.getfield 44, 3) := by decide +kernel
theorem dX10_factor_31 : decode cX10_factor 31 = .ok (.if_icmp .ge 43, 3) := by decide +kernel
theorem dX10_factor_34 : decode cX10_factor 34 = .ok (.aload_n 2, 1) := by decide +kernel
theorem dX10_factor_35 : decode cX10_factor 35 = .ok (.getfield 75, 3) := by decide +kernel
theorem dX10_factor_38 : decode cX10_factor 38 = .ok (.iload 7, 2) := by decide +kernel
theorem dX10_factor_40 : decode cX10_factor 40 = .ok (.iaload, 1) := by decide +kernel
theorem dX10_factor_41 : decode cX10_factor 41 = .ok (.istore 8, 2) := by decide +kernel
theorem dX10_factor_43 : decode cX10_factor 43 = .ok (.iload 8, 2) := by decide +kernel
theorem dX10_factor_45 : decode cX10_factor 45 = .ok (.ifCond .eq 23, 3) := by decide +kernel
theorem dX10_factor_48 : decode cX10_factor 48 = .ok (.iload 8, 2) := by decide +kernel
theorem dX10_factor_50 : decode cX10_factor 50 = .ok (.iconst 1, 1) := by decide +kernel
theorem dX10_factor_51 : decode cX10_factor 51 = .ok (.isub, 1) := by decide +kernel
theorem dX10_factor_52 : decode cX10_factor 52 = .ok (.iload_n 3, 1) := by decide +kernel
theorem dX10_factor_53 : decode cX10_factor 53 = .ok (.ishr, 1) := by decide +kernel
theorem dX10_factor_54 : decode cX10_factor 54 = .ok (.iconst 1, 1) := by decide +kernel
theorem dX10_factor_55 : decode cX10_factor 55 = .ok (.iand, 1) := by decide +kernel
theorem dX10_factor_56 : decode cX10_factor 56 = .ok (.iload 6, 2) := by decide +kernel
theorem dX10_factor_58 : decode cX10_factor 58 = .ok (.iload 7, 2) := by decide +kernel
theorem dX10_factor_60 : decode cX10_factor 60 = .ok (.ishr, 1) := by decide +kernel
theorem dX10_factor_61 : decode cX10_factor 61 = .ok (.iconst 1, 1) := by decide +kernel
theorem dX10_factor_62 : decode cX10_factor 62 = .ok (.iand, 1) := by decide +kernel
theorem dX10_factor_63 : decode cX10_factor 63 = .ok (.if_icmp .eq 5, 3) := by decide +kernel
theorem dX10_factor_66 : decode cX10_factor 66 = .ok (.lconst 0, 1) := by decide +kernel
theorem dX10_factor_67 : decode cX10_factor 67 = .ok (.lreturn, 1) := by decide +kernel
theorem dX10_factor_68 : decode cX10_factor 68 = .ok (.iinc 7 1, 3) := by decide +kernel
theorem dX10_factor_71 : decode cX10_factor 71 = .ok (.goto (-46), 3) := by decide +kernel
theorem dX10_factor_74 : decode cX10_factor 74 = .ok (.aload_n 1, 1) := by decide +kernel
theorem dX10_factor_75 : decode cX10_factor 75 = .ok (.getfield 76, 3) := by decide +kernel
theorem dX10_factor_78 : decode cX10_factor 78 = .ok (.iload 4, 2) := by decide +kernel
theorem dX10_factor_80 : decode cX10_factor 80 = .ok (.aaload, 1) := by decide +kernel
theorem dX10_factor_81 : decode cX10_factor 81 = .ok (.iload 5, 2) := by decide +kernel
theorem dX10_factor_83 : decode cX10_factor 83 = .ok (.ifCond .eq 7, 3) := by decide +kernel
theorem dX10_factor_86 : decode cX10_factor 86 = .ok (.iconst 3, 1) := by decide +kernel
theorem dX10_factor_87 : decode cX10_factor 87 = .ok (.goto 4, 3) := by decide +kernel
theorem dX10_factor_90 : decode cX10_factor 90 = .ok (.iconst 4, 1) := by decide +kernel
theorem dX10_factor_91 : decode cX10_factor 91 = .ok (.iaload, 1) := by decide +kernel
theorem dX10_factor_92 : decode cX10_factor 92 = .ok (.i2l, 1) := by decide +kernel
theorem dX10_factor_93 : decode cX10_factor 93 = .ok (.lstore 7, 2) := by decide +kernel
theorem dX10_factor_95 : decode cX10_factor 95 = .ok (.iconst 0, 1) := by decide +kernel
theorem dX10_factor_96 : decode cX10_factor 96 = .ok (.istore 9, 2) := by decide +kernel
theorem dX10_factor_98 : decode cX10_factor 98 = .ok (.iload 9, 2) := by decide +kernel
theorem dX10_factor_100 : decode cX10_factor 100 = .ok (.aload_n 1, 1) := by decide +kernel
theorem dX10_factor_101 : decode cX10_factor 101 = .ok (.getfield 80, 3) := by decide +kernel
theorem dX10_factor_104 : decode cX10_factor 104 = .ok (.if_icmp .ge 70, 3) := by decide +kernel
theorem dX10_factor_107 : decode cX10_factor 107 = .ok (.aload_n 2, 1) := by decide +kernel
theorem dX10_factor_108 : decode cX10_factor 108 = .ok (.getfield 83, 3) := by decide +kernel
theorem dX10_factor_111 : decode cX10_factor 111 = .ok (.iconst 2, 1) := by decide +kernel
theorem dX10_factor_112 : decode cX10_factor 112 = .ok (.iload 9, 2) := by decide +kernel
theorem dX10_factor_114 : decode cX10_factor 114 = .ok (.imul, 1) := by decide +kernel
theorem dX10_factor_115 : decode cX10_factor 115 = .ok (.iload_n 3, 1) := by decide +kernel
theorem dX10_factor_116 : decode cX10_factor 116 = .ok (.iadd, 1) := by decide +kernel
theorem dX10_factor_117 : decode cX10_factor 117 = .ok (.iaload, 1) := by decide +kernel
theorem dX10_factor_118 : decode cX10_factor 118 = .ok (.istore 10, 2) := by decide +kernel
theorem dX10_factor_120 : decode cX10_factor 120 = .ok (.aload_n 1, 1) := by decide +kernel
theorem dX10_factor_121 : decode cX10_factor 121 = .ok (.getfield 86, 3) := by decide +kernel
theorem dX10_factor_124 : decode cX10_factor 124 = .ok (.iload 9, 2) := by decide +kernel
theorem dX10_factor_126 : decode cX10_factor 126 = .ok (.aaload, 1) := by decide +kernel
theorem dX10_factor_127 : decode cX10_factor 127 = .ok (.iload 5, 2) := by decide +kernel
theorem dX10_factor_129 : decode cX10_factor 129 = .ok (.ifCond .eq 7, 3) := by decide +kernel
theorem dX10_factor_132 : decode cX10_factor 132 = .ok (.iconst 1, 1) := by decide +kernel
theorem dX10_factor_133 : decode cX10_factor 133 = .ok (.goto 4, 3) := by decide +kernel
theorem dX10_factor_136 : decode cX10_factor 136 = .ok (.iconst 2, 1) := by decide +kernel
theorem dX10_factor_137 : decode cX10_factor 137 = .ok (.iaload, 1) := by decide +kernel
theorem dX10_factor_138 : decode cX10_factor 138 = .ok (.istore 11, 2) := by decide +kernel
theorem dX10_factor_140 : decode cX10_factor 140 = .ok (.iload 10, 2) := by decide +kernel
theorem dX10_factor_142 : decode cX10_factor 142 = .ok (.ifCond .eq 26, 3) := by decide +kernel
theorem dX10_factor_145 : decode cX10_factor 145 = .ok (.lload 7, 2) := by decide +kernel
theorem dX10_factor_147 : decode cX10_factor 147 = .ok (.iload 10, 2) := by decide +kernel
theorem dX10_factor_149 : decode cX10_factor 149 = .ok (.iconst 2, 1) := by decide +kernel
theorem dX10_factor_150 : decode cX10_factor 150 = .ok (.if_icmp .ne 9, 3) := by decide +kernel
theorem dX10_factor_153 : decode cX10_factor 153 = .ok (.iload 11, 2) := by decide +kernel
theorem dX10_factor_155 : decode cX10_factor 155 = .ok (.i2l, 1) := by decide +kernel
theorem dX10_factor_156 : decode cX10_factor 156 = .ok (.goto 9, 3) := by decide +kernel
theorem dX10_factor_159 : decode cX10_factor 159 = .ok (.bipush 10, 2) := by decide +kernel
theorem dX10_factor_161 : decode cX10_factor 161 = .ok (.iload 11, 2) := by decide +kernel
theorem dX10_factor_163 : decode cX10_factor 163 = .ok (.isub, 1) := by decide +kernel
theorem dX10_factor_164 : decode cX10_factor 164 = .ok (.i2l, 1) := by decide +kernel
theorem dX10_factor_165 : decode cX10_factor 165 = .ok (.lmul, 1) := by decide +kernel
theorem dX10_factor_166 : decode cX10_factor 166 = .ok (.lstore 7, 2) := by decide +kernel
theorem dX10_factor_168 : decode cX10_factor 168 = .ok (.iinc 9 1, 3) := by decide +kernel
theorem dX10_factor_171 : decode cX10_factor 171 = .ok (.goto (-73), 3) := by decide +kernel
theorem dX10_factor_174 : decode cX10_factor 174 = .ok (.lload 7, 2) := by decide +kernel
theorem dX10_factor_176 : decode cX10_factor 176 = .ok (.lreturn, 1) := by decide +kernel
theorem kl_RX10_29 : KLk RX10 29 10 5 := ⟨RX10, TX10, 8, rfl, by decide, Or.inl (kwm 507 (by decide +kernel) (by decide +kernel))⟩
theorem kl_RX10_44 : KLk RX10 44 2 4 := ⟨RX2, TX2, 12, rfl, by decide, Or.inr (by decide +kernel)⟩
theorem kl_RX10_75 : KLk RX10 75 8 4 := ⟨RX8, TX8, 6, rfl, by decide, Or.inr (by decide +kernel)⟩
theorem kl_RX10_76 : KLk RX10 76 2 0 := ⟨RX2, TX2, 12, rfl, by decide, Or.inr (by decide +kernel)⟩
theorem kl_RX10_80 : KLk RX10 80 2 5 := ⟨RX2, TX2, 12, rfl, by decide, Or.inr (by decide +kernel)⟩
theorem kl_RX10_83 : KLk RX10 83 8 5 := ⟨RX8, TX8, 6, rfl, by decide, Or.inr (by decide +kernel)⟩
theorem kl_RX10_86 : KLk RX10 86 2 2 := ⟨RX2, TX2, 12, rfl, by decide, Or.inr (by decide +kernel)⟩
def E_X10_factor_l25 (h : KH) (v1 : Nat) (v2 : Nat) (v3 : Int32) (v4 : Int32) (v5 : Int32) (v6 : Int32) : ((Unit) ⊕ (Int64)) → Nat → List (Nat × Value) → List Value → KH → Prop := Sum.elim (fun (e : Unit) pc ls st hh => pc = 74 ∧ ls = [(1, .ref v1), (2, .ref v2), (3, .int v3), (4, .int v4), (5, .int v5)] ∧ st = [] ∧ h = hh) (fun o => (KRl cX10_factor o h))
def B_X10_factor_l25 (h : KH) (v1 : Nat) (v2 : Nat) (v3 : Int32) (v4 : Int32) (v5 : Int32) (v6 : Int32) : ((Int32) ⊕ ((Unit) ⊕ (Int64))) → Nat → List (Nat × Value) → List Value → KH → Prop := Sum.elim (fun (s : Int32) pc ls st hh => pc = 25 ∧ ls = [(1, .ref v1), (2, .ref v2), (3, .int v3), (4, .int v4), (5, .int v5), (6, .int v6), (7, .int s)] ∧ st = [] ∧ hh = h) (E_X10_factor_l25 h v1 v2 v3 v4 v5 v6)
def f_X10_factor_b68 (h : KH) (v1 : Nat) (v2 : Nat) (v3 : Int32) (v4 : Int32) (v5 : Int32) (v6 : Int32) (v7 : Int32) : Option ((Int32) ⊕ ((Unit) ⊕ (Int64))) :=
  kl (v7 + (1 : Int32)) fun x1 =>
  some (.inl x1)
set_option maxHeartbeats 4000000 in
set_option maxRecDepth 100000 in
theorem s_X10_factor_b68 {Z : Nat → (Nat → Nat) → State → Prop} (h : KH) (v1 : Nat) (v2 : Nat) (v3 : Int32) (v4 : Int32) (v5 : Int32) (v6 : Int32) (v7 : Int32) {t : (Int32) ⊕ ((Unit) ⊕ (Int64))} (hn : h.1 = 243) (H : f_X10_factor_b68 h v1 v2 v3 v4 v5 v6 v7 = some t) : KX Z RX10 cX10_factor 12 false 1 (B_X10_factor_l25 h v1 v2 v3 v4 v5 v6 t) 68 [(1, .ref v1), (2, .ref v2), (3, .int v3), (4, .int v4), (5, .int v5), (6, .int v6), (7, .int v7)] [] h := by
  unfold f_X10_factor_b68 at H
  replace H := kle H; obtain ⟨x1, q2, H⟩ := H
  refine x_iinc (q := 71) (i := 7) (ls2 := [(7, .int x1), (1, .ref v1), (2, .ref v2), (3, .int v3), (4, .int v4), (5, .int v5), (6, .int v6)]) dX10_factor_68 rfl rfl (by decide) (by rw [q2]; rfl) ?_
  refine x_goto dX10_factor_71 (q := 25) (by decide) ?_
  cases H
  refine x_sub (ls2 := [(1, .ref v1), (2, .ref v2), (3, .int v3), (4, .int v4), (5, .int v5), (6, .int v6), (7, .int x1)]) [1, 2, 3, 4, 5, 6, 0] rfl ?_
  exact x_end (x_cfg rfl)
def f_X10_factor_l25 (h : KH) (v1 : Nat) (v2 : Nat) (v3 : Int32) (v4 : Int32) (v5 : Int32) (v6 : Int32) (s : Int32) : Option ((Int32) ⊕ ((Unit) ⊕ (Int64))) :=
  if kkind v1 = 2 then if (kI h v1 4) ≤ s then
  some (.inr (.inl ()))
  else
  if kkind v2 = 8 then if (kR h v2 4) < 999999 then if kkind (kR h v2 4) = 20 then if (s < 0 ∨ klen (kR h v2 4) ≤ (s).toNatClampNeg) then none else kl (kI h (kR h v2 4) ((s).toNatClampNeg)) fun x7 =>
  if x7 = 0 then
  f_X10_factor_b68 h v1 v2 v3 v4 v5 v6 s
  else
  if (((x7 - (1 : Int32)) >>> (v3 &&& 31)) &&& (1 : Int32)) = ((v6 >>> (s &&& 31)) &&& (1 : Int32)) then
  f_X10_factor_b68 h v1 v2 v3 v4 v5 v6 s
  else
  kout2 (some (0 : Int64)) else none else none else none else none
set_option maxHeartbeats 4000000 in
set_option maxRecDepth 100000 in
theorem s_X10_factor_l25 {Z : Nat → (Nat → Nat) → State → Prop} (h : KH) (v1 : Nat) (v2 : Nat) (v3 : Int32) (v4 : Int32) (v5 : Int32) (v6 : Int32) (s : Int32) (t : (Int32) ⊕ ((Unit) ⊕ (Int64))) (hn : (h).1 = 243) (H : f_X10_factor_l25 h v1 v2 v3 v4 v5 v6 s = some t) : KX Z RX10 cX10_factor 12 false 1 (B_X10_factor_l25 h v1 v2 v3 v4 v5 v6 t) 25 [(1, .ref v1), (2, .ref v2), (3, .int v3), (4, .int v4), (5, .int v5), (6, .int v6), (7, .int s)] [] h := by
  unfold f_X10_factor_l25 at H
  refine x_iload (q := 27) dX10_factor_25 rfl rfl ?_
  refine x_aload_n (q := 28) dX10_factor_27 rfl rfl ?_
  replace H := kif H; obtain ⟨g1, H⟩ := H
  refine x_getI (q := 31) dX10_factor_28 rfl kl_RX10_44 (Or.inl rfl) (k243 g1 (by decide) hn) ?_
  replace H := kite H; rcases H with ⟨g2, H⟩ | ⟨g2, H⟩
  · refine x_icmp_ge_t dX10_factor_31 (q := 74) (by decide) g2 ?_
    cases H
    refine x_sub (ls2 := [(1, .ref v1), (2, .ref v2), (3, .int v3), (4, .int v4), (5, .int v5)]) [0, 1, 2, 3, 4] rfl ?_
    exact x_end (x_cfg rfl)
  · refine x_icmp_ge_f (q := 34) dX10_factor_31 (t := 74) (by decide) rfl g2 ?_
    refine x_aload_n (q := 35) dX10_factor_34 rfl rfl ?_
    replace H := kif H; obtain ⟨g3, H⟩ := H
    replace H := kif H; obtain ⟨g4, H⟩ := H
    refine x_getR (q := 38) dX10_factor_35 rfl kl_RX10_75 rfl (k243 g3 (by decide) hn) g4 ?_
    refine x_iload (q := 40) dX10_factor_38 rfl rfl ?_
    replace H := kif H; obtain ⟨g5, H⟩ := H
    replace H := kifn H; obtain ⟨g6, H⟩ := H
    refine x_iald (q := 41) dX10_factor_40 rfl (k243 g5 (by decide) hn) g6 ?_
    replace H := kle H; obtain ⟨x7, q8, H⟩ := H
    refine x_nmI q8 ?_
    refine x_istore (q := 43) (i := 8) (ls2 := [(8, .int x7), (1, .ref v1), (2, .ref v2), (3, .int v3), (4, .int v4), (5, .int v5), (6, .int v6), (7, .int s)]) dX10_factor_41 rfl (by decide) rfl ?_
    refine x_iload (q := 45) dX10_factor_43 rfl rfl ?_
    replace H := kite H; rcases H with ⟨g9, H⟩ | ⟨g9, H⟩
    · refine x_if_eq_t dX10_factor_45 (q := 68) (by decide) g9 ?_
      refine x_sub (ls2 := [(1, .ref v1), (2, .ref v2), (3, .int v3), (4, .int v4), (5, .int v5), (6, .int v6), (7, .int s)]) [1, 2, 3, 4, 5, 6, 7] rfl ?_
      exact s_X10_factor_b68 h v1 v2 v3 v4 v5 v6 s hn H
    · refine x_if_eq_f (q := 48) dX10_factor_45 (t := 68) (by decide) rfl g9 ?_
      refine x_iload (q := 50) dX10_factor_48 rfl rfl ?_
      refine x_iconst (q := 51) (v := (1 : Int32)) dX10_factor_50 rfl (by decide) ?_
      refine x_isub (q := 52) dX10_factor_51 rfl ?_
      refine x_iload_n (q := 53) dX10_factor_52 rfl rfl ?_
      refine x_ishr (q := 54) dX10_factor_53 rfl ?_
      refine x_iconst (q := 55) (v := (1 : Int32)) dX10_factor_54 rfl (by decide) ?_
      refine x_iand (q := 56) dX10_factor_55 rfl ?_
      refine x_iload (q := 58) dX10_factor_56 rfl rfl ?_
      refine x_iload (q := 60) dX10_factor_58 rfl rfl ?_
      refine x_ishr (q := 61) dX10_factor_60 rfl ?_
      refine x_iconst (q := 62) (v := (1 : Int32)) dX10_factor_61 rfl (by decide) ?_
      refine x_iand (q := 63) dX10_factor_62 rfl ?_
      replace H := kite H; rcases H with ⟨g10, H⟩ | ⟨g10, H⟩
      · refine x_icmp_eq_t dX10_factor_63 (q := 68) (by decide) g10 ?_
        refine x_sub (ls2 := [(1, .ref v1), (2, .ref v2), (3, .int v3), (4, .int v4), (5, .int v5), (6, .int v6), (7, .int s)]) [1, 2, 3, 4, 5, 6, 7] rfl ?_
        exact s_X10_factor_b68 h v1 v2 v3 v4 v5 v6 s hn H
      · refine x_icmp_eq_f (q := 66) dX10_factor_63 (t := 68) (by decide) rfl g10 ?_
        replace H := ko2e H; obtain ⟨o11, H, rfl⟩ := H
        refine x_lconst (q := 67) (v := (0 : Int64)) dX10_factor_66 rfl (by decide) ?_
        cases H
        exact x_end ⟨dX10_factor_67, rfl, rfl⟩
theorem sl_X10_factor_l25 {Z : Nat → (Nat → Nat) → State → Prop} (h : KH) (v1 : Nat) (v2 : Nat) (v3 : Int32) (v4 : Int32) (v5 : Int32) (v6 : Int32) (n : Nat) (s : Int32) (r : (Unit) ⊕ (Int64)) (hn : (h).1 = 243) (H : kloop (f_X10_factor_l25 h v1 v2 v3 v4 v5 v6) n s = some r) : KX Z RX10 cX10_factor 12 false 1 (E_X10_factor_l25 h v1 v2 v3 v4 v5 v6 r) 25 [(1, .ref v1), (2, .ref v2), (3, .int v3), (4, .int v4), (5, .int v5), (6, .int v6), (7, .int s)] [] h :=
  k_loop (ls := (fun (s : Int32) => ([(1, .ref v1), (2, .ref v2), (3, .int v3), (4, .int v4), (5, .int v5), (6, .int v6), (7, .int s)] : List (Nat × Value)))) (hp := (fun (s : Int32) => (h : KH))) (G := E_X10_factor_l25 h v1 v2 v3 v4 v5 v6) (fun s t hn H => s_X10_factor_l25 h v1 v2 v3 v4 v5 v6 s t hn H) n s r hn H
def E_X10_factor_l98 (h : KH) (v1 : Nat) (v2 : Nat) (v3 : Int32) (v5 : Int32) : Int64 → Nat → List (Nat × Value) → List Value → KH → Prop := fun (e : Int64) pc ls st hh => pc = 174 ∧ ls = [(7, .long e)] ∧ st = [] ∧ h = hh
def B_X10_factor_l98 (h : KH) (v1 : Nat) (v2 : Nat) (v3 : Int32) (v5 : Int32) : ((Int64 × Int32) ⊕ (Int64)) → Nat → List (Nat × Value) → List Value → KH → Prop := Sum.elim (fun (s : Int64 × Int32) pc ls st hh => pc = 98 ∧ ls = [(1, .ref v1), (2, .ref v2), (3, .int v3), (5, .int v5), (7, .long s.1), (9, .int s.2)] ∧ st = [] ∧ hh = h) (E_X10_factor_l98 h v1 v2 v3 v5)
def f_X10_factor_b168 (h : KH) (v1 : Nat) (v2 : Nat) (v3 : Int32) (v5 : Int32) (v7 : Int64) (v9 : Int32) : Option ((Int64 × Int32) ⊕ (Int64)) :=
  kl (v9 + (1 : Int32)) fun x1 =>
  some (.inl (v7, x1))
set_option maxHeartbeats 4000000 in
set_option maxRecDepth 100000 in
theorem s_X10_factor_b168 {Z : Nat → (Nat → Nat) → State → Prop} (h : KH) (v1 : Nat) (v2 : Nat) (v3 : Int32) (v5 : Int32) (v7 : Int64) (v9 : Int32) {t : (Int64 × Int32) ⊕ (Int64)} (hn : h.1 = 243) (H : f_X10_factor_b168 h v1 v2 v3 v5 v7 v9 = some t) : KX Z RX10 cX10_factor 12 false 1 (B_X10_factor_l98 h v1 v2 v3 v5 t) 168 [(1, .ref v1), (2, .ref v2), (3, .int v3), (5, .int v5), (7, .long v7), (9, .int v9)] [] h := by
  unfold f_X10_factor_b168 at H
  replace H := kle H; obtain ⟨x1, q2, H⟩ := H
  refine x_iinc (q := 171) (i := 9) (ls2 := [(9, .int x1), (1, .ref v1), (2, .ref v2), (3, .int v3), (5, .int v5), (7, .long v7)]) dX10_factor_168 rfl rfl (by decide) (by rw [q2]; rfl) ?_
  refine x_goto dX10_factor_171 (q := 98) (by decide) ?_
  cases H
  refine x_sub (ls2 := [(1, .ref v1), (2, .ref v2), (3, .int v3), (5, .int v5), (7, .long v7), (9, .int x1)]) [1, 2, 3, 4, 5, 0] rfl ?_
  exact x_end (x_cfg rfl)
def f_X10_factor_b165 (h : KH) (v1 : Nat) (v2 : Nat) (v3 : Int32) (v5 : Int32) (v9 : Int32) (w0 : Int64) (w1 : Int64) : Option ((Int64 × Int32) ⊕ (Int64)) :=
  kl (w0 * w1) fun x1 =>
  f_X10_factor_b168 h v1 v2 v3 v5 x1 v9
set_option maxHeartbeats 4000000 in
set_option maxRecDepth 100000 in
theorem s_X10_factor_b165 {Z : Nat → (Nat → Nat) → State → Prop} (h : KH) (v1 : Nat) (v2 : Nat) (v3 : Int32) (v5 : Int32) (v9 : Int32) (w0 : Int64) (w1 : Int64) {t : (Int64 × Int32) ⊕ (Int64)} (hn : h.1 = 243) (H : f_X10_factor_b165 h v1 v2 v3 v5 v9 w0 w1 = some t) : KX Z RX10 cX10_factor 12 false 1 (B_X10_factor_l98 h v1 v2 v3 v5 t) 165 [(1, .ref v1), (2, .ref v2), (3, .int v3), (5, .int v5), (9, .int v9)] [.long w1, .long w0] h := by
  unfold f_X10_factor_b165 at H
  refine x_lmul (q := 166) dX10_factor_165 rfl ?_
  replace H := kle H; obtain ⟨x1, q2, H⟩ := H
  refine x_nmL q2 ?_
  refine x_lstore (q := 168) (i := 7) (ls2 := [(7, .long x1), (1, .ref v1), (2, .ref v2), (3, .int v3), (5, .int v5), (9, .int v9)]) dX10_factor_166 rfl (by decide) rfl ?_
  refine x_sub (ls2 := [(1, .ref v1), (2, .ref v2), (3, .int v3), (5, .int v5), (7, .long x1), (9, .int v9)]) [1, 2, 3, 4, 0, 5] rfl ?_
  exact s_X10_factor_b168 h v1 v2 v3 v5 x1 v9 hn H
def f_X10_factor_b137 (h : KH) (v1 : Nat) (v2 : Nat) (v3 : Int32) (v5 : Int32) (v7 : Int64) (v9 : Int32) (v10 : Int32) (w0 : Nat) (w1 : Int32) : Option ((Int64 × Int32) ⊕ (Int64)) :=
  if kkind w0 = 20 then if (w1 < 0 ∨ klen w0 ≤ (w1).toNatClampNeg) then none else kl (kI h w0 ((w1).toNatClampNeg)) fun x3 =>
  if v10 = 0 then
  f_X10_factor_b168 h v1 v2 v3 v5 v7 v9
  else
  if v10 = (2 : Int32) then
  f_X10_factor_b165 h v1 v2 v3 v5 v9 v7 ((x3).toInt64)
  else
  f_X10_factor_b165 h v1 v2 v3 v5 v9 v7 ((((10 : Int32) - x3)).toInt64) else none
set_option maxHeartbeats 4000000 in
set_option maxRecDepth 100000 in
theorem s_X10_factor_b137 {Z : Nat → (Nat → Nat) → State → Prop} (h : KH) (v1 : Nat) (v2 : Nat) (v3 : Int32) (v5 : Int32) (v7 : Int64) (v9 : Int32) (v10 : Int32) (w0 : Nat) (w1 : Int32) {t : (Int64 × Int32) ⊕ (Int64)} (hn : h.1 = 243) (H : f_X10_factor_b137 h v1 v2 v3 v5 v7 v9 v10 w0 w1 = some t) : KX Z RX10 cX10_factor 12 false 1 (B_X10_factor_l98 h v1 v2 v3 v5 t) 137 [(1, .ref v1), (2, .ref v2), (3, .int v3), (5, .int v5), (7, .long v7), (9, .int v9), (10, .int v10)] [.int w1, .ref w0] h := by
  unfold f_X10_factor_b137 at H
  replace H := kif H; obtain ⟨g1, H⟩ := H
  replace H := kifn H; obtain ⟨g2, H⟩ := H
  refine x_iald (q := 138) dX10_factor_137 rfl (k243 g1 (by decide) hn) g2 ?_
  replace H := kle H; obtain ⟨x3, q4, H⟩ := H
  refine x_nmI q4 ?_
  refine x_istore (q := 140) (i := 11) (ls2 := [(11, .int x3), (1, .ref v1), (2, .ref v2), (3, .int v3), (5, .int v5), (7, .long v7), (9, .int v9), (10, .int v10)]) dX10_factor_138 rfl (by decide) rfl ?_
  refine x_iload (q := 142) dX10_factor_140 rfl rfl ?_
  replace H := kite H; rcases H with ⟨g5, H⟩ | ⟨g5, H⟩
  · refine x_if_eq_t dX10_factor_142 (q := 168) (by decide) g5 ?_
    refine x_sub (ls2 := [(1, .ref v1), (2, .ref v2), (3, .int v3), (5, .int v5), (7, .long v7), (9, .int v9)]) [1, 2, 3, 4, 5, 6] rfl ?_
    exact s_X10_factor_b168 h v1 v2 v3 v5 v7 v9 hn H
  · refine x_if_eq_f (q := 145) dX10_factor_142 (t := 168) (by decide) rfl g5 ?_
    refine x_lload (q := 147) dX10_factor_145 rfl rfl ?_
    refine x_iload (q := 149) dX10_factor_147 rfl rfl ?_
    refine x_iconst (q := 150) (v := (2 : Int32)) dX10_factor_149 rfl (by decide) ?_
    replace H := kite H; rcases H with ⟨g6, H⟩ | ⟨g6, H⟩
    · refine x_icmp_ne_f (q := 153) dX10_factor_150 (t := 159) (by decide) rfl g6 ?_
      refine x_iload (q := 155) dX10_factor_153 rfl rfl ?_
      refine x_i2l (q := 156) dX10_factor_155 rfl ?_
      refine x_goto dX10_factor_156 (q := 165) (by decide) ?_
      refine x_sub (ls2 := [(1, .ref v1), (2, .ref v2), (3, .int v3), (5, .int v5), (9, .int v9)]) [1, 2, 3, 4, 6] rfl ?_
      exact s_X10_factor_b165 h v1 v2 v3 v5 v9 v7 ((x3).toInt64) hn H
    · refine x_icmp_ne_t dX10_factor_150 (q := 159) (by decide) g6 ?_
      refine x_bipush (q := 161) (v := (10 : Int32)) dX10_factor_159 rfl (by decide) ?_
      refine x_iload (q := 163) dX10_factor_161 rfl rfl ?_
      refine x_isub (q := 164) dX10_factor_163 rfl ?_
      refine x_i2l (q := 165) dX10_factor_164 rfl ?_
      refine x_sub (ls2 := [(1, .ref v1), (2, .ref v2), (3, .int v3), (5, .int v5), (9, .int v9)]) [1, 2, 3, 4, 6] rfl ?_
      exact s_X10_factor_b165 h v1 v2 v3 v5 v9 v7 ((((10 : Int32) - x3)).toInt64) hn H
def f_X10_factor_l98 (h : KH) (v1 : Nat) (v2 : Nat) (v3 : Int32) (v5 : Int32) (s : Int64 × Int32) : Option ((Int64 × Int32) ⊕ (Int64)) :=
  if kkind v1 = 2 then if (kI h v1 5) ≤ s.2 then
  some (.inr s.1)
  else
  if kkind v2 = 8 then if (kR h v2 5) < 999999 then if kkind (kR h v2 5) = 20 then if ((((2 : Int32) * s.2) + v3) < 0 ∨ klen (kR h v2 5) ≤ ((((2 : Int32) * s.2) + v3)).toNatClampNeg) then none else kl (kI h (kR h v2 5) (((((2 : Int32) * s.2) + v3)).toNatClampNeg)) fun x7 =>
  if (kR h v1 2) < 999999 then if kkind (kR h v1 2) = 24 then if (s.2 < 0 ∨ klen (kR h v1 2) ≤ (s.2).toNatClampNeg) then none else if (kR h (kR h v1 2) ((s.2).toNatClampNeg)) < 999999 then if v5 = 0 then
  f_X10_factor_b137 h v1 v2 v3 v5 s.1 s.2 x7 (kR h (kR h v1 2) ((s.2).toNatClampNeg)) (2 : Int32)
  else
  f_X10_factor_b137 h v1 v2 v3 v5 s.1 s.2 x7 (kR h (kR h v1 2) ((s.2).toNatClampNeg)) (1 : Int32) else none else none else none else none else none else none else none
set_option maxHeartbeats 4000000 in
set_option maxRecDepth 100000 in
theorem s_X10_factor_l98 {Z : Nat → (Nat → Nat) → State → Prop} (h : KH) (v1 : Nat) (v2 : Nat) (v3 : Int32) (v5 : Int32) (s : Int64 × Int32) (t : (Int64 × Int32) ⊕ (Int64)) (hn : (h).1 = 243) (H : f_X10_factor_l98 h v1 v2 v3 v5 s = some t) : KX Z RX10 cX10_factor 12 false 1 (B_X10_factor_l98 h v1 v2 v3 v5 t) 98 [(1, .ref v1), (2, .ref v2), (3, .int v3), (5, .int v5), (7, .long s.1), (9, .int s.2)] [] h := by
  unfold f_X10_factor_l98 at H
  refine x_iload (q := 100) dX10_factor_98 rfl rfl ?_
  refine x_aload_n (q := 101) dX10_factor_100 rfl rfl ?_
  replace H := kif H; obtain ⟨g1, H⟩ := H
  refine x_getI (q := 104) dX10_factor_101 rfl kl_RX10_80 (Or.inl rfl) (k243 g1 (by decide) hn) ?_
  replace H := kite H; rcases H with ⟨g2, H⟩ | ⟨g2, H⟩
  · refine x_icmp_ge_t dX10_factor_104 (q := 174) (by decide) g2 ?_
    cases H
    refine x_sub (ls2 := [(7, .long s.1)]) [4] rfl ?_
    exact x_end (x_cfg rfl)
  · refine x_icmp_ge_f (q := 107) dX10_factor_104 (t := 174) (by decide) rfl g2 ?_
    refine x_aload_n (q := 108) dX10_factor_107 rfl rfl ?_
    replace H := kif H; obtain ⟨g3, H⟩ := H
    replace H := kif H; obtain ⟨g4, H⟩ := H
    refine x_getR (q := 111) dX10_factor_108 rfl kl_RX10_83 rfl (k243 g3 (by decide) hn) g4 ?_
    refine x_iconst (q := 112) (v := (2 : Int32)) dX10_factor_111 rfl (by decide) ?_
    refine x_iload (q := 114) dX10_factor_112 rfl rfl ?_
    refine x_imul (q := 115) dX10_factor_114 rfl ?_
    refine x_iload_n (q := 116) dX10_factor_115 rfl rfl ?_
    refine x_iadd (q := 117) dX10_factor_116 rfl ?_
    replace H := kif H; obtain ⟨g5, H⟩ := H
    replace H := kifn H; obtain ⟨g6, H⟩ := H
    refine x_iald (q := 118) dX10_factor_117 rfl (k243 g5 (by decide) hn) g6 ?_
    replace H := kle H; obtain ⟨x7, q8, H⟩ := H
    refine x_nmI q8 ?_
    refine x_istore (q := 120) (i := 10) (ls2 := [(10, .int x7), (1, .ref v1), (2, .ref v2), (3, .int v3), (5, .int v5), (7, .long s.1), (9, .int s.2)]) dX10_factor_118 rfl (by decide) rfl ?_
    refine x_aload_n (q := 121) dX10_factor_120 rfl rfl ?_
    replace H := kif H; obtain ⟨g9, H⟩ := H
    refine x_getR (q := 124) dX10_factor_121 rfl kl_RX10_86 rfl (k243 g1 (by decide) hn) g9 ?_
    refine x_iload (q := 126) dX10_factor_124 rfl rfl ?_
    replace H := kif H; obtain ⟨g10, H⟩ := H
    replace H := kifn H; obtain ⟨g11, H⟩ := H
    replace H := kif H; obtain ⟨g12, H⟩ := H
    refine x_aald (q := 127) dX10_factor_126 rfl (Or.inl rfl) (k243 g10 (by decide) hn) g11 g12 ?_
    refine x_iload (q := 129) dX10_factor_127 rfl rfl ?_
    replace H := kite H; rcases H with ⟨g13, H⟩ | ⟨g13, H⟩
    · refine x_if_eq_t dX10_factor_129 (q := 136) (by decide) g13 ?_
      refine x_iconst (q := 137) (v := (2 : Int32)) dX10_factor_136 rfl (by decide) ?_
      refine x_sub (ls2 := [(1, .ref v1), (2, .ref v2), (3, .int v3), (5, .int v5), (7, .long s.1), (9, .int s.2), (10, .int x7)]) [1, 2, 3, 4, 5, 6, 0] rfl ?_
      exact s_X10_factor_b137 h v1 v2 v3 v5 s.1 s.2 x7 (kR h (kR h v1 2) ((s.2).toNatClampNeg)) (2 : Int32) hn H
    · refine x_if_eq_f (q := 132) dX10_factor_129 (t := 136) (by decide) rfl g13 ?_
      refine x_iconst (q := 133) (v := (1 : Int32)) dX10_factor_132 rfl (by decide) ?_
      refine x_goto dX10_factor_133 (q := 137) (by decide) ?_
      refine x_sub (ls2 := [(1, .ref v1), (2, .ref v2), (3, .int v3), (5, .int v5), (7, .long s.1), (9, .int s.2), (10, .int x7)]) [1, 2, 3, 4, 5, 6, 0] rfl ?_
      exact s_X10_factor_b137 h v1 v2 v3 v5 s.1 s.2 x7 (kR h (kR h v1 2) ((s.2).toNatClampNeg)) (1 : Int32) hn H
theorem sl_X10_factor_l98 {Z : Nat → (Nat → Nat) → State → Prop} (h : KH) (v1 : Nat) (v2 : Nat) (v3 : Int32) (v5 : Int32) (n : Nat) (s : Int64 × Int32) (r : Int64) (hn : (h).1 = 243) (H : kloop (f_X10_factor_l98 h v1 v2 v3 v5) n s = some r) : KX Z RX10 cX10_factor 12 false 1 (E_X10_factor_l98 h v1 v2 v3 v5 r) 98 [(1, .ref v1), (2, .ref v2), (3, .int v3), (5, .int v5), (7, .long s.1), (9, .int s.2)] [] h :=
  k_loop (ls := (fun (s : Int64 × Int32) => ([(1, .ref v1), (2, .ref v2), (3, .int v3), (5, .int v5), (7, .long s.1), (9, .int s.2)] : List (Nat × Value)))) (hp := (fun (s : Int64 × Int32) => (h : KH))) (G := E_X10_factor_l98 h v1 v2 v3 v5) (fun s t hn H => s_X10_factor_l98 h v1 v2 v3 v5 s t hn H) n s r hn H
def f_X10_factor_b91 (h : KH) (v1 : Nat) (v2 : Nat) (v3 : Int32) (v5 : Int32) (w0 : Nat) (w1 : Int32) : Option (Int64) :=
  if kkind w0 = 20 then if (w1 < 0 ∨ klen w0 ≤ (w1).toNatClampNeg) then none else kl (((kI h w0 ((w1).toNatClampNeg))).toInt64) fun x3 =>
  kb (kloop (f_X10_factor_l98 h v1 v2 v3 v5) KF (x3, (0 : Int32))) fun e5 =>
  some e5 else none
set_option maxHeartbeats 4000000 in
set_option maxRecDepth 100000 in
theorem s_X10_factor_b91 {Z : Nat → (Nat → Nat) → State → Prop} (h : KH) (v1 : Nat) (v2 : Nat) (v3 : Int32) (v5 : Int32) (w0 : Nat) (w1 : Int32) {t : Int64} (hn : h.1 = 243) (H : f_X10_factor_b91 h v1 v2 v3 v5 w0 w1 = some t) : KX Z RX10 cX10_factor 12 false 1 (KRl cX10_factor t h) 91 [(1, .ref v1), (2, .ref v2), (3, .int v3), (5, .int v5)] [.int w1, .ref w0] h := by
  unfold f_X10_factor_b91 at H
  replace H := kif H; obtain ⟨g1, H⟩ := H
  replace H := kifn H; obtain ⟨g2, H⟩ := H
  refine x_iald (q := 92) dX10_factor_91 rfl (k243 g1 (by decide) hn) g2 ?_
  refine x_i2l (q := 93) dX10_factor_92 rfl ?_
  replace H := kle H; obtain ⟨x3, q4, H⟩ := H
  refine x_nmL q4 ?_
  refine x_lstore (q := 95) (i := 7) (ls2 := [(7, .long x3), (1, .ref v1), (2, .ref v2), (3, .int v3), (5, .int v5)]) dX10_factor_93 rfl (by decide) rfl ?_
  refine x_iconst (q := 96) (v := (0 : Int32)) dX10_factor_95 rfl (by decide) ?_
  refine x_istore (q := 98) (i := 9) (ls2 := [(9, .int (0 : Int32)), (7, .long x3), (1, .ref v1), (2, .ref v2), (3, .int v3), (5, .int v5)]) dX10_factor_96 rfl (by decide) rfl ?_
  refine x_sub (ls2 := [(1, .ref v1), (2, .ref v2), (3, .int v3), (5, .int v5), (7, .long x3), (9, .int (0 : Int32))]) [2, 3, 4, 5, 1, 0] rfl ?_
  replace H := kbe H; obtain ⟨e5, c6, H⟩ := H
  refine x_app (sl_X10_factor_l98 h v1 v2 v3 v5 KF (x3, (0 : Int32)) e5 hn c6) fun pc2 ls2 st2 h2 hg m7 => ?_
  obtain ⟨rfl, rfl, rfl, rfl⟩ := hg
  refine x_lload (q := 176) dX10_factor_174 rfl rfl ?_
  cases H
  exact x_end ⟨dX10_factor_176, rfl, rfl⟩
def f_X10_factor_b18 (h : KH) (v1 : Nat) (v2 : Nat) (v3 : Int32) (v4 : Int32) (v5 : Int32) (w0 : Nat) (w1 : Int32) (w2 : Int32) : Option (Int64) :=
  if kkind w0 = 20 then if ((w1 + w2) < 0 ∨ klen w0 ≤ ((w1 + w2)).toNatClampNeg) then none else kl (kI h w0 (((w1 + w2)).toNatClampNeg)) fun x3 =>
  kb (kloop (f_X10_factor_l25 h v1 v2 v3 v4 v5 x3) KF (0 : Int32)) fun e5 =>
  ksum e5 (fun x8 =>
  if kkind v1 = 2 then if (kR h v1 0) < 999999 then if kkind (kR h v1 0) = 24 then if (v4 < 0 ∨ klen (kR h v1 0) ≤ (v4).toNatClampNeg) then none else if (kR h (kR h v1 0) ((v4).toNatClampNeg)) < 999999 then if v5 = 0 then
  f_X10_factor_b91 h v1 v2 v3 v5 (kR h (kR h v1 0) ((v4).toNatClampNeg)) (4 : Int32)
  else
  f_X10_factor_b91 h v1 v2 v3 v5 (kR h (kR h v1 0) ((v4).toNatClampNeg)) (3 : Int32) else none else none else none else none) (fun o9 => some o9) else none
set_option maxHeartbeats 4000000 in
set_option maxRecDepth 100000 in
theorem s_X10_factor_b18 {Z : Nat → (Nat → Nat) → State → Prop} (h : KH) (v1 : Nat) (v2 : Nat) (v3 : Int32) (v4 : Int32) (v5 : Int32) (w0 : Nat) (w1 : Int32) (w2 : Int32) {t : Int64} (hn : h.1 = 243) (H : f_X10_factor_b18 h v1 v2 v3 v4 v5 w0 w1 w2 = some t) : KX Z RX10 cX10_factor 12 false 1 (KRl cX10_factor t h) 18 [(1, .ref v1), (2, .ref v2), (3, .int v3), (4, .int v4), (5, .int v5)] [.int w2, .int w1, .ref w0] h := by
  unfold f_X10_factor_b18 at H
  refine x_iadd (q := 19) dX10_factor_18 rfl ?_
  replace H := kif H; obtain ⟨g1, H⟩ := H
  replace H := kifn H; obtain ⟨g2, H⟩ := H
  refine x_iald (q := 20) dX10_factor_19 rfl (k243 g1 (by decide) hn) g2 ?_
  replace H := kle H; obtain ⟨x3, q4, H⟩ := H
  refine x_nmI q4 ?_
  refine x_istore (q := 22) (i := 6) (ls2 := [(6, .int x3), (1, .ref v1), (2, .ref v2), (3, .int v3), (4, .int v4), (5, .int v5)]) dX10_factor_20 rfl (by decide) rfl ?_
  refine x_iconst (q := 23) (v := (0 : Int32)) dX10_factor_22 rfl (by decide) ?_
  refine x_istore (q := 25) (i := 7) (ls2 := [(7, .int (0 : Int32)), (6, .int x3), (1, .ref v1), (2, .ref v2), (3, .int v3), (4, .int v4), (5, .int v5)]) dX10_factor_23 rfl (by decide) rfl ?_
  refine x_sub (ls2 := [(1, .ref v1), (2, .ref v2), (3, .int v3), (4, .int v4), (5, .int v5), (6, .int x3), (7, .int (0 : Int32))]) [2, 3, 4, 5, 6, 1, 0] rfl ?_
  replace H := kbe H; obtain ⟨e5, c6, H⟩ := H
  refine x_app (sl_X10_factor_l25 h v1 v2 v3 v4 v5 x3 KF (0 : Int32) e5 hn c6) fun pc2 ls2 st2 h2 hg m7 => ?_
  replace H := kse H; rcases H with ⟨x8, rfl, H⟩ | ⟨o9, rfl, H⟩
  · obtain ⟨rfl, rfl, rfl, rfl⟩ := hg
    refine x_aload_n (q := 75) dX10_factor_74 rfl rfl ?_
    replace H := kif H; obtain ⟨g10, H⟩ := H
    replace H := kif H; obtain ⟨g11, H⟩ := H
    refine x_getR (q := 78) dX10_factor_75 rfl kl_RX10_76 rfl (k243 g10 (by decide) hn) g11 ?_
    refine x_iload (q := 80) dX10_factor_78 rfl rfl ?_
    replace H := kif H; obtain ⟨g12, H⟩ := H
    replace H := kifn H; obtain ⟨g13, H⟩ := H
    replace H := kif H; obtain ⟨g14, H⟩ := H
    refine x_aald (q := 81) dX10_factor_80 rfl (Or.inl rfl) (k243 g12 (by decide) hn) g13 g14 ?_
    refine x_iload (q := 83) dX10_factor_81 rfl rfl ?_
    replace H := kite H; rcases H with ⟨g15, H⟩ | ⟨g15, H⟩
    · refine x_if_eq_t dX10_factor_83 (q := 90) (by decide) g15 ?_
      refine x_iconst (q := 91) (v := (4 : Int32)) dX10_factor_90 rfl (by decide) ?_
      refine x_sub (ls2 := [(1, .ref v1), (2, .ref v2), (3, .int v3), (5, .int v5)]) [0, 1, 2, 4] rfl ?_
      exact s_X10_factor_b91 h v1 v2 v3 v5 (kR h (kR h v1 0) ((v4).toNatClampNeg)) (4 : Int32) hn H
    · refine x_if_eq_f (q := 86) dX10_factor_83 (t := 90) (by decide) rfl g15 ?_
      refine x_iconst (q := 87) (v := (3 : Int32)) dX10_factor_86 rfl (by decide) ?_
      refine x_goto dX10_factor_87 (q := 91) (by decide) ?_
      refine x_sub (ls2 := [(1, .ref v1), (2, .ref v2), (3, .int v3), (5, .int v5)]) [0, 1, 2, 4] rfl ?_
      exact s_X10_factor_b91 h v1 v2 v3 v5 (kR h (kR h v1 0) ((v4).toNatClampNeg)) (3 : Int32) hn H
  · cases H
    exact x_end hg
def f_X10_factor (h : KH) (v0 : Nat) (v1 : Nat) (v2 : Nat) (v3 : Int32) (v4 : Int32) (v5 : Int32) : Option (Int64) :=
  if kkind v0 = 10 then if (kR h v0 5) < 999999 then if v5 = 0 then
  f_X10_factor_b18 h v1 v2 v3 v4 v5 (kR h v0 5) ((2 : Int32) * v4) (0 : Int32)
  else
  f_X10_factor_b18 h v1 v2 v3 v4 v5 (kR h v0 5) ((2 : Int32) * v4) (1 : Int32) else none else none
set_option maxHeartbeats 4000000 in
set_option maxRecDepth 100000 in
theorem s0_X10_factor {Z : Nat → (Nat → Nat) → State → Prop} (h : KH) (v0 : Nat) (v1 : Nat) (v2 : Nat) (v3 : Int32) (v4 : Int32) (v5 : Int32) {t : Int64} (hn : h.1 = 243) (H : f_X10_factor h v0 v1 v2 v3 v4 v5 = some t) : KX Z RX10 cX10_factor 12 false 1 (KRl cX10_factor t h) 0 [(0, .ref v0), (1, .ref v1), (2, .ref v2), (3, .int v3), (4, .int v4), (5, .int v5)] [] h := by
  unfold f_X10_factor at H
  refine x_aload_n (q := 1) dX10_factor_0 rfl rfl ?_
  replace H := kif H; obtain ⟨g1, H⟩ := H
  replace H := kif H; obtain ⟨g2, H⟩ := H
  refine x_getR (q := 4) dX10_factor_1 rfl kl_RX10_29 rfl (k243 g1 (by decide) hn) g2 ?_
  refine x_iconst (q := 5) (v := (2 : Int32)) dX10_factor_4 rfl (by decide) ?_
  refine x_iload (q := 7) dX10_factor_5 rfl rfl ?_
  refine x_imul (q := 8) dX10_factor_7 rfl ?_
  refine x_iload (q := 10) dX10_factor_8 rfl rfl ?_
  replace H := kite H; rcases H with ⟨g3, H⟩ | ⟨g3, H⟩
  · refine x_if_eq_t dX10_factor_10 (q := 17) (by decide) g3 ?_
    refine x_iconst (q := 18) (v := (0 : Int32)) dX10_factor_17 rfl (by decide) ?_
    refine x_sub (ls2 := [(1, .ref v1), (2, .ref v2), (3, .int v3), (4, .int v4), (5, .int v5)]) [1, 2, 3, 4, 5] rfl ?_
    exact s_X10_factor_b18 h v1 v2 v3 v4 v5 (kR h v0 5) ((2 : Int32) * v4) (0 : Int32) hn H
  · refine x_if_eq_f (q := 13) dX10_factor_10 (t := 17) (by decide) rfl g3 ?_
    refine x_iconst (q := 14) (v := (1 : Int32)) dX10_factor_13 rfl (by decide) ?_
    refine x_goto dX10_factor_14 (q := 18) (by decide) ?_
    refine x_sub (ls2 := [(1, .ref v1), (2, .ref v2), (3, .int v3), (4, .int v4), (5, .int v5)]) [1, 2, 3, 4, 5] rfl ?_
    exact s_X10_factor_b18 h v1 v2 v3 v4 v5 (kR h v0 5) ((2 : Int32) * v4) (1 : Int32) hn H
theorem s_X10_factor {Z : Nat → (Nat → Nat) → State → Prop} (h : KH) (v0 : Nat) (v1 : Nat) (v2 : Nat) (v3 : Int32) (v4 : Int32) (v5 : Int32) {t : Int64} (hn : h.1 = 243) (H : f_X10_factor h v0 v1 v2 v3 v4 v5 = some t) : KM Z yX10_factor cX10_factor 12 (some .long) 1 [.ref v0, .ref v1, .ref v2, .int v3, .int v4, .int v5] h (some (.long t)) h :=
  kx_l (own := RX10) (ini := false) (by decide +kernel) (by decide +kernel) rfl (Nat.le_of_ble_eq_true rfl) (s0_X10_factor h v0 v1 v2 v3 v4 v5 hn H)
theorem dX10_put_0 : decode cX10_put 0 = .ok (.iload_n 1, 1) := by decide +kernel
theorem dX10_put_1 : decode cX10_put 1 = .ok (.bipush 6, 2) := by decide +kernel
theorem dX10_put_3 : decode cX10_put 3 = .ok (.imul, 1) := by decide +kernel
theorem dX10_put_4 : decode cX10_put 4 = .ok (.iload_n 2, 1) := by decide +kernel
theorem dX10_put_5 : decode cX10_put 5 = .ok (.iadd, 1) := by decide +kernel
theorem dX10_put_6 : decode cX10_put 6 = .ok (.bipush 6, 2) := by decide +kernel
theorem dX10_put_8 : decode cX10_put 8 = .ok (.imul, 1) := by decide +kernel
theorem dX10_put_9 : decode cX10_put 9 = .ok (.iload_n 3, 1) := by decide +kernel
theorem dX10_put_10 : decode cX10_put 10 = .ok (.iadd, 1) := by decide +kernel
theorem dX10_put_11 : decode cX10_put 11 = .ok (.istore 6, 2) := by decide +kernel
theorem dX10_put_13 : decode cX10_put 13 = .ok (.lload 4, 2) := by decide +kernel
theorem dX10_put_15 : decode cX10_put 15 = .ok (.lconst 0, 1) := by decide +kernel
theorem dX10_put_16 : decode cX10_put 16 = .ok (.lcmp, 1) := by decide +kernel
theorem dX10_put_17 : decode cX10_put 17 = .ok (.ifCond .le 99, 3) := by decide +kernel
theorem dX10_put_20 : decode cX10_put 20 = .ok (.iload 6, 2) := by decide +kernel
theorem dX10_put_22 : decode cX10_put 22 = .ok (.aload_n 0, 1) := by decide +kernel
theorem dX10_put_23 : decode cX10_put 23 = .ok (.getfield 11, 3) := by decide +kernel
theorem dX10_put_26 : decode cX10_put 26 = .ok (.arraylength, 1) := by decide +kernel
theorem dX10_put_27 : decode cX10_put 27 = .ok (.if_icmp .ge 89, 3) := by decide +kernel
theorem dX10_put_30 : decode cX10_put 30 = .ok (.aload_n 0, 1) := by decide +kernel
theorem dX10_put_31 : decode cX10_put 31 = .ok (.getfield 22, 3) := by decide +kernel
theorem dX10_put_34 : decode cX10_put 34 = .ok (.aload_n 0, 1) := by decide +kernel
theorem dX10_put_35 : decode cX10_put 35 = .ok (.getfield 19, 3) := by decide +kernel
theorem dX10_put_38 : decode cX10_put 38 = .ok (.arraylength, 1) := by decide +kernel
theorem dX10_put_39 : decode cX10_put 39 = .ok (.if_icmp .ge 77, 3) := by decide +kernel
theorem dX10_put_42 : decode cX10_put 42 = .ok (.aload_n 0, 1) := by decide +kernel
theorem dX10_put_43 : decode cX10_put 43 = .ok (.getfield 11, 3) := by decide +kernel
theorem dX10_put_46 : decode cX10_put 46 = .ok (.iload 6, 2) := by decide +kernel
theorem dX10_put_48 : decode cX10_put 48 = .ok (.lload 4, 2) := by decide +kernel
theorem dX10_put_50 : decode cX10_put 50 = .ok (.lastore, 1) := by decide +kernel
theorem dX10_put_51 : decode cX10_put 51 = .ok (.aload_n 0, 1) := by decide +kernel
theorem dX10_put_52 : decode cX10_put 52 = .ok (.getfield 15, 3) := by decide +kernel
theorem dX10_put_55 : decode cX10_put 55 = .ok (.iload 6, 2) := by decide +kernel
theorem dX10_put_57 : decode cX10_put 57 = .ok (.aload_n 0, 1) := by decide +kernel
theorem dX10_put_58 : decode cX10_put 58 = .ok (.getfield 29, 3) := by decide +kernel
theorem dX10_put_61 : decode cX10_put 61 = .ok (.iconst 2, 1) := by decide +kernel
theorem dX10_put_62 : decode cX10_put 62 = .ok (.iload_n 2, 1) := by decide +kernel
theorem dX10_put_63 : decode cX10_put 63 = .ok (.imul, 1) := by decide +kernel
theorem dX10_put_64 : decode cX10_put 64 = .ok (.iconst 1, 1) := by decide +kernel
theorem dX10_put_65 : decode cX10_put 65 = .ok (.iadd, 1) := by decide +kernel
theorem dX10_put_66 : decode cX10_put 66 = .ok (.iload_n 1, 1) := by decide +kernel
theorem dX10_put_67 : decode cX10_put 67 = .ok (.isub, 1) := by decide +kernel
theorem dX10_put_68 : decode cX10_put 68 = .ok (.iaload, 1) := by decide +kernel
theorem dX10_put_69 : decode cX10_put 69 = .ok (.bipush 6, 2) := by decide +kernel
theorem dX10_put_71 : decode cX10_put 71 = .ok (.ishl, 1) := by decide +kernel
theorem dX10_put_72 : decode cX10_put 72 = .ok (.aload_n 0, 1) := by decide +kernel
theorem dX10_put_73 : decode cX10_put 73 = .ok (.getfield 29, 3) := by decide +kernel
theorem dX10_put_76 : decode cX10_put 76 = .ok (.iconst 2, 1) := by decide +kernel
theorem dX10_put_77 : decode cX10_put 77 = .ok (.iload_n 3, 1) := by decide +kernel
theorem dX10_put_78 : decode cX10_put 78 = .ok (.imul, 1) := by decide +kernel
theorem dX10_put_79 : decode cX10_put 79 = .ok (.iload_n 1, 1) := by decide +kernel
theorem dX10_put_80 : decode cX10_put 80 = .ok (.iadd, 1) := by decide +kernel
theorem dX10_put_81 : decode cX10_put 81 = .ok (.iaload, 1) := by decide +kernel
theorem dX10_put_82 : decode cX10_put 82 = .ok (.ior, 1) := by decide +kernel
theorem dX10_put_83 : decode cX10_put 83 = .ok (.iastore, 1) := by decide +kernel
theorem dX10_put_84 : decode cX10_put 84 = .ok (.aload_n 0, 1) := by decide +kernel
theorem dX10_put_85 : decode cX10_put 85 = .ok (.getfield 26, 3) := by decide +kernel
theorem dX10_put_88 : decode cX10_put 88 = .ok (.iload_n 1, 1) := by decide +kernel
theorem dX10_put_89 : decode cX10_put 89 = .ok (.dup2, 1) := by decide +kernel
theorem dX10_put_90 : decode cX10_put 90 = .ok (.laload, 1) := by decide +kernel
theorem dX10_put_91 : decode cX10_put 91 = .ok (.lload 4, 2) := by decide +kernel
theorem dX10_put_93 : decode cX10_put 93 = .ok (.ladd, 1) := by decide +kernel
theorem dX10_put_94 : decode cX10_put 94 = .ok (.lastore, 1) := by decide +kernel
theorem dX10_put_95 : decode cX10_put 95 = .ok (.aload_n 0, 1) := by decide +kernel
theorem dX10_put_96 : decode cX10_put 96 = .ok (.getfield 19, 3) := by decide +kernel
theorem dX10_put_99 : decode cX10_put 99 = .ok (.aload_n 0, 1) := by decide +kernel
theorem dX10_put_100 : decode cX10_put 100 = .ok (.getfield 22, 3) := by decide +kernel
theorem dX10_put_103 : decode cX10_put 103 = .ok (.iload 6, 2) := by decide +kernel
theorem dX10_put_105 : decode cX10_put 105 = .ok (.iastore, 1) := by decide +kernel
theorem dX10_put_106 : decode cX10_put 106 = .ok (.aload_n 0, 1) := by decide +kernel
theorem dX10_put_107 : decode cX10_put 107 = .ok (.dup, 1) := by decide +kernel
theorem dX10_put_108 : decode cX10_put 108 = .ok (.getfield 22, 3) := by decide +kernel
theorem dX10_put_111 : decode cX10_put 111 = .ok (.iconst 1, 1) := by decide +kernel
theorem dX10_put_112 : decode cX10_put 112 = .ok (.iadd, 1) := by decide +kernel
theorem dX10_put_113 : decode cX10_put 113 = .ok (.putfield 22, 3) := by decide +kernel
theorem dX10_put_116 : decode cX10_put 116 = .ok (.return_, 1) := by decide +kernel
def f_X10_put (h : KH) (v0 : Nat) (v1 : Int32) (v2 : Int32) (v3 : Int32) (v4 : Int64) : Option (KH) :=
  kl ((((v1 * (6 : Int32)) + v2) * (6 : Int32)) + v3) fun x1 =>
  if (lg_cmp v4 (0 : Int64)) ≤ 0 then
  some h
  else
  if kkind v0 = 10 then if (kR h v0 0) < 999999 then if kkind (kR h v0 0) = 21 then if (Int32.ofNat (klen (kR h v0 0))) ≤ x1 then
  some h
  else
  if (kR h v0 2) < 999999 then if kkind (kR h v0 2) = 20 then if (Int32.ofNat (klen (kR h v0 2))) ≤ (kI h v0 3) then
  some h
  else
  if (x1 < 0 ∨ klen (kR h v0 0) ≤ (x1).toNatClampNeg) then none else kl (ksL h (kR h v0 0) ((x1).toNatClampNeg) v4) fun h12 =>
  if (kR h12 v0 1) < 999999 then if (kR h12 v0 5) < 999999 then if kkind (kR h12 v0 5) = 20 then if (((((2 : Int32) * v2) + (1 : Int32)) - v1) < 0 ∨ klen (kR h12 v0 5) ≤ (((((2 : Int32) * v2) + (1 : Int32)) - v1)).toNatClampNeg) then none else if ((((2 : Int32) * v3) + v1) < 0 ∨ klen (kR h12 v0 5) ≤ ((((2 : Int32) * v3) + v1)).toNatClampNeg) then none else if kkind (kR h12 v0 1) = 20 then if (x1 < 0 ∨ klen (kR h12 v0 1) ≤ (x1).toNatClampNeg) then none else kl (ksI h12 (kR h12 v0 1) ((x1).toNatClampNeg) (((kI h12 (kR h12 v0 5) ((((((2 : Int32) * v2) + (1 : Int32)) - v1)).toNatClampNeg)) <<< ((6 : Int32) &&& 31)) ||| (kI h12 (kR h12 v0 5) (((((2 : Int32) * v3) + v1)).toNatClampNeg)))) fun h22 =>
  if (kR h22 v0 4) < 999999 then if kkind (kR h22 v0 4) = 21 then if (v1 < 0 ∨ klen (kR h22 v0 4) ≤ (v1).toNatClampNeg) then none else kl (ksL h22 (kR h22 v0 4) ((v1).toNatClampNeg) ((kL h22 (kR h22 v0 4) ((v1).toNatClampNeg)) + v4)) fun h28 =>
  if (kR h28 v0 2) < 999999 then if kkind (kR h28 v0 2) = 20 then if ((kI h28 v0 3) < 0 ∨ klen (kR h28 v0 2) ≤ ((kI h28 v0 3)).toNatClampNeg) then none else kl (ksI h28 (kR h28 v0 2) (((kI h28 v0 3)).toNatClampNeg) x1) fun h34 =>
  kl (ksI h34 v0 3 ((kI h34 v0 3) + (1 : Int32))) fun h37 =>
  some h37 else none else none else none else none else none else none else none else none else none else none else none else none else none
set_option maxHeartbeats 4000000 in
set_option maxRecDepth 100000 in
theorem s0_X10_put {Z : Nat → (Nat → Nat) → State → Prop} (h : KH) (v0 : Nat) (v1 : Int32) (v2 : Int32) (v3 : Int32) (v4 : Int64) {t : KH} (hn : h.1 = 243) (H : f_X10_put h v0 v1 v2 v3 v4 = some t) : KX Z RX10 cX10_put 7 false 1 (KRv cX10_put t) 0 [(0, .ref v0), (1, .int v1), (2, .int v2), (3, .int v3), (4, .long v4)] [] h := by
  unfold f_X10_put at H
  refine x_iload_n (q := 1) dX10_put_0 rfl rfl ?_
  refine x_bipush (q := 3) (v := (6 : Int32)) dX10_put_1 rfl (by decide) ?_
  refine x_imul (q := 4) dX10_put_3 rfl ?_
  refine x_iload_n (q := 5) dX10_put_4 rfl rfl ?_
  refine x_iadd (q := 6) dX10_put_5 rfl ?_
  refine x_bipush (q := 8) (v := (6 : Int32)) dX10_put_6 rfl (by decide) ?_
  refine x_imul (q := 9) dX10_put_8 rfl ?_
  refine x_iload_n (q := 10) dX10_put_9 rfl rfl ?_
  refine x_iadd (q := 11) dX10_put_10 rfl ?_
  replace H := kle H; obtain ⟨x1, q2, H⟩ := H
  refine x_nmI q2 ?_
  refine x_istore (q := 13) (i := 6) (ls2 := [(6, .int x1), (0, .ref v0), (1, .int v1), (2, .int v2), (3, .int v3), (4, .long v4)]) dX10_put_11 rfl (by decide) rfl ?_
  refine x_lload (q := 15) dX10_put_13 rfl rfl ?_
  refine x_lconst (q := 16) (v := (0 : Int64)) dX10_put_15 rfl (by decide) ?_
  refine x_lcmp (q := 17) dX10_put_16 rfl ?_
  replace H := kite H; rcases H with ⟨g3, H⟩ | ⟨g3, H⟩
  · refine x_if_le_t dX10_put_17 (q := 116) (by decide) g3 ?_
    cases H
    exact x_end ⟨dX10_put_116, rfl, rfl⟩
  · refine x_if_le_f (q := 20) dX10_put_17 (t := 116) (by decide) rfl g3 ?_
    refine x_iload (q := 22) dX10_put_20 rfl rfl ?_
    refine x_aload_n (q := 23) dX10_put_22 rfl rfl ?_
    replace H := kif H; obtain ⟨g4, H⟩ := H
    replace H := kif H; obtain ⟨g5, H⟩ := H
    refine x_getR (q := 26) dX10_put_23 rfl kl_RX10_11 rfl (k243 g4 (by decide) hn) g5 ?_
    replace H := kif H; obtain ⟨g6, H⟩ := H
    refine x_alen (q := 27) dX10_put_26 rfl (by decide) (k243 g6 (by decide) hn) ?_
    replace H := kite H; rcases H with ⟨g7, H⟩ | ⟨g7, H⟩
    · refine x_icmp_ge_t dX10_put_27 (q := 116) (by decide) g7 ?_
      cases H
      exact x_end ⟨dX10_put_116, rfl, rfl⟩
    · refine x_icmp_ge_f (q := 30) dX10_put_27 (t := 116) (by decide) rfl g7 ?_
      refine x_aload_n (q := 31) dX10_put_30 rfl rfl ?_
      refine x_getI (q := 34) dX10_put_31 rfl kl_RX10_22 (Or.inl rfl) (k243 g4 (by decide) hn) ?_
      refine x_aload_n (q := 35) dX10_put_34 rfl rfl ?_
      replace H := kif H; obtain ⟨g8, H⟩ := H
      refine x_getR (q := 38) dX10_put_35 rfl kl_RX10_19 rfl (k243 g4 (by decide) hn) g8 ?_
      replace H := kif H; obtain ⟨g9, H⟩ := H
      refine x_alen (q := 39) dX10_put_38 rfl (by decide) (k243 g9 (by decide) hn) ?_
      replace H := kite H; rcases H with ⟨g10, H⟩ | ⟨g10, H⟩
      · refine x_icmp_ge_t dX10_put_39 (q := 116) (by decide) g10 ?_
        cases H
        exact x_end ⟨dX10_put_116, rfl, rfl⟩
      · refine x_icmp_ge_f (q := 42) dX10_put_39 (t := 116) (by decide) rfl g10 ?_
        refine x_aload_n (q := 43) dX10_put_42 rfl rfl ?_
        refine x_getR (q := 46) dX10_put_43 rfl kl_RX10_11 rfl (k243 g4 (by decide) hn) g5 ?_
        refine x_iload (q := 48) dX10_put_46 rfl rfl ?_
        refine x_lload (q := 50) dX10_put_48 rfl rfl ?_
        replace H := kifn H; obtain ⟨g11, H⟩ := H
        replace H := kle H; obtain ⟨h12, q13, H⟩ := H
        refine x_last (q := 51) dX10_put_50 rfl (k243 g6 (by decide) hn) g11 ?_
        refine x_nmH q13 ?_
        have n14 : h12.1 = 243 := by rw [q13]; exact hn
        refine x_aload_n (q := 52) dX10_put_51 rfl rfl ?_
        replace H := kif H; obtain ⟨g15, H⟩ := H
        refine x_getR (q := 55) dX10_put_52 rfl kl_RX10_15 rfl (k243 g4 (by decide) n14) g15 ?_
        refine x_iload (q := 57) dX10_put_55 rfl rfl ?_
        refine x_aload_n (q := 58) dX10_put_57 rfl rfl ?_
        replace H := kif H; obtain ⟨g16, H⟩ := H
        refine x_getR (q := 61) dX10_put_58 rfl kl_RX10_29 rfl (k243 g4 (by decide) n14) g16 ?_
        refine x_iconst (q := 62) (v := (2 : Int32)) dX10_put_61 rfl (by decide) ?_
        refine x_iload_n (q := 63) dX10_put_62 rfl rfl ?_
        refine x_imul (q := 64) dX10_put_63 rfl ?_
        refine x_iconst (q := 65) (v := (1 : Int32)) dX10_put_64 rfl (by decide) ?_
        refine x_iadd (q := 66) dX10_put_65 rfl ?_
        refine x_iload_n (q := 67) dX10_put_66 rfl rfl ?_
        refine x_isub (q := 68) dX10_put_67 rfl ?_
        replace H := kif H; obtain ⟨g17, H⟩ := H
        replace H := kifn H; obtain ⟨g18, H⟩ := H
        refine x_iald (q := 69) dX10_put_68 rfl (k243 g17 (by decide) n14) g18 ?_
        refine x_bipush (q := 71) (v := (6 : Int32)) dX10_put_69 rfl (by decide) ?_
        refine x_ishl (q := 72) dX10_put_71 rfl ?_
        refine x_aload_n (q := 73) dX10_put_72 rfl rfl ?_
        refine x_getR (q := 76) dX10_put_73 rfl kl_RX10_29 rfl (k243 g4 (by decide) n14) g16 ?_
        refine x_iconst (q := 77) (v := (2 : Int32)) dX10_put_76 rfl (by decide) ?_
        refine x_iload_n (q := 78) dX10_put_77 rfl rfl ?_
        refine x_imul (q := 79) dX10_put_78 rfl ?_
        refine x_iload_n (q := 80) dX10_put_79 rfl rfl ?_
        refine x_iadd (q := 81) dX10_put_80 rfl ?_
        replace H := kifn H; obtain ⟨g19, H⟩ := H
        refine x_iald (q := 82) dX10_put_81 rfl (k243 g17 (by decide) n14) g19 ?_
        refine x_ior (q := 83) dX10_put_82 rfl ?_
        replace H := kif H; obtain ⟨g20, H⟩ := H
        replace H := kifn H; obtain ⟨g21, H⟩ := H
        replace H := kle H; obtain ⟨h22, q23, H⟩ := H
        refine x_iast (q := 84) dX10_put_83 rfl (k243 g20 (by decide) n14) g21 ?_
        refine x_nmH q23 ?_
        have n24 : h22.1 = 243 := by rw [q23]; exact n14
        refine x_aload_n (q := 85) dX10_put_84 rfl rfl ?_
        replace H := kif H; obtain ⟨g25, H⟩ := H
        refine x_getR (q := 88) dX10_put_85 rfl kl_RX10_26 rfl (k243 g4 (by decide) n24) g25 ?_
        refine x_iload_n (q := 89) dX10_put_88 rfl rfl ?_
        refine x_dup2 (q := 90) dX10_put_89 rfl ⟨rfl, rfl⟩ ?_
        replace H := kif H; obtain ⟨g26, H⟩ := H
        replace H := kifn H; obtain ⟨g27, H⟩ := H
        refine x_lald (q := 91) dX10_put_90 rfl (k243 g26 (by decide) n24) g27 ?_
        refine x_lload (q := 93) dX10_put_91 rfl rfl ?_
        refine x_ladd (q := 94) dX10_put_93 rfl ?_
        replace H := kle H; obtain ⟨h28, q29, H⟩ := H
        refine x_last (q := 95) dX10_put_94 rfl (k243 g26 (by decide) n24) g27 ?_
        refine x_nmH q29 ?_
        have n30 : h28.1 = 243 := by rw [q29]; exact n24
        refine x_aload_n (q := 96) dX10_put_95 rfl rfl ?_
        replace H := kif H; obtain ⟨g31, H⟩ := H
        refine x_getR (q := 99) dX10_put_96 rfl kl_RX10_19 rfl (k243 g4 (by decide) n30) g31 ?_
        refine x_aload_n (q := 100) dX10_put_99 rfl rfl ?_
        refine x_getI (q := 103) dX10_put_100 rfl kl_RX10_22 (Or.inl rfl) (k243 g4 (by decide) n30) ?_
        refine x_iload (q := 105) dX10_put_103 rfl rfl ?_
        replace H := kif H; obtain ⟨g32, H⟩ := H
        replace H := kifn H; obtain ⟨g33, H⟩ := H
        replace H := kle H; obtain ⟨h34, q35, H⟩ := H
        refine x_iast (q := 106) dX10_put_105 rfl (k243 g32 (by decide) n30) g33 ?_
        refine x_nmH q35 ?_
        have n36 : h34.1 = 243 := by rw [q35]; exact n30
        refine x_aload_n (q := 107) dX10_put_106 rfl rfl ?_
        refine x_dup (q := 108) dX10_put_107 rfl rfl ?_
        refine x_getI (q := 111) dX10_put_108 rfl kl_RX10_22 (Or.inl rfl) (k243 g4 (by decide) n36) ?_
        refine x_iconst (q := 112) (v := (1 : Int32)) dX10_put_111 rfl (by decide) ?_
        refine x_iadd (q := 113) dX10_put_112 rfl ?_
        replace H := kle H; obtain ⟨h37, q38, H⟩ := H
        refine x_putI (q := 116) dX10_put_113 rfl kl_RX10_22 (Or.inl rfl) rfl (k243 g4 (by decide) n36) ?_
        refine x_nmH q38 ?_
        have n39 : h37.1 = 243 := by rw [q38]; exact n36
        cases H
        exact x_end ⟨dX10_put_116, rfl, rfl⟩
theorem s_X10_put {Z : Nat → (Nat → Nat) → State → Prop} (h : KH) (v0 : Nat) (v1 : Int32) (v2 : Int32) (v3 : Int32) (v4 : Int64) {t : KH} (hn : h.1 = 243) (H : f_X10_put h v0 v1 v2 v3 v4 = some t) : KM Z yX10_put cX10_put 7 none 1 [.ref v0, .int v1, .int v2, .int v3, .long v4] h none t :=
  kx_v (own := RX10) (ini := false) (by decide +kernel) (by decide +kernel) rfl (Nat.le_of_ble_eq_true rfl) (s0_X10_put h v0 v1 v2 v3 v4 hn H)
theorem dX10_weigh_0 : decode cX10_weigh 0 = .ok (.aload_n 0, 1) := by decide +kernel
theorem dX10_weigh_1 : decode cX10_weigh 1 = .ok (.getfield 29, 3) := by decide +kernel
theorem dX10_weigh_4 : decode cX10_weigh 4 = .ok (.iconst 0, 1) := by decide +kernel
theorem dX10_weigh_5 : decode cX10_weigh 5 = .ok (.invokestatic 38, 3) := by decide +kernel
theorem dX10_weigh_8 : decode cX10_weigh 8 = .ok (.iconst 0, 1) := by decide +kernel
theorem dX10_weigh_9 : decode cX10_weigh 9 = .ok (.istore_n 3, 1) := by decide +kernel
theorem dX10_weigh_10 : decode cX10_weigh 10 = .ok (.iload_n 3, 1) := by decide +kernel
theorem dX10_weigh_11 : decode cX10_weigh 11 = .ok (.aload_n 1, 1) := by decide +kernel
theorem dX10_weigh_12 : decode cX10_weigh 12 = .ok (.getfield 44, 3) := by decide +kernel
theorem dX10_weigh_15 : decode cX10_weigh 15 = .ok (.if_icmp .ge 57, 3) := by decide +kernel
theorem dX10_weigh_18 : decode cX10_weigh 18 = .ok (.aload_n 1, 1) := by decide +kernel
theorem dX10_weigh_19 : decode cX10_weigh 19 = .ok (.iload_n 3, 1) := by decide +kernel
theorem dX10_weigh_20 : decode cX10_weigh 20 = .ok (.aload_n 2, 1) := by decide +kernel
theorem dX10_weigh_21 : decode cX10_weigh 21 = .ok (.getfield 49, 3) := by decide +kernel
theorem dX10_weigh_24 : decode cX10_weigh 24 = .ok (.iload_n 3, 1) := by decide +kernel
theorem dX10_weigh_25 : decode cX10_weigh 25 = .ok (.iaload, 1) := by decide +kernel
theorem dX10_weigh_26 : decode cX10_weigh 26 = .ok (.invokevirtual 54, 3) := by decide +kernel
theorem dX10_weigh_29 : decode cX10_weigh 29 = .ok (.istore 4, 2) := by decide +kernel
theorem dX10_weigh_31 : decode cX10_weigh 31 = .ok (.iconst 0, 1) := by decide +kernel
theorem dX10_weigh_32 : decode cX10_weigh 32 = .ok (.istore 5, 2) := by decide +kernel
theorem dX10_weigh_34 : decode cX10_weigh 34 = .ok (.iload 5, 2) := by decide +kernel
theorem dX10_weigh_36 : decode cX10_weigh 36 = .ok (.bipush 12, 2) := by decide +kernel
theorem dX10_weigh_38 : decode cX10_weigh 38 = .ok (.if_icmp .ge 28, 3) := by decide +kernel
theorem dX10_weigh_41 : decode cX10_weigh 41 = .ok (.aload_n 0, 1) := by decide +kernel
theorem dX10_weigh_42 : decode cX10_weigh 42 = .ok (.getfield 29, 3) := by decide +kernel
theorem dX10_weigh_45 : decode cX10_weigh 45 = .ok (.iload 5, 2) := by decide +kernel
theorem dX10_weigh_47 : decode cX10_weigh 47 = .ok (.dup2, 1) := by decide +kernel
theorem dX10_weigh_48 : decode cX10_weigh 48 = .ok (.iaload, 1) := by decide +kernel
theorem dX10_weigh_49 : decode cX10_weigh 49 = .ok (.iload 4, 2) := by decide +kernel
theorem dX10_weigh_51 : decode cX10_weigh 51 = .ok (.iload 5, 2) := by decide +kernel
theorem dX10_weigh_53 : decode cX10_weigh 53 = .ok (.ishr, 1) := by decide +kernel
theorem dX10_weigh_54 : decode cX10_weigh 54 = .ok (.iconst 1, 1) := by decide +kernel
theorem dX10_weigh_55 : decode cX10_weigh 55 = .ok (.iand, 1) := by decide +kernel
theorem dX10_weigh_56 : decode cX10_weigh 56 = .ok (.iload_n 3, 1) := by decide +kernel
theorem dX10_weigh_57 : decode cX10_weigh 57 = .ok (.ishl, 1) := by decide +kernel
theorem dX10_weigh_58 : decode cX10_weigh 58 = .ok (.ior, 1) := by decide +kernel
theorem dX10_weigh_59 : decode cX10_weigh 59 = .ok (.iastore, 1) := by decide +kernel
theorem dX10_weigh_60 : decode cX10_weigh 60 = .ok (.iinc 5 1, 3) := by decide +kernel
theorem dX10_weigh_63 : decode cX10_weigh 63 = .ok (.goto (-29), 3) := by decide +kernel
theorem dX10_weigh_66 : decode cX10_weigh 66 = .ok (.iinc 3 1, 3) := by decide +kernel
theorem dX10_weigh_69 : decode cX10_weigh 69 = .ok (.goto (-59), 3) := by decide +kernel
theorem dX10_weigh_72 : decode cX10_weigh 72 = .ok (.aload_n 0, 1) := by decide +kernel
theorem dX10_weigh_73 : decode cX10_weigh 73 = .ok (.iconst 0, 1) := by decide +kernel
theorem dX10_weigh_74 : decode cX10_weigh 74 = .ok (.putfield 22, 3) := by decide +kernel
theorem dX10_weigh_77 : decode cX10_weigh 77 = .ok (.aload_n 0, 1) := by decide +kernel
theorem dX10_weigh_78 : decode cX10_weigh 78 = .ok (.getfield 11, 3) := by decide +kernel
theorem dX10_weigh_81 : decode cX10_weigh 81 = .ok (.lconst 0, 1) := by decide +kernel
theorem dX10_weigh_82 : decode cX10_weigh 82 = .ok (.invokestatic 58, 3) := by decide +kernel
theorem dX10_weigh_85 : decode cX10_weigh 85 = .ok (.aload_n 0, 1) := by decide +kernel
theorem dX10_weigh_86 : decode cX10_weigh 86 = .ok (.getfield 26, 3) := by decide +kernel
theorem dX10_weigh_89 : decode cX10_weigh 89 = .ok (.lconst 0, 1) := by decide +kernel
theorem dX10_weigh_90 : decode cX10_weigh 90 = .ok (.invokestatic 58, 3) := by decide +kernel
theorem dX10_weigh_93 : decode cX10_weigh 93 = .ok (.iconst 0, 1) := by decide +kernel
theorem dX10_weigh_94 : decode cX10_weigh 94 = .ok (.istore_n 3, 1) := by decide +kernel
theorem dX10_weigh_95 : decode cX10_weigh 95 = .ok (.iload_n 3, 1) := by decide +kernel
theorem dX10_weigh_96 : decode cX10_weigh 96 = .ok (.iconst 2, 1) := by decide +kernel
theorem dX10_weigh_97 : decode cX10_weigh 97 = .ok (.if_icmp .ge 128, 3) := by decide +kernel
theorem dX10_weigh_100 : decode cX10_weigh 100 = .ok (.iload_n 3, 1) := by decide +kernel
theorem dX10_weigh_101 : decode cX10_weigh 101 = .ok (.ifCond .ne 11, 3) := by decide +kernel
theorem dX10_weigh_104 : decode cX10_weigh 104 = .ok (.aload_n 1, 1) := by decide +kernel
theorem dX10_weigh_105 : decode cX10_weigh 105 = .ok (.getfield 61, 3) := by decide +kernel
theorem dX10_weigh_108 : decode cX10_weigh 108 = .ok (.i2l, 1) := by decide +kernel
theorem dX10_weigh_109 : decode cX10_weigh 109 = .ok (.goto 11, 3) := by decide +kernel
theorem dX10_weigh_112 : decode cX10_weigh 112 = .ok (.bipush 100, 2) := by decide +kernel
theorem dX10_weigh_114 : decode cX10_weigh 114 = .ok (.aload_n 1, 1) := by decide +kernel
theorem dX10_weigh_115 : decode cX10_weigh 115 = .ok (.getfield 61, 3) := by decide +kernel
theorem dX10_weigh_118 : decode cX10_weigh 118 = .ok (.isub, 1) := by decide +kernel
theorem dX10_weigh_119 : decode cX10_weigh 119 = .ok (.i2l, 1) := by decide +kernel
theorem dX10_weigh_120 : decode cX10_weigh 120 = .ok (.lstore 4, 2) := by decide +kernel
theorem dX10_weigh_122 : decode cX10_weigh 122 = .ok (.iconst 0, 1) := by decide +kernel
theorem dX10_weigh_123 : decode cX10_weigh 123 = .ok (.istore 6, 2) := by decide +kernel
theorem dX10_weigh_125 : decode cX10_weigh 125 = .ok (.iload 6, 2) := by decide +kernel
theorem dX10_weigh_127 : decode cX10_weigh 127 = .ok (.aload_n 1, 1) := by decide +kernel
theorem dX10_weigh_128 : decode cX10_weigh 128 = .ok (.getfield 64, 3) := by decide +kernel
theorem dX10_weigh_131 : decode cX10_weigh 131 = .ok (.if_icmp .ge 88, 3) := by decide +kernel
theorem dX10_weigh_134 : decode cX10_weigh 134 = .ok (.lload 4, 2) := by decide +kernel
theorem dX10_weigh_136 : decode cX10_weigh 136 = .ok (.aload_n 0, 1) := by decide +kernel
theorem dX10_weigh_137 : decode cX10_weigh 137 = .ok (.aload_n 1, 1) := by decide +kernel
theorem dX10_weigh_138 : decode cX10_weigh 138 = .ok (.aload_n 2, 1) := by decide +kernel
theorem dX10_weigh_139 : decode cX10_weigh 139 = .ok (.iconst 0, 1) := by decide +kernel
theorem dX10_weigh_140 : decode cX10_weigh 140 = .ok (.iload 6, 2) := by decide +kernel
theorem dX10_weigh_142 : decode cX10_weigh 142 = .ok (.iload_n 3, 1) := by decide +kernel
theorem dX10_weigh_143 : decode cX10_weigh 143 = .ok (.ifCond .ne 7, 3) := by decide +kernel
theorem dX10_weigh_146 : decode cX10_weigh 146 = .ok (.iconst 1, 1) := by decide +kernel
theorem dX10_weigh_147 : decode cX10_weigh 147 = .ok (.goto 4, 3) := by decide +kernel
theorem dX10_weigh_150 : decode cX10_weigh 150 = .ok (.iconst 0, 1) := by decide +kernel
theorem dX10_weigh_151 : decode cX10_weigh 151 = .ok (.invokevirtual 67, 3) := by decide +kernel
theorem dX10_weigh_154 : decode cX10_weigh 154 = .ok (.lmul, 1) := by decide +kernel
theorem dX10_weigh_155 : decode cX10_weigh 155 = .ok (.lstore 7, 2) := by decide +kernel
theorem dX10_weigh_157 : decode cX10_weigh 157 = .ok (.iconst 0, 1) := by decide +kernel
theorem dX10_weigh_158 : decode cX10_weigh 158 = .ok (.istore 9, 2) := by decide +kernel
theorem dX10_weigh_160 : decode cX10_weigh 160 = .ok (.iload 9, 2) := by decide +kernel
theorem dX10_weigh_162 : decode cX10_weigh 162 = .ok (.aload_n 1, 1) := by decide +kernel
theorem dX10_weigh_163 : decode cX10_weigh 163 = .ok (.getfield 64, 3) := by decide +kernel
theorem dX10_weigh_166 : decode cX10_weigh 166 = .ok (.if_icmp .ge 47, 3) := by decide +kernel
theorem dX10_weigh_169 : decode cX10_weigh 169 = .ok (.lload 7, 2) := by decide +kernel
theorem dX10_weigh_171 : decode cX10_weigh 171 = .ok (.lconst 0, 1) := by decide +kernel
theorem dX10_weigh_172 : decode cX10_weigh 172 = .ok (.lcmp, 1) := by decide +kernel
theorem dX10_weigh_173 : decode cX10_weigh 173 = .ok (.ifCond .le 40, 3) := by decide +kernel
theorem dX10_weigh_176 : decode cX10_weigh 176 = .ok (.aload_n 0, 1) := by decide +kernel
theorem dX10_weigh_177 : decode cX10_weigh 177 = .ok (.iload_n 3, 1) := by decide +kernel
theorem dX10_weigh_178 : decode cX10_weigh 178 = .ok (.iload 6, 2) := by decide +kernel
theorem dX10_weigh_180 : decode cX10_weigh 180 = .ok (.iload 9, 2) := by decide +kernel
theorem dX10_weigh_182 : decode cX10_weigh 182 = .ok (.lload 7, 2) := by decide +kernel
theorem dX10_weigh_184 : decode cX10_weigh 184 = .ok (.aload_n 0, 1) := by decide +kernel
theorem dX10_weigh_185 : decode cX10_weigh 185 = .ok (.aload_n 1, 1) := by decide +kernel
theorem dX10_weigh_186 : decode cX10_weigh 186 = .ok (.aload_n 2, 1) := by decide +kernel
theorem dX10_weigh_187 : decode cX10_weigh 187 = .ok (.iconst 1, 1) := by decide +kernel
theorem dX10_weigh_188 : decode cX10_weigh 188 = .ok (.iload 9, 2) := by decide +kernel
theorem dX10_weigh_190 : decode cX10_weigh 190 = .ok (.iload_n 3, 1) := by decide +kernel
theorem dX10_weigh_191 : decode cX10_weigh 191 = .ok (.iconst 1, 1) := by decide +kernel
theorem dX10_weigh_192 : decode cX10_weigh 192 = .ok (.if_icmp .ne 7, 3) := by decide +kernel
theorem dX10_weigh_195 : decode cX10_weigh 195 = .ok (.iconst 1, 1) := by decide +kernel
theorem dX10_weigh_196 : decode cX10_weigh 196 = .ok (.goto 4, 3) := by decide +kernel
theorem dX10_weigh_199 : decode cX10_weigh 199 = .ok (.iconst 0, 1) := by decide +kernel
theorem dX10_weigh_200 : decode cX10_weigh 200 = .ok (.invokevirtual 67, 3) := by decide +kernel
theorem dX10_weigh_203 : decode cX10_weigh 203 = .ok (.lmul, 1) := by decide +kernel
theorem dX10_weigh_204 : decode cX10_weigh 204 = .ok (.invokevirtual 71, 3) := by decide +kernel
theorem dX10_weigh_207 : decode cX10_weigh 207 = .ok (.iinc 9 1, 3) := by decide +kernel
theorem dX10_weigh_210 : decode cX10_weigh 210 = .ok (.goto (-50), 3) := by decide +kernel
theorem dX10_weigh_213 : decode cX10_weigh 213 = .ok (.iinc 6 1, 3) := by decide +kernel
theorem dX10_weigh_216 : decode cX10_weigh 216 = .ok (.goto (-91), 3) := by decide +kernel
theorem dX10_weigh_219 : decode cX10_weigh 219 = .ok (.iinc 3 1, 3) := by decide +kernel
theorem dX10_weigh_222 : decode cX10_weigh 222 = .ok (.goto (-127), 3) := by decide +kernel
theorem dX10_weigh_225 : decode cX10_weigh 225 = .ok (.return_, 1) := by decide +kernel
theorem kc_RX10_38 : Cond.methodLink RX10 38 yJ7_fill_53178 ∈ ktG ∧ Cond.static yJ7_fill_53178 ∈ ktG ∧ Cond.initialized yJ7_fill_53178.cls ∈ ktG ∧ Cond.code yJ7_fill_53178 cJ7_fill_53178 4 none ∈ ktG := ⟨(kwm 903 (by decide +kernel) (by decide +kernel)), (kwm 612 (by decide +kernel) (by decide +kernel)), (kwm 140 (by decide +kernel) (by decide +kernel)), kwm 613 (by decide +kernel) (by decide +kernel)⟩
theorem kl_RX10_49 : KLk RX10 49 8 3 := ⟨RX8, TX8, 6, rfl, by decide, Or.inr (by decide +kernel)⟩
theorem kc_RX10_54 : Cond.methodLink RX10 54 yX2_yieldBits ∈ ktG ∧ (Cond.instanceMethod yX2_yieldBits ∈ ktG ∧ Cond.selects yX2_yieldBits.cls yX2_yieldBits yX2_yieldBits ∈ ktG) ∧ Cond.initialized yX2_yieldBits.cls ∈ ktG ∧ Cond.code yX2_yieldBits cX2_yieldBits 7 (some .int) ∈ ktG := ⟨(kwm 904 (by decide +kernel) (by decide +kernel)), ⟨(kwm 849 (by decide +kernel) (by decide +kernel)), (kwm 850 (by decide +kernel) (by decide +kernel))⟩, (kwm 134 (by decide +kernel) (by decide +kernel)), kwm 851 (by decide +kernel) (by decide +kernel)⟩
theorem kc_RX10_58 : Cond.methodLink RX10 58 yJ7_fill_d0a16 ∈ ktG ∧ Cond.static yJ7_fill_d0a16 ∈ ktG ∧ Cond.initialized yJ7_fill_d0a16.cls ∈ ktG ∧ Cond.code yJ7_fill_d0a16 cJ7_fill_d0a16 5 none ∈ ktG := ⟨(kwm 905 (by decide +kernel) (by decide +kernel)), (kwm 906 (by decide +kernel) (by decide +kernel)), (kwm 140 (by decide +kernel) (by decide +kernel)), kwm 907 (by decide +kernel) (by decide +kernel)⟩
theorem kh_J7_fill_d0a16 : yJ7_fill_d0a16.cls ≠ "java/lang/invoke/MethodHandle" ∧ yJ7_fill_d0a16.cls ≠ "java/lang/invoke/VarHandle" ∧ (parseMethodDescriptor yJ7_fill_d0a16.desc).map (fun d => d.parameters.length) = some 2 := by decide +kernel
theorem kl_RX10_61 : KLk RX10 61 2 6 := ⟨RX2, TX2, 12, rfl, by decide, Or.inr (by decide +kernel)⟩
theorem kl_RX10_64 : KLk RX10 64 2 3 := ⟨RX2, TX2, 12, rfl, by decide, Or.inr (by decide +kernel)⟩
theorem kc_RX10_67 : Cond.methodLink RX10 67 yX10_factor ∈ ktG ∧ (Cond.instanceMethod yX10_factor ∈ ktG ∧ Cond.selects yX10_factor.cls yX10_factor yX10_factor ∈ ktG) ∧ Cond.initialized yX10_factor.cls ∈ ktG ∧ Cond.code yX10_factor cX10_factor 12 (some .long) ∈ ktG := ⟨(kwm 908 (by decide +kernel) (by decide +kernel)), ⟨(kwm 910 (by decide +kernel) (by decide +kernel)), (kwm 22 (by decide +kernel) (by decide +kernel))⟩, (kwm 138 (by decide +kernel) (by decide +kernel)), kwm 911 (by decide +kernel) (by decide +kernel)⟩
theorem kh_X10_factor : yX10_factor.cls ≠ "java/lang/invoke/MethodHandle" ∧ yX10_factor.cls ≠ "java/lang/invoke/VarHandle" ∧ (parseMethodDescriptor yX10_factor.desc).map (fun d => d.parameters.length) = some 5 := by decide +kernel
theorem kc_RX10_71 : Cond.methodLink RX10 71 yX10_put ∈ ktG ∧ (Cond.instanceMethod yX10_put ∈ ktG ∧ Cond.selects yX10_put.cls yX10_put yX10_put ∈ ktG) ∧ Cond.initialized yX10_put.cls ∈ ktG ∧ Cond.code yX10_put cX10_put 7 none ∈ ktG := ⟨(kwm 912 (by decide +kernel) (by decide +kernel)), ⟨(kwm 914 (by decide +kernel) (by decide +kernel)), (kwm 23 (by decide +kernel) (by decide +kernel))⟩, (kwm 138 (by decide +kernel) (by decide +kernel)), kwm 915 (by decide +kernel) (by decide +kernel)⟩
theorem kh_X10_put : yX10_put.cls ≠ "java/lang/invoke/MethodHandle" ∧ yX10_put.cls ≠ "java/lang/invoke/VarHandle" ∧ (parseMethodDescriptor yX10_put.desc).map (fun d => d.parameters.length) = some 4 := by decide +kernel
def E_X10_weigh_l10 (v0 : Nat) (v1 : Nat) (v2 : Nat) : KH → Nat → List (Nat × Value) → List Value → KH → Prop := fun (e : KH) pc ls st hh => pc = 72 ∧ ls = [(0, .ref v0), (1, .ref v1), (2, .ref v2)] ∧ st = [] ∧ e = hh
def B_X10_weigh_l10 (v0 : Nat) (v1 : Nat) (v2 : Nat) : ((Int32 × KH) ⊕ (KH)) → Nat → List (Nat × Value) → List Value → KH → Prop := Sum.elim (fun (s : Int32 × KH) pc ls st hh => pc = 10 ∧ ls = [(0, .ref v0), (1, .ref v1), (2, .ref v2), (3, .int s.1)] ∧ st = [] ∧ hh = s.2) (E_X10_weigh_l10 v0 v1 v2)
def E_X10_weigh_l34 (v0 : Nat) (v1 : Nat) (v2 : Nat) (v3 : Int32) (v4 : Int32) : KH → Nat → List (Nat × Value) → List Value → KH → Prop := fun (e : KH) pc ls st hh => pc = 66 ∧ ls = [(0, .ref v0), (1, .ref v1), (2, .ref v2), (3, .int v3)] ∧ st = [] ∧ e = hh
def B_X10_weigh_l34 (v0 : Nat) (v1 : Nat) (v2 : Nat) (v3 : Int32) (v4 : Int32) : ((Int32 × KH) ⊕ (KH)) → Nat → List (Nat × Value) → List Value → KH → Prop := Sum.elim (fun (s : Int32 × KH) pc ls st hh => pc = 34 ∧ ls = [(0, .ref v0), (1, .ref v1), (2, .ref v2), (3, .int v3), (4, .int v4), (5, .int s.1)] ∧ st = [] ∧ hh = s.2) (E_X10_weigh_l34 v0 v1 v2 v3 v4)
def f_X10_weigh_l34 (v0 : Nat) (v1 : Nat) (v2 : Nat) (v3 : Int32) (v4 : Int32) (s : Int32 × KH) : Option ((Int32 × KH) ⊕ (KH)) :=
  if (12 : Int32) ≤ s.1 then
  some (.inr s.2)
  else
  if kkind v0 = 10 then if (kR s.2 v0 5) < 999999 then if kkind (kR s.2 v0 5) = 20 then if (s.1 < 0 ∨ klen (kR s.2 v0 5) ≤ (s.1).toNatClampNeg) then none else kl (ksI s.2 (kR s.2 v0 5) ((s.1).toNatClampNeg) ((kI s.2 (kR s.2 v0 5) ((s.1).toNatClampNeg)) ||| (((v4 >>> (s.1 &&& 31)) &&& (1 : Int32)) <<< (v3 &&& 31)))) fun h6 =>
  kl (s.1 + (1 : Int32)) fun x9 =>
  some (.inl (x9, h6)) else none else none else none
set_option maxHeartbeats 4000000 in
set_option maxRecDepth 100000 in
theorem s_X10_weigh_l34 {Z : Nat → (Nat → Nat) → State → Prop} (v0 : Nat) (v1 : Nat) (v2 : Nat) (v3 : Int32) (v4 : Int32) (s : Int32 × KH) (t : (Int32 × KH) ⊕ (KH)) (hn : (s.2).1 = 243) (H : f_X10_weigh_l34 v0 v1 v2 v3 v4 s = some t) : KX Z RX10 cX10_weigh 10 false 6 (B_X10_weigh_l34 v0 v1 v2 v3 v4 t) 34 [(0, .ref v0), (1, .ref v1), (2, .ref v2), (3, .int v3), (4, .int v4), (5, .int s.1)] [] s.2 := by
  unfold f_X10_weigh_l34 at H
  refine x_iload (q := 36) dX10_weigh_34 rfl rfl ?_
  refine x_bipush (q := 38) (v := (12 : Int32)) dX10_weigh_36 rfl (by decide) ?_
  replace H := kite H; rcases H with ⟨g1, H⟩ | ⟨g1, H⟩
  · refine x_icmp_ge_t dX10_weigh_38 (q := 66) (by decide) g1 ?_
    cases H
    refine x_sub (ls2 := [(0, .ref v0), (1, .ref v1), (2, .ref v2), (3, .int v3)]) [0, 1, 2, 3] rfl ?_
    exact x_end (x_cfg rfl)
  · refine x_icmp_ge_f (q := 41) dX10_weigh_38 (t := 66) (by decide) rfl g1 ?_
    refine x_aload_n (q := 42) dX10_weigh_41 rfl rfl ?_
    replace H := kif H; obtain ⟨g2, H⟩ := H
    replace H := kif H; obtain ⟨g3, H⟩ := H
    refine x_getR (q := 45) dX10_weigh_42 rfl kl_RX10_29 rfl (k243 g2 (by decide) hn) g3 ?_
    refine x_iload (q := 47) dX10_weigh_45 rfl rfl ?_
    refine x_dup2 (q := 48) dX10_weigh_47 rfl ⟨rfl, rfl⟩ ?_
    replace H := kif H; obtain ⟨g4, H⟩ := H
    replace H := kifn H; obtain ⟨g5, H⟩ := H
    refine x_iald (q := 49) dX10_weigh_48 rfl (k243 g4 (by decide) hn) g5 ?_
    refine x_iload (q := 51) dX10_weigh_49 rfl rfl ?_
    refine x_iload (q := 53) dX10_weigh_51 rfl rfl ?_
    refine x_ishr (q := 54) dX10_weigh_53 rfl ?_
    refine x_iconst (q := 55) (v := (1 : Int32)) dX10_weigh_54 rfl (by decide) ?_
    refine x_iand (q := 56) dX10_weigh_55 rfl ?_
    refine x_iload_n (q := 57) dX10_weigh_56 rfl rfl ?_
    refine x_ishl (q := 58) dX10_weigh_57 rfl ?_
    refine x_ior (q := 59) dX10_weigh_58 rfl ?_
    replace H := kle H; obtain ⟨h6, q7, H⟩ := H
    refine x_iast (q := 60) dX10_weigh_59 rfl (k243 g4 (by decide) hn) g5 ?_
    refine x_nmH q7 ?_
    have n8 : h6.1 = 243 := by rw [q7]; exact hn
    replace H := kle H; obtain ⟨x9, q10, H⟩ := H
    refine x_iinc (q := 63) (i := 5) (ls2 := [(5, .int x9), (0, .ref v0), (1, .ref v1), (2, .ref v2), (3, .int v3), (4, .int v4)]) dX10_weigh_60 rfl rfl (by decide) (by rw [q10]; rfl) ?_
    refine x_goto dX10_weigh_63 (q := 34) (by decide) ?_
    cases H
    refine x_sub (ls2 := [(0, .ref v0), (1, .ref v1), (2, .ref v2), (3, .int v3), (4, .int v4), (5, .int x9)]) [1, 2, 3, 4, 5, 0] rfl ?_
    exact x_end (x_cfg rfl)
theorem sl_X10_weigh_l34 {Z : Nat → (Nat → Nat) → State → Prop} (v0 : Nat) (v1 : Nat) (v2 : Nat) (v3 : Int32) (v4 : Int32) (n : Nat) (s : Int32 × KH) (r : KH) (hn : (s.2).1 = 243) (H : kloop (f_X10_weigh_l34 v0 v1 v2 v3 v4) n s = some r) : KX Z RX10 cX10_weigh 10 false 6 (E_X10_weigh_l34 v0 v1 v2 v3 v4 r) 34 [(0, .ref v0), (1, .ref v1), (2, .ref v2), (3, .int v3), (4, .int v4), (5, .int s.1)] [] s.2 :=
  k_loop (ls := (fun (s : Int32 × KH) => ([(0, .ref v0), (1, .ref v1), (2, .ref v2), (3, .int v3), (4, .int v4), (5, .int s.1)] : List (Nat × Value)))) (hp := (fun (s : Int32 × KH) => (s.2 : KH))) (G := E_X10_weigh_l34 v0 v1 v2 v3 v4) (fun s t hn H => s_X10_weigh_l34 v0 v1 v2 v3 v4 s t hn H) n s r hn H
def f_X10_weigh_l10 (v0 : Nat) (v1 : Nat) (v2 : Nat) (s : Int32 × KH) : Option ((Int32 × KH) ⊕ (KH)) :=
  if kkind v1 = 2 then if (kI s.2 v1 4) ≤ s.1 then
  some (.inr s.2)
  else
  if kkind v2 = 8 then if (kR s.2 v2 3) < 999999 then if kkind (kR s.2 v2 3) = 20 then if (s.1 < 0 ∨ klen (kR s.2 v2 3) ≤ (s.1).toNatClampNeg) then none else kb (f_X2_yieldBits s.2 v1 s.1 (kI s.2 (kR s.2 v2 3) ((s.1).toNatClampNeg))) fun r7 =>
  kb (kloop (f_X10_weigh_l34 v0 v1 v2 s.1 r7.1) KF ((0 : Int32), r7.2)) fun e11 =>
  kl (s.1 + (1 : Int32)) fun x14 =>
  some (.inl (x14, e11)) else none else none else none else none
set_option maxHeartbeats 4000000 in
set_option maxRecDepth 100000 in
theorem s_X10_weigh_l10 {Z : Nat → (Nat → Nat) → State → Prop} (v0 : Nat) (v1 : Nat) (v2 : Nat) (s : Int32 × KH) (t : (Int32 × KH) ⊕ (KH)) (hn : (s.2).1 = 243) (H : f_X10_weigh_l10 v0 v1 v2 s = some t) : KX Z RX10 cX10_weigh 10 false 6 (B_X10_weigh_l10 v0 v1 v2 t) 10 [(0, .ref v0), (1, .ref v1), (2, .ref v2), (3, .int s.1)] [] s.2 := by
  unfold f_X10_weigh_l10 at H
  refine x_iload_n (q := 11) dX10_weigh_10 rfl rfl ?_
  refine x_aload_n (q := 12) dX10_weigh_11 rfl rfl ?_
  replace H := kif H; obtain ⟨g1, H⟩ := H
  refine x_getI (q := 15) dX10_weigh_12 rfl kl_RX10_44 (Or.inl rfl) (k243 g1 (by decide) hn) ?_
  replace H := kite H; rcases H with ⟨g2, H⟩ | ⟨g2, H⟩
  · refine x_icmp_ge_t dX10_weigh_15 (q := 72) (by decide) g2 ?_
    cases H
    refine x_sub (ls2 := [(0, .ref v0), (1, .ref v1), (2, .ref v2)]) [0, 1, 2] rfl ?_
    exact x_end (x_cfg rfl)
  · refine x_icmp_ge_f (q := 18) dX10_weigh_15 (t := 72) (by decide) rfl g2 ?_
    refine x_aload_n (q := 19) dX10_weigh_18 rfl rfl ?_
    refine x_iload_n (q := 20) dX10_weigh_19 rfl rfl ?_
    refine x_aload_n (q := 21) dX10_weigh_20 rfl rfl ?_
    replace H := kif H; obtain ⟨g3, H⟩ := H
    replace H := kif H; obtain ⟨g4, H⟩ := H
    refine x_getR (q := 24) dX10_weigh_21 rfl kl_RX10_49 rfl (k243 g3 (by decide) hn) g4 ?_
    refine x_iload_n (q := 25) dX10_weigh_24 rfl rfl ?_
    replace H := kif H; obtain ⟨g5, H⟩ := H
    replace H := kifn H; obtain ⟨g6, H⟩ := H
    refine x_iald (q := 26) dX10_weigh_25 rfl (k243 g5 (by decide) hn) g6 ?_
    replace H := kbe H; obtain ⟨r7, c8, H⟩ := H
    have m9 := s_X2_yieldBits (Z := Z) s.2 v1 s.1 (kI s.2 (kR s.2 v2 3) ((s.1).toNatClampNeg)) hn c8
    refine x_callV (q := 29) (as := [.int s.1, .int (kI s.2 (kR s.2 v2 3) ((s.1).toNatClampNeg))]) (rest := []) dX10_weigh_26 rfl kc_RX10_54 kh_X2_yieldBits (by decide) (Nat.le_of_ble_eq_true rfl) m9 (ci := 2) (by exact ⟨rfl, by decide⟩) (k243 g1 (by decide) hn) ?_
    have n10 : (r7.2).1 = 243 := m9.1.full hn
    refine x_istore (q := 31) (i := 4) (ls2 := [(4, .int r7.1), (0, .ref v0), (1, .ref v1), (2, .ref v2), (3, .int s.1)]) dX10_weigh_29 rfl (by decide) rfl ?_
    refine x_iconst (q := 32) (v := (0 : Int32)) dX10_weigh_31 rfl (by decide) ?_
    refine x_istore (q := 34) (i := 5) (ls2 := [(5, .int (0 : Int32)), (4, .int r7.1), (0, .ref v0), (1, .ref v1), (2, .ref v2), (3, .int s.1)]) dX10_weigh_32 rfl (by decide) rfl ?_
    refine x_sub (ls2 := [(0, .ref v0), (1, .ref v1), (2, .ref v2), (3, .int s.1), (4, .int r7.1), (5, .int (0 : Int32))]) [2, 3, 4, 5, 1, 0] rfl ?_
    replace H := kbe H; obtain ⟨e11, c12, H⟩ := H
    refine x_app (sl_X10_weigh_l34 v0 v1 v2 s.1 r7.1 KF ((0 : Int32), r7.2) e11 n10 c12) fun pc2 ls2 st2 h2 hg m13 => ?_
    obtain ⟨rfl, rfl, rfl, rfl⟩ := hg
    replace H := kle H; obtain ⟨x14, q15, H⟩ := H
    refine x_iinc (q := 69) (i := 3) (ls2 := [(3, .int x14), (0, .ref v0), (1, .ref v1), (2, .ref v2)]) dX10_weigh_66 rfl rfl (by decide) (by rw [q15]; rfl) ?_
    refine x_goto dX10_weigh_69 (q := 10) (by decide) ?_
    cases H
    refine x_sub (ls2 := [(0, .ref v0), (1, .ref v1), (2, .ref v2), (3, .int x14)]) [1, 2, 3, 0] rfl ?_
    exact x_end (x_cfg rfl)
theorem sl_X10_weigh_l10 {Z : Nat → (Nat → Nat) → State → Prop} (v0 : Nat) (v1 : Nat) (v2 : Nat) (n : Nat) (s : Int32 × KH) (r : KH) (hn : (s.2).1 = 243) (H : kloop (f_X10_weigh_l10 v0 v1 v2) n s = some r) : KX Z RX10 cX10_weigh 10 false 6 (E_X10_weigh_l10 v0 v1 v2 r) 10 [(0, .ref v0), (1, .ref v1), (2, .ref v2), (3, .int s.1)] [] s.2 :=
  k_loop (ls := (fun (s : Int32 × KH) => ([(0, .ref v0), (1, .ref v1), (2, .ref v2), (3, .int s.1)] : List (Nat × Value)))) (hp := (fun (s : Int32 × KH) => (s.2 : KH))) (G := E_X10_weigh_l10 v0 v1 v2) (fun s t hn H => s_X10_weigh_l10 v0 v1 v2 s t hn H) n s r hn H
def E_X10_weigh_l95 (v0 : Nat) (v1 : Nat) (v2 : Nat) : KH → Nat → List (Nat × Value) → List Value → KH → Prop := fun (e : KH) pc ls st hh => pc = 225 ∧ ls = [] ∧ st = [] ∧ e = hh
def B_X10_weigh_l95 (v0 : Nat) (v1 : Nat) (v2 : Nat) : ((Int32 × KH) ⊕ (KH)) → Nat → List (Nat × Value) → List Value → KH → Prop := Sum.elim (fun (s : Int32 × KH) pc ls st hh => pc = 95 ∧ ls = [(0, .ref v0), (1, .ref v1), (2, .ref v2), (3, .int s.1)] ∧ st = [] ∧ hh = s.2) (E_X10_weigh_l95 v0 v1 v2)
def E_X10_weigh_l125 (v0 : Nat) (v1 : Nat) (v2 : Nat) (v3 : Int32) (v4 : Int64) : KH → Nat → List (Nat × Value) → List Value → KH → Prop := fun (e : KH) pc ls st hh => pc = 219 ∧ ls = [(0, .ref v0), (1, .ref v1), (2, .ref v2), (3, .int v3)] ∧ st = [] ∧ e = hh
def B_X10_weigh_l125 (v0 : Nat) (v1 : Nat) (v2 : Nat) (v3 : Int32) (v4 : Int64) : ((Int32 × KH) ⊕ (KH)) → Nat → List (Nat × Value) → List Value → KH → Prop := Sum.elim (fun (s : Int32 × KH) pc ls st hh => pc = 125 ∧ ls = [(0, .ref v0), (1, .ref v1), (2, .ref v2), (3, .int v3), (4, .long v4), (6, .int s.1)] ∧ st = [] ∧ hh = s.2) (E_X10_weigh_l125 v0 v1 v2 v3 v4)
def E_X10_weigh_l160 (v0 : Nat) (v1 : Nat) (v2 : Nat) (v3 : Int32) (v4 : Int64) (v6 : Int32) (v7 : Int64) : KH → Nat → List (Nat × Value) → List Value → KH → Prop := fun (e : KH) pc ls st hh => pc = 213 ∧ ls = [(0, .ref v0), (1, .ref v1), (2, .ref v2), (3, .int v3), (4, .long v4), (6, .int v6)] ∧ st = [] ∧ e = hh
def B_X10_weigh_l160 (v0 : Nat) (v1 : Nat) (v2 : Nat) (v3 : Int32) (v4 : Int64) (v6 : Int32) (v7 : Int64) : ((Int32 × KH) ⊕ (KH)) → Nat → List (Nat × Value) → List Value → KH → Prop := Sum.elim (fun (s : Int32 × KH) pc ls st hh => pc = 160 ∧ ls = [(0, .ref v0), (1, .ref v1), (2, .ref v2), (3, .int v3), (4, .long v4), (6, .int v6), (7, .long v7), (9, .int s.1)] ∧ st = [] ∧ hh = s.2) (E_X10_weigh_l160 v0 v1 v2 v3 v4 v6 v7)
def f_X10_weigh_b200 (h : KH) (v0 : Nat) (v1 : Nat) (v2 : Nat) (v3 : Int32) (v4 : Int64) (v6 : Int32) (v7 : Int64) (v9 : Int32) (w0 : Nat) (w1 : Int32) (w2 : Int32) (w3 : Int32) (w4 : Int64) (w5 : Nat) (w6 : Nat) (w7 : Nat) (w8 : Int32) (w9 : Int32) (w10 : Int32) : Option ((Int32 × KH) ⊕ (KH)) :=
  if kkind w5 = 10 then kb (f_X10_factor h w5 w6 w7 w8 w9 w10) fun r2 =>
  if kkind w0 = 10 then kb (f_X10_put h w0 w1 w2 w3 (w4 * r2)) fun r6 =>
  kl (v9 + (1 : Int32)) fun x10 =>
  some (.inl (x10, r6)) else none else none
set_option maxHeartbeats 4000000 in
set_option maxRecDepth 100000 in
theorem s_X10_weigh_b200 {Z : Nat → (Nat → Nat) → State → Prop} (h : KH) (v0 : Nat) (v1 : Nat) (v2 : Nat) (v3 : Int32) (v4 : Int64) (v6 : Int32) (v7 : Int64) (v9 : Int32) (w0 : Nat) (w1 : Int32) (w2 : Int32) (w3 : Int32) (w4 : Int64) (w5 : Nat) (w6 : Nat) (w7 : Nat) (w8 : Int32) (w9 : Int32) (w10 : Int32) {t : (Int32 × KH) ⊕ (KH)} (hn : h.1 = 243) (H : f_X10_weigh_b200 h v0 v1 v2 v3 v4 v6 v7 v9 w0 w1 w2 w3 w4 w5 w6 w7 w8 w9 w10 = some t) : KX Z RX10 cX10_weigh 10 false 6 (B_X10_weigh_l160 v0 v1 v2 v3 v4 v6 v7 t) 200 [(0, .ref v0), (1, .ref v1), (2, .ref v2), (3, .int v3), (4, .long v4), (6, .int v6), (7, .long v7), (9, .int v9)] [.int w10, .int w9, .int w8, .ref w7, .ref w6, .ref w5, .long w4, .int w3, .int w2, .int w1, .ref w0] h := by
  unfold f_X10_weigh_b200 at H
  replace H := kif H; obtain ⟨g1, H⟩ := H
  replace H := kbe H; obtain ⟨r2, c3, H⟩ := H
  have m4 := s_X10_factor (Z := Z) h w5 w6 w7 w8 w9 w10 hn c3
  refine x_callV (q := 203) (as := [.ref w6, .ref w7, .int w8, .int w9, .int w10]) (rest := [.long w4, .int w3, .int w2, .int w1, .ref w0]) dX10_weigh_200 rfl kc_RX10_67 kh_X10_factor (by decide) (Nat.le_of_ble_eq_true rfl) m4 (ci := 10) (by exact ⟨rfl, by decide⟩) (k243 g1 (by decide) hn) ?_
  refine x_lmul (q := 204) dX10_weigh_203 rfl ?_
  replace H := kif H; obtain ⟨g5, H⟩ := H
  replace H := kbe H; obtain ⟨r6, c7, H⟩ := H
  have m8 := s_X10_put (Z := Z) h w0 w1 w2 w3 (w4 * r2) hn c7
  refine x_callV (q := 207) (as := [.int w1, .int w2, .int w3, .long (w4 * r2)]) (rest := []) dX10_weigh_204 rfl kc_RX10_71 kh_X10_put (by decide) (Nat.le_of_ble_eq_true rfl) m8 (ci := 10) (by exact ⟨rfl, by decide⟩) (k243 g5 (by decide) hn) ?_
  have n9 : (r6).1 = 243 := m8.1.full hn
  replace H := kle H; obtain ⟨x10, q11, H⟩ := H
  refine x_iinc (q := 210) (i := 9) (ls2 := [(9, .int x10), (0, .ref v0), (1, .ref v1), (2, .ref v2), (3, .int v3), (4, .long v4), (6, .int v6), (7, .long v7)]) dX10_weigh_207 rfl rfl (by decide) (by rw [q11]; rfl) ?_
  refine x_goto dX10_weigh_210 (q := 160) (by decide) ?_
  cases H
  refine x_sub (ls2 := [(0, .ref v0), (1, .ref v1), (2, .ref v2), (3, .int v3), (4, .long v4), (6, .int v6), (7, .long v7), (9, .int x10)]) [1, 2, 3, 4, 5, 6, 7, 0] rfl ?_
  exact x_end (x_cfg rfl)
def f_X10_weigh_l160 (v0 : Nat) (v1 : Nat) (v2 : Nat) (v3 : Int32) (v4 : Int64) (v6 : Int32) (v7 : Int64) (s : Int32 × KH) : Option ((Int32 × KH) ⊕ (KH)) :=
  if kkind v1 = 2 then if (kI s.2 v1 3) ≤ s.1 then
  some (.inr s.2)
  else
  if (lg_cmp v7 (0 : Int64)) ≤ 0 then
  some (.inr s.2)
  else
  if v3 = (1 : Int32) then
  f_X10_weigh_b200 s.2 v0 v1 v2 v3 v4 v6 v7 s.1 v0 v3 v6 s.1 v7 v0 v1 v2 (1 : Int32) s.1 (1 : Int32)
  else
  f_X10_weigh_b200 s.2 v0 v1 v2 v3 v4 v6 v7 s.1 v0 v3 v6 s.1 v7 v0 v1 v2 (1 : Int32) s.1 (0 : Int32) else none
set_option maxHeartbeats 4000000 in
set_option maxRecDepth 100000 in
theorem s_X10_weigh_l160 {Z : Nat → (Nat → Nat) → State → Prop} (v0 : Nat) (v1 : Nat) (v2 : Nat) (v3 : Int32) (v4 : Int64) (v6 : Int32) (v7 : Int64) (s : Int32 × KH) (t : (Int32 × KH) ⊕ (KH)) (hn : (s.2).1 = 243) (H : f_X10_weigh_l160 v0 v1 v2 v3 v4 v6 v7 s = some t) : KX Z RX10 cX10_weigh 10 false 6 (B_X10_weigh_l160 v0 v1 v2 v3 v4 v6 v7 t) 160 [(0, .ref v0), (1, .ref v1), (2, .ref v2), (3, .int v3), (4, .long v4), (6, .int v6), (7, .long v7), (9, .int s.1)] [] s.2 := by
  unfold f_X10_weigh_l160 at H
  refine x_iload (q := 162) dX10_weigh_160 rfl rfl ?_
  refine x_aload_n (q := 163) dX10_weigh_162 rfl rfl ?_
  replace H := kif H; obtain ⟨g1, H⟩ := H
  refine x_getI (q := 166) dX10_weigh_163 rfl kl_RX10_64 (Or.inl rfl) (k243 g1 (by decide) hn) ?_
  replace H := kite H; rcases H with ⟨g2, H⟩ | ⟨g2, H⟩
  · refine x_icmp_ge_t dX10_weigh_166 (q := 213) (by decide) g2 ?_
    cases H
    refine x_sub (ls2 := [(0, .ref v0), (1, .ref v1), (2, .ref v2), (3, .int v3), (4, .long v4), (6, .int v6)]) [0, 1, 2, 3, 4, 5] rfl ?_
    exact x_end (x_cfg rfl)
  · refine x_icmp_ge_f (q := 169) dX10_weigh_166 (t := 213) (by decide) rfl g2 ?_
    refine x_lload (q := 171) dX10_weigh_169 rfl rfl ?_
    refine x_lconst (q := 172) (v := (0 : Int64)) dX10_weigh_171 rfl (by decide) ?_
    refine x_lcmp (q := 173) dX10_weigh_172 rfl ?_
    replace H := kite H; rcases H with ⟨g3, H⟩ | ⟨g3, H⟩
    · refine x_if_le_t dX10_weigh_173 (q := 213) (by decide) g3 ?_
      cases H
      refine x_sub (ls2 := [(0, .ref v0), (1, .ref v1), (2, .ref v2), (3, .int v3), (4, .long v4), (6, .int v6)]) [0, 1, 2, 3, 4, 5] rfl ?_
      exact x_end (x_cfg rfl)
    · refine x_if_le_f (q := 176) dX10_weigh_173 (t := 213) (by decide) rfl g3 ?_
      refine x_aload_n (q := 177) dX10_weigh_176 rfl rfl ?_
      refine x_iload_n (q := 178) dX10_weigh_177 rfl rfl ?_
      refine x_iload (q := 180) dX10_weigh_178 rfl rfl ?_
      refine x_iload (q := 182) dX10_weigh_180 rfl rfl ?_
      refine x_lload (q := 184) dX10_weigh_182 rfl rfl ?_
      refine x_aload_n (q := 185) dX10_weigh_184 rfl rfl ?_
      refine x_aload_n (q := 186) dX10_weigh_185 rfl rfl ?_
      refine x_aload_n (q := 187) dX10_weigh_186 rfl rfl ?_
      refine x_iconst (q := 188) (v := (1 : Int32)) dX10_weigh_187 rfl (by decide) ?_
      refine x_iload (q := 190) dX10_weigh_188 rfl rfl ?_
      refine x_iload_n (q := 191) dX10_weigh_190 rfl rfl ?_
      refine x_iconst (q := 192) (v := (1 : Int32)) dX10_weigh_191 rfl (by decide) ?_
      replace H := kite H; rcases H with ⟨g4, H⟩ | ⟨g4, H⟩
      · refine x_icmp_ne_f (q := 195) dX10_weigh_192 (t := 199) (by decide) rfl g4 ?_
        refine x_iconst (q := 196) (v := (1 : Int32)) dX10_weigh_195 rfl (by decide) ?_
        refine x_goto dX10_weigh_196 (q := 200) (by decide) ?_
        refine x_sub (ls2 := [(0, .ref v0), (1, .ref v1), (2, .ref v2), (3, .int v3), (4, .long v4), (6, .int v6), (7, .long v7), (9, .int s.1)]) [0, 1, 2, 3, 4, 5, 6, 7] rfl ?_
        exact s_X10_weigh_b200 s.2 v0 v1 v2 v3 v4 v6 v7 s.1 v0 v3 v6 s.1 v7 v0 v1 v2 (1 : Int32) s.1 (1 : Int32) hn H
      · refine x_icmp_ne_t dX10_weigh_192 (q := 199) (by decide) g4 ?_
        refine x_iconst (q := 200) (v := (0 : Int32)) dX10_weigh_199 rfl (by decide) ?_
        refine x_sub (ls2 := [(0, .ref v0), (1, .ref v1), (2, .ref v2), (3, .int v3), (4, .long v4), (6, .int v6), (7, .long v7), (9, .int s.1)]) [0, 1, 2, 3, 4, 5, 6, 7] rfl ?_
        exact s_X10_weigh_b200 s.2 v0 v1 v2 v3 v4 v6 v7 s.1 v0 v3 v6 s.1 v7 v0 v1 v2 (1 : Int32) s.1 (0 : Int32) hn H
theorem sl_X10_weigh_l160 {Z : Nat → (Nat → Nat) → State → Prop} (v0 : Nat) (v1 : Nat) (v2 : Nat) (v3 : Int32) (v4 : Int64) (v6 : Int32) (v7 : Int64) (n : Nat) (s : Int32 × KH) (r : KH) (hn : (s.2).1 = 243) (H : kloop (f_X10_weigh_l160 v0 v1 v2 v3 v4 v6 v7) n s = some r) : KX Z RX10 cX10_weigh 10 false 6 (E_X10_weigh_l160 v0 v1 v2 v3 v4 v6 v7 r) 160 [(0, .ref v0), (1, .ref v1), (2, .ref v2), (3, .int v3), (4, .long v4), (6, .int v6), (7, .long v7), (9, .int s.1)] [] s.2 :=
  k_loop (ls := (fun (s : Int32 × KH) => ([(0, .ref v0), (1, .ref v1), (2, .ref v2), (3, .int v3), (4, .long v4), (6, .int v6), (7, .long v7), (9, .int s.1)] : List (Nat × Value)))) (hp := (fun (s : Int32 × KH) => (s.2 : KH))) (G := E_X10_weigh_l160 v0 v1 v2 v3 v4 v6 v7) (fun s t hn H => s_X10_weigh_l160 v0 v1 v2 v3 v4 v6 v7 s t hn H) n s r hn H
def f_X10_weigh_b213 (h : KH) (v0 : Nat) (v1 : Nat) (v2 : Nat) (v3 : Int32) (v4 : Int64) (v6 : Int32) : Option ((Int32 × KH) ⊕ (KH)) :=
  kl (v6 + (1 : Int32)) fun x1 =>
  some (.inl (x1, h))
set_option maxHeartbeats 4000000 in
set_option maxRecDepth 100000 in
theorem s_X10_weigh_b213 {Z : Nat → (Nat → Nat) → State → Prop} (h : KH) (v0 : Nat) (v1 : Nat) (v2 : Nat) (v3 : Int32) (v4 : Int64) (v6 : Int32) {t : (Int32 × KH) ⊕ (KH)} (hn : h.1 = 243) (H : f_X10_weigh_b213 h v0 v1 v2 v3 v4 v6 = some t) : KX Z RX10 cX10_weigh 10 false 6 (B_X10_weigh_l125 v0 v1 v2 v3 v4 t) 213 [(0, .ref v0), (1, .ref v1), (2, .ref v2), (3, .int v3), (4, .long v4), (6, .int v6)] [] h := by
  unfold f_X10_weigh_b213 at H
  replace H := kle H; obtain ⟨x1, q2, H⟩ := H
  refine x_iinc (q := 216) (i := 6) (ls2 := [(6, .int x1), (0, .ref v0), (1, .ref v1), (2, .ref v2), (3, .int v3), (4, .long v4)]) dX10_weigh_213 rfl rfl (by decide) (by rw [q2]; rfl) ?_
  refine x_goto dX10_weigh_216 (q := 125) (by decide) ?_
  cases H
  refine x_sub (ls2 := [(0, .ref v0), (1, .ref v1), (2, .ref v2), (3, .int v3), (4, .long v4), (6, .int x1)]) [1, 2, 3, 4, 5, 0] rfl ?_
  exact x_end (x_cfg rfl)
def f_X10_weigh_b151 (h : KH) (v0 : Nat) (v1 : Nat) (v2 : Nat) (v3 : Int32) (v4 : Int64) (v6 : Int32) (w0 : Int64) (w1 : Nat) (w2 : Nat) (w3 : Nat) (w4 : Int32) (w5 : Int32) (w6 : Int32) : Option ((Int32 × KH) ⊕ (KH)) :=
  if kkind w1 = 10 then kb (f_X10_factor h w1 w2 w3 w4 w5 w6) fun r2 =>
  kl (w0 * r2) fun x5 =>
  kb (kloop (f_X10_weigh_l160 v0 v1 v2 v3 v4 v6 x5) KF ((0 : Int32), h)) fun e7 =>
  f_X10_weigh_b213 e7 v0 v1 v2 v3 v4 v6 else none
set_option maxHeartbeats 4000000 in
set_option maxRecDepth 100000 in
theorem s_X10_weigh_b151 {Z : Nat → (Nat → Nat) → State → Prop} (h : KH) (v0 : Nat) (v1 : Nat) (v2 : Nat) (v3 : Int32) (v4 : Int64) (v6 : Int32) (w0 : Int64) (w1 : Nat) (w2 : Nat) (w3 : Nat) (w4 : Int32) (w5 : Int32) (w6 : Int32) {t : (Int32 × KH) ⊕ (KH)} (hn : h.1 = 243) (H : f_X10_weigh_b151 h v0 v1 v2 v3 v4 v6 w0 w1 w2 w3 w4 w5 w6 = some t) : KX Z RX10 cX10_weigh 10 false 6 (B_X10_weigh_l125 v0 v1 v2 v3 v4 t) 151 [(0, .ref v0), (1, .ref v1), (2, .ref v2), (3, .int v3), (4, .long v4), (6, .int v6)] [.int w6, .int w5, .int w4, .ref w3, .ref w2, .ref w1, .long w0] h := by
  unfold f_X10_weigh_b151 at H
  replace H := kif H; obtain ⟨g1, H⟩ := H
  replace H := kbe H; obtain ⟨r2, c3, H⟩ := H
  have m4 := s_X10_factor (Z := Z) h w1 w2 w3 w4 w5 w6 hn c3
  refine x_callV (q := 154) (as := [.ref w2, .ref w3, .int w4, .int w5, .int w6]) (rest := [.long w0]) dX10_weigh_151 rfl kc_RX10_67 kh_X10_factor (by decide) (Nat.le_of_ble_eq_true rfl) m4 (ci := 10) (by exact ⟨rfl, by decide⟩) (k243 g1 (by decide) hn) ?_
  refine x_lmul (q := 155) dX10_weigh_154 rfl ?_
  replace H := kle H; obtain ⟨x5, q6, H⟩ := H
  refine x_nmL q6 ?_
  refine x_lstore (q := 157) (i := 7) (ls2 := [(7, .long x5), (0, .ref v0), (1, .ref v1), (2, .ref v2), (3, .int v3), (4, .long v4), (6, .int v6)]) dX10_weigh_155 rfl (by decide) rfl ?_
  refine x_iconst (q := 158) (v := (0 : Int32)) dX10_weigh_157 rfl (by decide) ?_
  refine x_istore (q := 160) (i := 9) (ls2 := [(9, .int (0 : Int32)), (7, .long x5), (0, .ref v0), (1, .ref v1), (2, .ref v2), (3, .int v3), (4, .long v4), (6, .int v6)]) dX10_weigh_158 rfl (by decide) rfl ?_
  refine x_sub (ls2 := [(0, .ref v0), (1, .ref v1), (2, .ref v2), (3, .int v3), (4, .long v4), (6, .int v6), (7, .long x5), (9, .int (0 : Int32))]) [2, 3, 4, 5, 6, 7, 1, 0] rfl ?_
  replace H := kbe H; obtain ⟨e7, c8, H⟩ := H
  refine x_app (sl_X10_weigh_l160 v0 v1 v2 v3 v4 v6 x5 KF ((0 : Int32), h) e7 hn c8) fun pc2 ls2 st2 h2 hg m9 => ?_
  obtain ⟨rfl, rfl, rfl, rfl⟩ := hg
  refine x_sub (ls2 := [(0, .ref v0), (1, .ref v1), (2, .ref v2), (3, .int v3), (4, .long v4), (6, .int v6)]) [0, 1, 2, 3, 4, 5] rfl ?_
  exact s_X10_weigh_b213 e7 v0 v1 v2 v3 v4 v6 (m9.full hn) H
def f_X10_weigh_l125 (v0 : Nat) (v1 : Nat) (v2 : Nat) (v3 : Int32) (v4 : Int64) (s : Int32 × KH) : Option ((Int32 × KH) ⊕ (KH)) :=
  if kkind v1 = 2 then if (kI s.2 v1 3) ≤ s.1 then
  some (.inr s.2)
  else
  if v3 = 0 then
  f_X10_weigh_b151 s.2 v0 v1 v2 v3 v4 s.1 v4 v0 v1 v2 (0 : Int32) s.1 (1 : Int32)
  else
  f_X10_weigh_b151 s.2 v0 v1 v2 v3 v4 s.1 v4 v0 v1 v2 (0 : Int32) s.1 (0 : Int32) else none
set_option maxHeartbeats 4000000 in
set_option maxRecDepth 100000 in
theorem s_X10_weigh_l125 {Z : Nat → (Nat → Nat) → State → Prop} (v0 : Nat) (v1 : Nat) (v2 : Nat) (v3 : Int32) (v4 : Int64) (s : Int32 × KH) (t : (Int32 × KH) ⊕ (KH)) (hn : (s.2).1 = 243) (H : f_X10_weigh_l125 v0 v1 v2 v3 v4 s = some t) : KX Z RX10 cX10_weigh 10 false 6 (B_X10_weigh_l125 v0 v1 v2 v3 v4 t) 125 [(0, .ref v0), (1, .ref v1), (2, .ref v2), (3, .int v3), (4, .long v4), (6, .int s.1)] [] s.2 := by
  unfold f_X10_weigh_l125 at H
  refine x_iload (q := 127) dX10_weigh_125 rfl rfl ?_
  refine x_aload_n (q := 128) dX10_weigh_127 rfl rfl ?_
  replace H := kif H; obtain ⟨g1, H⟩ := H
  refine x_getI (q := 131) dX10_weigh_128 rfl kl_RX10_64 (Or.inl rfl) (k243 g1 (by decide) hn) ?_
  replace H := kite H; rcases H with ⟨g2, H⟩ | ⟨g2, H⟩
  · refine x_icmp_ge_t dX10_weigh_131 (q := 219) (by decide) g2 ?_
    cases H
    refine x_sub (ls2 := [(0, .ref v0), (1, .ref v1), (2, .ref v2), (3, .int v3)]) [0, 1, 2, 3] rfl ?_
    exact x_end (x_cfg rfl)
  · refine x_icmp_ge_f (q := 134) dX10_weigh_131 (t := 219) (by decide) rfl g2 ?_
    refine x_lload (q := 136) dX10_weigh_134 rfl rfl ?_
    refine x_aload_n (q := 137) dX10_weigh_136 rfl rfl ?_
    refine x_aload_n (q := 138) dX10_weigh_137 rfl rfl ?_
    refine x_aload_n (q := 139) dX10_weigh_138 rfl rfl ?_
    refine x_iconst (q := 140) (v := (0 : Int32)) dX10_weigh_139 rfl (by decide) ?_
    refine x_iload (q := 142) dX10_weigh_140 rfl rfl ?_
    refine x_iload_n (q := 143) dX10_weigh_142 rfl rfl ?_
    replace H := kite H; rcases H with ⟨g3, H⟩ | ⟨g3, H⟩
    · refine x_if_ne_f (q := 146) dX10_weigh_143 (t := 150) (by decide) rfl g3 ?_
      refine x_iconst (q := 147) (v := (1 : Int32)) dX10_weigh_146 rfl (by decide) ?_
      refine x_goto dX10_weigh_147 (q := 151) (by decide) ?_
      refine x_sub (ls2 := [(0, .ref v0), (1, .ref v1), (2, .ref v2), (3, .int v3), (4, .long v4), (6, .int s.1)]) [0, 1, 2, 3, 4, 5] rfl ?_
      exact s_X10_weigh_b151 s.2 v0 v1 v2 v3 v4 s.1 v4 v0 v1 v2 (0 : Int32) s.1 (1 : Int32) hn H
    · refine x_if_ne_t dX10_weigh_143 (q := 150) (by decide) g3 ?_
      refine x_iconst (q := 151) (v := (0 : Int32)) dX10_weigh_150 rfl (by decide) ?_
      refine x_sub (ls2 := [(0, .ref v0), (1, .ref v1), (2, .ref v2), (3, .int v3), (4, .long v4), (6, .int s.1)]) [0, 1, 2, 3, 4, 5] rfl ?_
      exact s_X10_weigh_b151 s.2 v0 v1 v2 v3 v4 s.1 v4 v0 v1 v2 (0 : Int32) s.1 (0 : Int32) hn H
theorem sl_X10_weigh_l125 {Z : Nat → (Nat → Nat) → State → Prop} (v0 : Nat) (v1 : Nat) (v2 : Nat) (v3 : Int32) (v4 : Int64) (n : Nat) (s : Int32 × KH) (r : KH) (hn : (s.2).1 = 243) (H : kloop (f_X10_weigh_l125 v0 v1 v2 v3 v4) n s = some r) : KX Z RX10 cX10_weigh 10 false 6 (E_X10_weigh_l125 v0 v1 v2 v3 v4 r) 125 [(0, .ref v0), (1, .ref v1), (2, .ref v2), (3, .int v3), (4, .long v4), (6, .int s.1)] [] s.2 :=
  k_loop (ls := (fun (s : Int32 × KH) => ([(0, .ref v0), (1, .ref v1), (2, .ref v2), (3, .int v3), (4, .long v4), (6, .int s.1)] : List (Nat × Value)))) (hp := (fun (s : Int32 × KH) => (s.2 : KH))) (G := E_X10_weigh_l125 v0 v1 v2 v3 v4) (fun s t hn H => s_X10_weigh_l125 v0 v1 v2 v3 v4 s t hn H) n s r hn H
def f_X10_weigh_b120 (h : KH) (v0 : Nat) (v1 : Nat) (v2 : Nat) (v3 : Int32) (w0 : Int64) : Option ((Int32 × KH) ⊕ (KH)) :=
  kb (kloop (f_X10_weigh_l125 v0 v1 v2 v3 w0) KF ((0 : Int32), h)) fun e1 =>
  kl (v3 + (1 : Int32)) fun x4 =>
  some (.inl (x4, e1))
set_option maxHeartbeats 4000000 in
set_option maxRecDepth 100000 in
theorem s_X10_weigh_b120 {Z : Nat → (Nat → Nat) → State → Prop} (h : KH) (v0 : Nat) (v1 : Nat) (v2 : Nat) (v3 : Int32) (w0 : Int64) {t : (Int32 × KH) ⊕ (KH)} (hn : h.1 = 243) (H : f_X10_weigh_b120 h v0 v1 v2 v3 w0 = some t) : KX Z RX10 cX10_weigh 10 false 6 (B_X10_weigh_l95 v0 v1 v2 t) 120 [(0, .ref v0), (1, .ref v1), (2, .ref v2), (3, .int v3)] [.long w0] h := by
  unfold f_X10_weigh_b120 at H
  refine x_lstore (q := 122) (i := 4) (ls2 := [(4, .long w0), (0, .ref v0), (1, .ref v1), (2, .ref v2), (3, .int v3)]) dX10_weigh_120 rfl (by decide) rfl ?_
  refine x_iconst (q := 123) (v := (0 : Int32)) dX10_weigh_122 rfl (by decide) ?_
  refine x_istore (q := 125) (i := 6) (ls2 := [(6, .int (0 : Int32)), (4, .long w0), (0, .ref v0), (1, .ref v1), (2, .ref v2), (3, .int v3)]) dX10_weigh_123 rfl (by decide) rfl ?_
  refine x_sub (ls2 := [(0, .ref v0), (1, .ref v1), (2, .ref v2), (3, .int v3), (4, .long w0), (6, .int (0 : Int32))]) [2, 3, 4, 5, 1, 0] rfl ?_
  replace H := kbe H; obtain ⟨e1, c2, H⟩ := H
  refine x_app (sl_X10_weigh_l125 v0 v1 v2 v3 w0 KF ((0 : Int32), h) e1 hn c2) fun pc2 ls2 st2 h2 hg m3 => ?_
  obtain ⟨rfl, rfl, rfl, rfl⟩ := hg
  replace H := kle H; obtain ⟨x4, q5, H⟩ := H
  refine x_iinc (q := 222) (i := 3) (ls2 := [(3, .int x4), (0, .ref v0), (1, .ref v1), (2, .ref v2)]) dX10_weigh_219 rfl rfl (by decide) (by rw [q5]; rfl) ?_
  refine x_goto dX10_weigh_222 (q := 95) (by decide) ?_
  cases H
  refine x_sub (ls2 := [(0, .ref v0), (1, .ref v1), (2, .ref v2), (3, .int x4)]) [1, 2, 3, 0] rfl ?_
  exact x_end (x_cfg rfl)
def f_X10_weigh_l95 (v0 : Nat) (v1 : Nat) (v2 : Nat) (s : Int32 × KH) : Option ((Int32 × KH) ⊕ (KH)) :=
  if (2 : Int32) ≤ s.1 then
  some (.inr s.2)
  else
  if s.1 = 0 then
  if kkind v1 = 2 then f_X10_weigh_b120 s.2 v0 v1 v2 s.1 (((kI s.2 v1 6)).toInt64) else none
  else
  if kkind v1 = 2 then f_X10_weigh_b120 s.2 v0 v1 v2 s.1 ((((100 : Int32) - (kI s.2 v1 6))).toInt64) else none
set_option maxHeartbeats 4000000 in
set_option maxRecDepth 100000 in
theorem s_X10_weigh_l95 {Z : Nat → (Nat → Nat) → State → Prop} (v0 : Nat) (v1 : Nat) (v2 : Nat) (s : Int32 × KH) (t : (Int32 × KH) ⊕ (KH)) (hn : (s.2).1 = 243) (H : f_X10_weigh_l95 v0 v1 v2 s = some t) : KX Z RX10 cX10_weigh 10 false 6 (B_X10_weigh_l95 v0 v1 v2 t) 95 [(0, .ref v0), (1, .ref v1), (2, .ref v2), (3, .int s.1)] [] s.2 := by
  unfold f_X10_weigh_l95 at H
  refine x_iload_n (q := 96) dX10_weigh_95 rfl rfl ?_
  refine x_iconst (q := 97) (v := (2 : Int32)) dX10_weigh_96 rfl (by decide) ?_
  replace H := kite H; rcases H with ⟨g1, H⟩ | ⟨g1, H⟩
  · refine x_icmp_ge_t dX10_weigh_97 (q := 225) (by decide) g1 ?_
    cases H
    refine x_sub (ls2 := []) [] rfl ?_
    exact x_end (x_cfg rfl)
  · refine x_icmp_ge_f (q := 100) dX10_weigh_97 (t := 225) (by decide) rfl g1 ?_
    refine x_iload_n (q := 101) dX10_weigh_100 rfl rfl ?_
    replace H := kite H; rcases H with ⟨g2, H⟩ | ⟨g2, H⟩
    · refine x_if_ne_f (q := 104) dX10_weigh_101 (t := 112) (by decide) rfl g2 ?_
      refine x_aload_n (q := 105) dX10_weigh_104 rfl rfl ?_
      replace H := kif H; obtain ⟨g4, H⟩ := H
      refine x_getI (q := 108) dX10_weigh_105 rfl kl_RX10_61 (Or.inl rfl) (k243 g4 (by decide) hn) ?_
      refine x_i2l (q := 109) dX10_weigh_108 rfl ?_
      refine x_goto dX10_weigh_109 (q := 120) (by decide) ?_
      refine x_sub (ls2 := [(0, .ref v0), (1, .ref v1), (2, .ref v2), (3, .int s.1)]) [0, 1, 2, 3] rfl ?_
      exact s_X10_weigh_b120 s.2 v0 v1 v2 s.1 (((kI s.2 v1 6)).toInt64) hn H
    · refine x_if_ne_t dX10_weigh_101 (q := 112) (by decide) g2 ?_
      refine x_bipush (q := 114) (v := (100 : Int32)) dX10_weigh_112 rfl (by decide) ?_
      refine x_aload_n (q := 115) dX10_weigh_114 rfl rfl ?_
      replace H := kif H; obtain ⟨g3, H⟩ := H
      refine x_getI (q := 118) dX10_weigh_115 rfl kl_RX10_61 (Or.inl rfl) (k243 g3 (by decide) hn) ?_
      refine x_isub (q := 119) dX10_weigh_118 rfl ?_
      refine x_i2l (q := 120) dX10_weigh_119 rfl ?_
      refine x_sub (ls2 := [(0, .ref v0), (1, .ref v1), (2, .ref v2), (3, .int s.1)]) [0, 1, 2, 3] rfl ?_
      exact s_X10_weigh_b120 s.2 v0 v1 v2 s.1 ((((100 : Int32) - (kI s.2 v1 6))).toInt64) hn H
theorem sl_X10_weigh_l95 {Z : Nat → (Nat → Nat) → State → Prop} (v0 : Nat) (v1 : Nat) (v2 : Nat) (n : Nat) (s : Int32 × KH) (r : KH) (hn : (s.2).1 = 243) (H : kloop (f_X10_weigh_l95 v0 v1 v2) n s = some r) : KX Z RX10 cX10_weigh 10 false 6 (E_X10_weigh_l95 v0 v1 v2 r) 95 [(0, .ref v0), (1, .ref v1), (2, .ref v2), (3, .int s.1)] [] s.2 :=
  k_loop (ls := (fun (s : Int32 × KH) => ([(0, .ref v0), (1, .ref v1), (2, .ref v2), (3, .int s.1)] : List (Nat × Value)))) (hp := (fun (s : Int32 × KH) => (s.2 : KH))) (G := E_X10_weigh_l95 v0 v1 v2) (fun s t hn H => s_X10_weigh_l95 v0 v1 v2 s t hn H) n s r hn H
def f_X10_weigh (h : KH) (v0 : Nat) (v1 : Nat) (v2 : Nat) : Option (KH) :=
  if kkind v0 = 10 then if (kR h v0 5) < 999999 then kb (f_J7_fill_53178 h (kR h v0 5) (0 : Int32)) fun r3 =>
  kb (kloop (f_X10_weigh_l10 v0 v1 v2) KF ((0 : Int32), r3)) fun e7 =>
  kl (ksI e7 v0 3 (0 : Int32)) fun h10 =>
  if (kR h10 v0 0) < 999999 then kb (f_J7_fill_d0a16 h10 (kR h10 v0 0) (0 : Int64)) fun r14 =>
  if (kR r14 v0 4) < 999999 then kb (f_J7_fill_d0a16 r14 (kR r14 v0 4) (0 : Int64)) fun r19 =>
  kb (kloop (f_X10_weigh_l95 v0 v1 v2) KF ((0 : Int32), r19)) fun e23 =>
  some e23 else none else none else none else none
set_option maxHeartbeats 4000000 in
set_option maxRecDepth 100000 in
theorem s0_X10_weigh {Z : Nat → (Nat → Nat) → State → Prop} (h : KH) (v0 : Nat) (v1 : Nat) (v2 : Nat) {t : KH} (hn : h.1 = 243) (H : f_X10_weigh h v0 v1 v2 = some t) : KX Z RX10 cX10_weigh 10 false 6 (KRv cX10_weigh t) 0 [(0, .ref v0), (1, .ref v1), (2, .ref v2)] [] h := by
  unfold f_X10_weigh at H
  refine x_aload_n (q := 1) dX10_weigh_0 rfl rfl ?_
  replace H := kif H; obtain ⟨g1, H⟩ := H
  replace H := kif H; obtain ⟨g2, H⟩ := H
  refine x_getR (q := 4) dX10_weigh_1 rfl kl_RX10_29 rfl (k243 g1 (by decide) hn) g2 ?_
  refine x_iconst (q := 5) (v := (0 : Int32)) dX10_weigh_4 rfl (by decide) ?_
  replace H := kbe H; obtain ⟨r3, c4, H⟩ := H
  have m5 := s_J7_fill_53178 (Z := Z) h (kR h v0 5) (0 : Int32) hn c4
  refine x_callS (q := 8) (as := [.ref (kR h v0 5), .int (0 : Int32)]) (rest := []) dX10_weigh_5 rfl kc_RX10_38 kh_J7_fill_53178 (by decide) (Nat.le_of_ble_eq_true rfl) m5 ?_
  have n6 : (r3).1 = 243 := m5.1.full hn
  refine x_iconst (q := 9) (v := (0 : Int32)) dX10_weigh_8 rfl (by decide) ?_
  refine x_istore_n (q := 10) (i := 3) (ls2 := [(3, .int (0 : Int32)), (0, .ref v0), (1, .ref v1), (2, .ref v2)]) dX10_weigh_9 rfl rfl (by decide) rfl ?_
  refine x_sub (ls2 := [(0, .ref v0), (1, .ref v1), (2, .ref v2), (3, .int (0 : Int32))]) [1, 2, 3, 0] rfl ?_
  replace H := kbe H; obtain ⟨e7, c8, H⟩ := H
  refine x_app (sl_X10_weigh_l10 v0 v1 v2 KF ((0 : Int32), r3) e7 n6 c8) fun pc2 ls2 st2 h2 hg m9 => ?_
  obtain ⟨rfl, rfl, rfl, rfl⟩ := hg
  refine x_aload_n (q := 73) dX10_weigh_72 rfl rfl ?_
  refine x_iconst (q := 74) (v := (0 : Int32)) dX10_weigh_73 rfl (by decide) ?_
  replace H := kle H; obtain ⟨h10, q11, H⟩ := H
  refine x_putI (q := 77) dX10_weigh_74 rfl kl_RX10_22 (Or.inl rfl) rfl (k243 g1 (by decide) (m9.full n6)) ?_
  refine x_nmH q11 ?_
  have n12 : h10.1 = 243 := by rw [q11]; exact (m9.full n6)
  refine x_aload_n (q := 78) dX10_weigh_77 rfl rfl ?_
  replace H := kif H; obtain ⟨g13, H⟩ := H
  refine x_getR (q := 81) dX10_weigh_78 rfl kl_RX10_11 rfl (k243 g1 (by decide) n12) g13 ?_
  refine x_lconst (q := 82) (v := (0 : Int64)) dX10_weigh_81 rfl (by decide) ?_
  replace H := kbe H; obtain ⟨r14, c15, H⟩ := H
  have m16 := s_J7_fill_d0a16 (Z := Z) h10 (kR h10 v0 0) (0 : Int64) n12 c15
  refine x_callS (q := 85) (as := [.ref (kR h10 v0 0), .long (0 : Int64)]) (rest := []) dX10_weigh_82 rfl kc_RX10_58 kh_J7_fill_d0a16 (by decide) (Nat.le_of_ble_eq_true rfl) m16 ?_
  have n17 : (r14).1 = 243 := m16.1.full n12
  refine x_aload_n (q := 86) dX10_weigh_85 rfl rfl ?_
  replace H := kif H; obtain ⟨g18, H⟩ := H
  refine x_getR (q := 89) dX10_weigh_86 rfl kl_RX10_26 rfl (k243 g1 (by decide) n17) g18 ?_
  refine x_lconst (q := 90) (v := (0 : Int64)) dX10_weigh_89 rfl (by decide) ?_
  replace H := kbe H; obtain ⟨r19, c20, H⟩ := H
  have m21 := s_J7_fill_d0a16 (Z := Z) r14 (kR r14 v0 4) (0 : Int64) n17 c20
  refine x_callS (q := 93) (as := [.ref (kR r14 v0 4), .long (0 : Int64)]) (rest := []) dX10_weigh_90 rfl kc_RX10_58 kh_J7_fill_d0a16 (by decide) (Nat.le_of_ble_eq_true rfl) m21 ?_
  have n22 : (r19).1 = 243 := m21.1.full n17
  refine x_iconst (q := 94) (v := (0 : Int32)) dX10_weigh_93 rfl (by decide) ?_
  refine x_istore_n (q := 95) (i := 3) (ls2 := [(3, .int (0 : Int32)), (0, .ref v0), (1, .ref v1), (2, .ref v2)]) dX10_weigh_94 rfl rfl (by decide) rfl ?_
  refine x_sub (ls2 := [(0, .ref v0), (1, .ref v1), (2, .ref v2), (3, .int (0 : Int32))]) [1, 2, 3, 0] rfl ?_
  replace H := kbe H; obtain ⟨e23, c24, H⟩ := H
  refine x_app (sl_X10_weigh_l95 v0 v1 v2 KF ((0 : Int32), r19) e23 n22 c24) fun pc2 ls2 st2 h2 hg m25 => ?_
  obtain ⟨rfl, rfl, rfl, rfl⟩ := hg
  cases H
  exact x_end ⟨dX10_weigh_225, rfl, rfl⟩
theorem s_X10_weigh {Z : Nat → (Nat → Nat) → State → Prop} (h : KH) (v0 : Nat) (v1 : Nat) (v2 : Nat) {t : KH} (hn : h.1 = 243) (H : f_X10_weigh h v0 v1 v2 = some t) : KM Z yX10_weigh cX10_weigh 10 none 6 [.ref v0, .ref v1, .ref v2] h none t :=
  kx_v (own := RX10) (ini := false) (by decide +kernel) (by decide +kernel) rfl (Nat.le_of_ble_eq_true rfl) (s0_X10_weigh h v0 v1 v2 hn H)
theorem dX10_sumOf_0 : decode cX10_sumOf 0 = .ok (.aload_n 0, 1) := by decide +kernel
theorem dX10_sumOf_1 : decode cX10_sumOf 1 = .ok (.getfield 26, 3) := by decide +kernel
theorem dX10_sumOf_4 : decode cX10_sumOf 4 = .ok (.iload_n 1, 1) := by decide +kernel
theorem dX10_sumOf_5 : decode cX10_sumOf 5 = .ok (.laload, 1) := by decide +kernel
theorem dX10_sumOf_6 : decode cX10_sumOf 6 = .ok (.lreturn, 1) := by decide +kernel
def f_X10_sumOf (h : KH) (v0 : Nat) (v1 : Int32) : Option (Int64) :=
  if kkind v0 = 10 then if (kR h v0 4) < 999999 then if kkind (kR h v0 4) = 21 then if (v1 < 0 ∨ klen (kR h v0 4) ≤ (v1).toNatClampNeg) then none else some (kL h (kR h v0 4) ((v1).toNatClampNeg)) else none else none else none
set_option maxHeartbeats 4000000 in
set_option maxRecDepth 100000 in
theorem s0_X10_sumOf {Z : Nat → (Nat → Nat) → State → Prop} (h : KH) (v0 : Nat) (v1 : Int32) {t : Int64} (hn : h.1 = 243) (H : f_X10_sumOf h v0 v1 = some t) : KX Z RX10 cX10_sumOf 2 false 1 (KRl cX10_sumOf t h) 0 [(0, .ref v0), (1, .int v1)] [] h := by
  unfold f_X10_sumOf at H
  refine x_aload_n (q := 1) dX10_sumOf_0 rfl rfl ?_
  replace H := kif H; obtain ⟨g1, H⟩ := H
  replace H := kif H; obtain ⟨g2, H⟩ := H
  refine x_getR (q := 4) dX10_sumOf_1 rfl kl_RX10_26 rfl (k243 g1 (by decide) hn) g2 ?_
  refine x_iload_n (q := 5) dX10_sumOf_4 rfl rfl ?_
  replace H := kif H; obtain ⟨g3, H⟩ := H
  replace H := kifn H; obtain ⟨g4, H⟩ := H
  refine x_lald (q := 6) dX10_sumOf_5 rfl (k243 g3 (by decide) hn) g4 ?_
  cases H
  exact x_end ⟨dX10_sumOf_6, rfl, rfl⟩
theorem s_X10_sumOf {Z : Nat → (Nat → Nat) → State → Prop} (h : KH) (v0 : Nat) (v1 : Int32) {t : Int64} (hn : h.1 = 243) (H : f_X10_sumOf h v0 v1 = some t) : KM Z yX10_sumOf cX10_sumOf 2 (some .long) 1 [.ref v0, .int v1] h (some (.long t)) h :=
  kx_l (own := RX10) (ini := false) (by decide +kernel) (by decide +kernel) rfl (Nat.le_of_ble_eq_true rfl) (s0_X10_sumOf h v0 v1 hn H)
theorem dX10_weightOf_0 : decode cX10_weightOf 0 = .ok (.aload_n 0, 1) := by decide +kernel
theorem dX10_weightOf_1 : decode cX10_weightOf 1 = .ok (.getfield 11, 3) := by decide +kernel
theorem dX10_weightOf_4 : decode cX10_weightOf 4 = .ok (.iload_n 1, 1) := by decide +kernel
theorem dX10_weightOf_5 : decode cX10_weightOf 5 = .ok (.bipush 6, 2) := by decide +kernel
theorem dX10_weightOf_7 : decode cX10_weightOf 7 = .ok (.imul, 1) := by decide +kernel
theorem dX10_weightOf_8 : decode cX10_weightOf 8 = .ok (.iload_n 2, 1) := by decide +kernel
theorem dX10_weightOf_9 : decode cX10_weightOf 9 = .ok (.iadd, 1) := by decide +kernel
theorem dX10_weightOf_10 : decode cX10_weightOf 10 = .ok (.bipush 6, 2) := by decide +kernel
theorem dX10_weightOf_12 : decode cX10_weightOf 12 = .ok (.imul, 1) := by decide +kernel
theorem dX10_weightOf_13 : decode cX10_weightOf 13 = .ok (.iload_n 3, 1) := by decide +kernel
theorem dX10_weightOf_14 : decode cX10_weightOf 14 = .ok (.iadd, 1) := by decide +kernel
theorem dX10_weightOf_15 : decode cX10_weightOf 15 = .ok (.laload, 1) := by decide +kernel
theorem dX10_weightOf_16 : decode cX10_weightOf 16 = .ok (.lreturn, 1) := by decide +kernel
def f_X10_weightOf (h : KH) (v0 : Nat) (v1 : Int32) (v2 : Int32) (v3 : Int32) : Option (Int64) :=
  if kkind v0 = 10 then if (kR h v0 0) < 999999 then if kkind (kR h v0 0) = 21 then if (((((v1 * (6 : Int32)) + v2) * (6 : Int32)) + v3) < 0 ∨ klen (kR h v0 0) ≤ (((((v1 * (6 : Int32)) + v2) * (6 : Int32)) + v3)).toNatClampNeg) then none else some (kL h (kR h v0 0) ((((((v1 * (6 : Int32)) + v2) * (6 : Int32)) + v3)).toNatClampNeg)) else none else none else none
set_option maxHeartbeats 4000000 in
set_option maxRecDepth 100000 in
theorem s0_X10_weightOf {Z : Nat → (Nat → Nat) → State → Prop} (h : KH) (v0 : Nat) (v1 : Int32) (v2 : Int32) (v3 : Int32) {t : Int64} (hn : h.1 = 243) (H : f_X10_weightOf h v0 v1 v2 v3 = some t) : KX Z RX10 cX10_weightOf 4 false 1 (KRl cX10_weightOf t h) 0 [(0, .ref v0), (1, .int v1), (2, .int v2), (3, .int v3)] [] h := by
  unfold f_X10_weightOf at H
  refine x_aload_n (q := 1) dX10_weightOf_0 rfl rfl ?_
  replace H := kif H; obtain ⟨g1, H⟩ := H
  replace H := kif H; obtain ⟨g2, H⟩ := H
  refine x_getR (q := 4) dX10_weightOf_1 rfl kl_RX10_11 rfl (k243 g1 (by decide) hn) g2 ?_
  refine x_iload_n (q := 5) dX10_weightOf_4 rfl rfl ?_
  refine x_bipush (q := 7) (v := (6 : Int32)) dX10_weightOf_5 rfl (by decide) ?_
  refine x_imul (q := 8) dX10_weightOf_7 rfl ?_
  refine x_iload_n (q := 9) dX10_weightOf_8 rfl rfl ?_
  refine x_iadd (q := 10) dX10_weightOf_9 rfl ?_
  refine x_bipush (q := 12) (v := (6 : Int32)) dX10_weightOf_10 rfl (by decide) ?_
  refine x_imul (q := 13) dX10_weightOf_12 rfl ?_
  refine x_iload_n (q := 14) dX10_weightOf_13 rfl rfl ?_
  refine x_iadd (q := 15) dX10_weightOf_14 rfl ?_
  replace H := kif H; obtain ⟨g3, H⟩ := H
  replace H := kifn H; obtain ⟨g4, H⟩ := H
  refine x_lald (q := 16) dX10_weightOf_15 rfl (k243 g3 (by decide) hn) g4 ?_
  cases H
  exact x_end ⟨dX10_weightOf_16, rfl, rfl⟩
theorem s_X10_weightOf {Z : Nat → (Nat → Nat) → State → Prop} (h : KH) (v0 : Nat) (v1 : Int32) (v2 : Int32) (v3 : Int32) {t : Int64} (hn : h.1 = 243) (H : f_X10_weightOf h v0 v1 v2 v3 = some t) : KM Z yX10_weightOf cX10_weightOf 4 (some .long) 1 [.ref v0, .int v1, .int v2, .int v3] h (some (.long t)) h :=
  kx_l (own := RX10) (ini := false) (by decide +kernel) (by decide +kernel) rfl (Nat.le_of_ble_eq_true rfl) (s0_X10_weightOf h v0 v1 v2 v3 hn H)
theorem dX10_answerIn_0 : decode cX10_answerIn 0 = .ok (.aload_n 0, 1) := by decide +kernel
theorem dX10_answerIn_1 : decode cX10_answerIn 1 = .ok (.getfield 29, 3) := by decide +kernel
theorem dX10_answerIn_4 : decode cX10_answerIn 4 = .ok (.iconst 2, 1) := by decide +kernel
theorem dX10_answerIn_5 : decode cX10_answerIn 5 = .ok (.iload_n 2, 1) := by decide +kernel
theorem dX10_answerIn_6 : decode cX10_answerIn 6 = .ok (.imul, 1) := by decide +kernel
theorem dX10_answerIn_7 : decode cX10_answerIn 7 = .ok (.iconst 1, 1) := by decide +kernel
theorem dX10_answerIn_8 : decode cX10_answerIn 8 = .ok (.iadd, 1) := by decide +kernel
theorem dX10_answerIn_9 : decode cX10_answerIn 9 = .ok (.iload_n 1, 1) := by decide +kernel
theorem dX10_answerIn_10 : decode cX10_answerIn 10 = .ok (.isub, 1) := by decide +kernel
theorem dX10_answerIn_11 : decode cX10_answerIn 11 = .ok (.iaload, 1) := by decide +kernel
theorem dX10_answerIn_12 : decode cX10_answerIn 12 = .ok (.iload 4, 2) := by decide +kernel
theorem dX10_answerIn_14 : decode cX10_answerIn 14 = .ok (.ishr, 1) := by decide +kernel
theorem dX10_answerIn_15 : decode cX10_answerIn 15 = .ok (.iconst 1, 1) := by decide +kernel
theorem dX10_answerIn_16 : decode cX10_answerIn 16 = .ok (.iand, 1) := by decide +kernel
theorem dX10_answerIn_17 : decode cX10_answerIn 17 = .ok (.istore 5, 2) := by decide +kernel
theorem dX10_answerIn_19 : decode cX10_answerIn 19 = .ok (.aload_n 0, 1) := by decide +kernel
theorem dX10_answerIn_20 : decode cX10_answerIn 20 = .ok (.getfield 29, 3) := by decide +kernel
theorem dX10_answerIn_23 : decode cX10_answerIn 23 = .ok (.iconst 2, 1) := by decide +kernel
theorem dX10_answerIn_24 : decode cX10_answerIn 24 = .ok (.iload_n 3, 1) := by decide +kernel
theorem dX10_answerIn_25 : decode cX10_answerIn 25 = .ok (.imul, 1) := by decide +kernel
theorem dX10_answerIn_26 : decode cX10_answerIn 26 = .ok (.iload_n 1, 1) := by decide +kernel
theorem dX10_answerIn_27 : decode cX10_answerIn 27 = .ok (.iadd, 1) := by decide +kernel
theorem dX10_answerIn_28 : decode cX10_answerIn 28 = .ok (.iaload, 1) := by decide +kernel
theorem dX10_answerIn_29 : decode cX10_answerIn 29 = .ok (.iload 4, 2) := by decide +kernel
theorem dX10_answerIn_31 : decode cX10_answerIn 31 = .ok (.ishr, 1) := by decide +kernel
theorem dX10_answerIn_32 : decode cX10_answerIn 32 = .ok (.iconst 1, 1) := by decide +kernel
theorem dX10_answerIn_33 : decode cX10_answerIn 33 = .ok (.iand, 1) := by decide +kernel
theorem dX10_answerIn_34 : decode cX10_answerIn 34 = .ok (.istore 6, 2) := by decide +kernel
theorem dX10_answerIn_36 : decode cX10_answerIn 36 = .ok (.iload 5, 2) := by decide +kernel
theorem dX10_answerIn_38 : decode cX10_answerIn 38 = .ok (.iconst 2, 1) := by decide +kernel
theorem dX10_answerIn_39 : decode cX10_answerIn 39 = .ok (.iload 6, 2) := by decide +kernel
theorem dX10_answerIn_41 : decode cX10_answerIn 41 = .ok (.imul, 1) := by decide +kernel
theorem dX10_answerIn_42 : decode cX10_answerIn 42 = .ok (.iadd, 1) := by decide +kernel
theorem dX10_answerIn_43 : decode cX10_answerIn 43 = .ok (.ireturn, 1) := by decide +kernel
def f_X10_answerIn (h : KH) (v0 : Nat) (v1 : Int32) (v2 : Int32) (v3 : Int32) (v4 : Int32) : Option (Int32) :=
  if kkind v0 = 10 then if (kR h v0 5) < 999999 then if kkind (kR h v0 5) = 20 then if (((((2 : Int32) * v2) + (1 : Int32)) - v1) < 0 ∨ klen (kR h v0 5) ≤ (((((2 : Int32) * v2) + (1 : Int32)) - v1)).toNatClampNeg) then none else kl (((kI h (kR h v0 5) ((((((2 : Int32) * v2) + (1 : Int32)) - v1)).toNatClampNeg)) >>> (v4 &&& 31)) &&& (1 : Int32)) fun x5 =>
  if ((((2 : Int32) * v3) + v1) < 0 ∨ klen (kR h v0 5) ≤ ((((2 : Int32) * v3) + v1)).toNatClampNeg) then none else kl (((kI h (kR h v0 5) (((((2 : Int32) * v3) + v1)).toNatClampNeg)) >>> (v4 &&& 31)) &&& (1 : Int32)) fun x8 =>
  some (x5 + ((2 : Int32) * x8)) else none else none else none
set_option maxHeartbeats 4000000 in
set_option maxRecDepth 100000 in
theorem s0_X10_answerIn {Z : Nat → (Nat → Nat) → State → Prop} (h : KH) (v0 : Nat) (v1 : Int32) (v2 : Int32) (v3 : Int32) (v4 : Int32) {t : Int32} (hn : h.1 = 243) (H : f_X10_answerIn h v0 v1 v2 v3 v4 = some t) : KX Z RX10 cX10_answerIn 7 false 1 (KRi cX10_answerIn t h) 0 [(0, .ref v0), (1, .int v1), (2, .int v2), (3, .int v3), (4, .int v4)] [] h := by
  unfold f_X10_answerIn at H
  refine x_aload_n (q := 1) dX10_answerIn_0 rfl rfl ?_
  replace H := kif H; obtain ⟨g1, H⟩ := H
  replace H := kif H; obtain ⟨g2, H⟩ := H
  refine x_getR (q := 4) dX10_answerIn_1 rfl kl_RX10_29 rfl (k243 g1 (by decide) hn) g2 ?_
  refine x_iconst (q := 5) (v := (2 : Int32)) dX10_answerIn_4 rfl (by decide) ?_
  refine x_iload_n (q := 6) dX10_answerIn_5 rfl rfl ?_
  refine x_imul (q := 7) dX10_answerIn_6 rfl ?_
  refine x_iconst (q := 8) (v := (1 : Int32)) dX10_answerIn_7 rfl (by decide) ?_
  refine x_iadd (q := 9) dX10_answerIn_8 rfl ?_
  refine x_iload_n (q := 10) dX10_answerIn_9 rfl rfl ?_
  refine x_isub (q := 11) dX10_answerIn_10 rfl ?_
  replace H := kif H; obtain ⟨g3, H⟩ := H
  replace H := kifn H; obtain ⟨g4, H⟩ := H
  refine x_iald (q := 12) dX10_answerIn_11 rfl (k243 g3 (by decide) hn) g4 ?_
  refine x_iload (q := 14) dX10_answerIn_12 rfl rfl ?_
  refine x_ishr (q := 15) dX10_answerIn_14 rfl ?_
  refine x_iconst (q := 16) (v := (1 : Int32)) dX10_answerIn_15 rfl (by decide) ?_
  refine x_iand (q := 17) dX10_answerIn_16 rfl ?_
  replace H := kle H; obtain ⟨x5, q6, H⟩ := H
  refine x_nmI q6 ?_
  refine x_istore (q := 19) (i := 5) (ls2 := [(5, .int x5), (0, .ref v0), (1, .int v1), (2, .int v2), (3, .int v3), (4, .int v4)]) dX10_answerIn_17 rfl (by decide) rfl ?_
  refine x_aload_n (q := 20) dX10_answerIn_19 rfl rfl ?_
  refine x_getR (q := 23) dX10_answerIn_20 rfl kl_RX10_29 rfl (k243 g1 (by decide) hn) g2 ?_
  refine x_iconst (q := 24) (v := (2 : Int32)) dX10_answerIn_23 rfl (by decide) ?_
  refine x_iload_n (q := 25) dX10_answerIn_24 rfl rfl ?_
  refine x_imul (q := 26) dX10_answerIn_25 rfl ?_
  refine x_iload_n (q := 27) dX10_answerIn_26 rfl rfl ?_
  refine x_iadd (q := 28) dX10_answerIn_27 rfl ?_
  replace H := kifn H; obtain ⟨g7, H⟩ := H
  refine x_iald (q := 29) dX10_answerIn_28 rfl (k243 g3 (by decide) hn) g7 ?_
  refine x_iload (q := 31) dX10_answerIn_29 rfl rfl ?_
  refine x_ishr (q := 32) dX10_answerIn_31 rfl ?_
  refine x_iconst (q := 33) (v := (1 : Int32)) dX10_answerIn_32 rfl (by decide) ?_
  refine x_iand (q := 34) dX10_answerIn_33 rfl ?_
  replace H := kle H; obtain ⟨x8, q9, H⟩ := H
  refine x_nmI q9 ?_
  refine x_istore (q := 36) (i := 6) (ls2 := [(6, .int x8), (5, .int x5), (0, .ref v0), (1, .int v1), (2, .int v2), (3, .int v3), (4, .int v4)]) dX10_answerIn_34 rfl (by decide) rfl ?_
  refine x_iload (q := 38) dX10_answerIn_36 rfl rfl ?_
  refine x_iconst (q := 39) (v := (2 : Int32)) dX10_answerIn_38 rfl (by decide) ?_
  refine x_iload (q := 41) dX10_answerIn_39 rfl rfl ?_
  refine x_imul (q := 42) dX10_answerIn_41 rfl ?_
  refine x_iadd (q := 43) dX10_answerIn_42 rfl ?_
  cases H
  exact x_end ⟨dX10_answerIn_43, rfl, rfl⟩
theorem s_X10_answerIn {Z : Nat → (Nat → Nat) → State → Prop} (h : KH) (v0 : Nat) (v1 : Int32) (v2 : Int32) (v3 : Int32) (v4 : Int32) {t : Int32} (hn : h.1 = 243) (H : f_X10_answerIn h v0 v1 v2 v3 v4 = some t) : KM Z yX10_answerIn cX10_answerIn 7 (some .int) 1 [.ref v0, .int v1, .int v2, .int v3, .int v4] h (some (.int t)) h :=
  kx_i (own := RX10) (ini := false) (by decide +kernel) (by decide +kernel) rfl (Nat.le_of_ble_eq_true rfl) (s0_X10_answerIn h v0 v1 v2 v3 v4 hn H)
theorem dX10_kindIn_0 : decode cX10_kindIn 0 = .ok (.iload_n 2, 1) := by decide +kernel
theorem dX10_kindIn_1 : decode cX10_kindIn 1 = .ok (.ifCond .ne 13, 3) := by decide +kernel
theorem dX10_kindIn_4 : decode cX10_kindIn 4 = .ok (.iload_n 1, 1) := by decide +kernel
theorem dX10_kindIn_5 : decode cX10_kindIn 5 = .ok (.bipush 6, 2) := by decide +kernel
theorem dX10_kindIn_7 : decode cX10_kindIn 7 = .ok (.idiv, 1) := by decide +kernel
theorem dX10_kindIn_8 : decode cX10_kindIn 8 = .ok (.bipush 6, 2) := by decide +kernel
theorem dX10_kindIn_10 : decode cX10_kindIn 10 = .ok (.irem, 1) := by decide +kernel
theorem dX10_kindIn_11 : decode cX10_kindIn 11 = .ok (.goto 7, 3) := by decide +kernel
theorem dX10_kindIn_14 : decode cX10_kindIn 14 = .ok (.iload_n 1, 1) := by decide +kernel
theorem dX10_kindIn_15 : decode cX10_kindIn 15 = .ok (.bipush 6, 2) := by decide +kernel
theorem dX10_kindIn_17 : decode cX10_kindIn 17 = .ok (.irem, 1) := by decide +kernel
theorem dX10_kindIn_18 : decode cX10_kindIn 18 = .ok (.ireturn, 1) := by decide +kernel
def f_X10_kindIn (h : KH) (v0 : Nat) (v1 : Int32) (v2 : Int32) : Option (Int32) :=
  if v2 = 0 then
  some ((v1 / (6 : Int32)) - (v1 / (6 : Int32)) / (6 : Int32) * (6 : Int32))
  else
  some (v1 - v1 / (6 : Int32) * (6 : Int32))
set_option maxHeartbeats 4000000 in
set_option maxRecDepth 100000 in
theorem s0_X10_kindIn {Z : Nat → (Nat → Nat) → State → Prop} (h : KH) (v0 : Nat) (v1 : Int32) (v2 : Int32) {t : Int32} (hn : h.1 = 243) (H : f_X10_kindIn h v0 v1 v2 = some t) : KX Z RX10 cX10_kindIn 3 false 1 (KRi cX10_kindIn t h) 0 [(0, .ref v0), (1, .int v1), (2, .int v2)] [] h := by
  unfold f_X10_kindIn at H
  refine x_iload_n (q := 1) dX10_kindIn_0 rfl rfl ?_
  replace H := kite H; rcases H with ⟨g1, H⟩ | ⟨g1, H⟩
  · refine x_if_ne_f (q := 4) dX10_kindIn_1 (t := 14) (by decide) rfl g1 ?_
    refine x_iload_n (q := 5) dX10_kindIn_4 rfl rfl ?_
    refine x_bipush (q := 7) (v := (6 : Int32)) dX10_kindIn_5 rfl (by decide) ?_
    refine x_idiv (q := 8) dX10_kindIn_7 rfl (by decide) ?_
    refine x_bipush (q := 10) (v := (6 : Int32)) dX10_kindIn_8 rfl (by decide) ?_
    refine x_irem (q := 11) dX10_kindIn_10 rfl (by decide) ?_
    refine x_goto dX10_kindIn_11 (q := 18) (by decide) ?_
    cases H
    exact x_end ⟨dX10_kindIn_18, rfl, rfl⟩
  · refine x_if_ne_t dX10_kindIn_1 (q := 14) (by decide) g1 ?_
    refine x_iload_n (q := 15) dX10_kindIn_14 rfl rfl ?_
    refine x_bipush (q := 17) (v := (6 : Int32)) dX10_kindIn_15 rfl (by decide) ?_
    refine x_irem (q := 18) dX10_kindIn_17 rfl (by decide) ?_
    cases H
    exact x_end ⟨dX10_kindIn_18, rfl, rfl⟩
theorem s_X10_kindIn {Z : Nat → (Nat → Nat) → State → Prop} (h : KH) (v0 : Nat) (v1 : Int32) (v2 : Int32) {t : Int32} (hn : h.1 = 243) (H : f_X10_kindIn h v0 v1 v2 = some t) : KM Z yX10_kindIn cX10_kindIn 3 (some .int) 1 [.ref v0, .int v1, .int v2] h (some (.int t)) h :=
  kx_i (own := RX10) (ini := false) (by decide +kernel) (by decide +kernel) rfl (Nat.le_of_ble_eq_true rfl) (s0_X10_kindIn h v0 v1 v2 hn H)
theorem dX10_sumOfKind_0 : decode cX10_sumOfKind 0 = .ok (.lconst 0, 1) := by decide +kernel
theorem dX10_sumOfKind_1 : decode cX10_sumOfKind 1 = .ok (.lstore_n 3, 1) := by decide +kernel
theorem dX10_sumOfKind_2 : decode cX10_sumOfKind 2 = .ok (.iconst 0, 1) := by decide +kernel
theorem dX10_sumOfKind_3 : decode cX10_sumOfKind 3 = .ok (.istore 5, 2) := by decide +kernel
theorem dX10_sumOfKind_5 : decode cX10_sumOfKind 5 = .ok (.iload 5, 2) := by decide +kernel
theorem dX10_sumOfKind_7 : decode cX10_sumOfKind 7 = .ok (.aload_n 0, 1) := by decide +kernel
theorem dX10_sumOfKind_8 : decode cX10_sumOfKind 8 = .ok (.getfield 22, 3) := by decide +kernel
theorem dX10_sumOfKind_11 : decode cX10_sumOfKind 11 = .ok (.if_icmp .ge 40, 3) := by decide +kernel
theorem dX10_sumOfKind_14 : decode cX10_sumOfKind 14 = .ok (.aload_n 0, 1) := by decide +kernel
theorem dX10_sumOfKind_15 : decode cX10_sumOfKind 15 = .ok (.aload_n 0, 1) := by decide +kernel
theorem dX10_sumOfKind_16 : decode cX10_sumOfKind 16 = .ok (.getfield 19, 3) := by decide +kernel
theorem dX10_sumOfKind_19 : decode cX10_sumOfKind 19 = .ok (.iload 5, 2) := by decide +kernel
theorem dX10_sumOfKind_21 : decode cX10_sumOfKind 21 = .ok (.iaload, 1) := by decide +kernel
theorem dX10_sumOfKind_22 : decode cX10_sumOfKind 22 = .ok (.iload_n 1, 1) := by decide +kernel
theorem dX10_sumOfKind_23 : decode cX10_sumOfKind 23 = .ok (.invokevirtual 97, 3) := by decide +kernel
theorem dX10_sumOfKind_26 : decode cX10_sumOfKind 26 = .ok (.iload_n 2, 1) := by decide +kernel
theorem dX10_sumOfKind_27 : decode cX10_sumOfKind 27 = .ok (.if_icmp .ne 18, 3) := by decide +kernel
theorem dX10_sumOfKind_30 : decode cX10_sumOfKind 30 = .ok (.lload_n 3, 1) := by decide +kernel
theorem dX10_sumOfKind_31 : decode cX10_sumOfKind 31 = .ok (.aload_n 0, 1) := by decide +kernel
theorem dX10_sumOfKind_32 : decode cX10_sumOfKind 32 = .ok (.getfield 11, 3) := by decide +kernel
theorem dX10_sumOfKind_35 : decode cX10_sumOfKind 35 = .ok (.aload_n 0, 1) := by decide +kernel
theorem dX10_sumOfKind_36 : decode cX10_sumOfKind 36 = .ok (.getfield 19, 3) := by decide +kernel
theorem dX10_sumOfKind_39 : decode cX10_sumOfKind 39 = .ok (.iload 5, 2) := by decide +kernel
theorem dX10_sumOfKind_41 : decode cX10_sumOfKind 41 = .ok (.iaload, 1) := by decide +kernel
theorem dX10_sumOfKind_42 : decode cX10_sumOfKind 42 = .ok (.laload, 1) := by decide +kernel
theorem dX10_sumOfKind_43 : decode cX10_sumOfKind 43 = .ok (.ladd, 1) := by decide +kernel
theorem dX10_sumOfKind_44 : decode cX10_sumOfKind 44 = .ok (.lstore_n 3, 1) := by decide +kernel
theorem dX10_sumOfKind_45 : decode cX10_sumOfKind 45 = .ok (.iinc 5 1, 3) := by decide +kernel
theorem dX10_sumOfKind_48 : decode cX10_sumOfKind 48 = .ok (.goto (-43), 3) := by decide +kernel
theorem dX10_sumOfKind_51 : decode cX10_sumOfKind 51 = .ok (.lload_n 3, 1) := by decide +kernel
theorem dX10_sumOfKind_52 : decode cX10_sumOfKind 52 = .ok (.lreturn, 1) := by decide +kernel
theorem kc_RX10_97 : Cond.methodLink RX10 97 yX10_kindIn ∈ ktG ∧ (Cond.instanceMethod yX10_kindIn ∈ ktG ∧ Cond.selects yX10_kindIn.cls yX10_kindIn yX10_kindIn ∈ ktG) ∧ Cond.initialized yX10_kindIn.cls ∈ ktG ∧ Cond.code yX10_kindIn cX10_kindIn 3 (some .int) ∈ ktG := ⟨(kwm 948 (by decide +kernel) (by decide +kernel)), ⟨(kwm 949 (by decide +kernel) (by decide +kernel)), (kwm 950 (by decide +kernel) (by decide +kernel))⟩, (kwm 138 (by decide +kernel) (by decide +kernel)), kwm 951 (by decide +kernel) (by decide +kernel)⟩
theorem kh_X10_kindIn : yX10_kindIn.cls ≠ "java/lang/invoke/MethodHandle" ∧ yX10_kindIn.cls ≠ "java/lang/invoke/VarHandle" ∧ (parseMethodDescriptor yX10_kindIn.desc).map (fun d => d.parameters.length) = some 2 := by decide +kernel
def E_X10_sumOfKind_l5 (h : KH) (v0 : Nat) (v1 : Int32) (v2 : Int32) : Int64 → Nat → List (Nat × Value) → List Value → KH → Prop := fun (e : Int64) pc ls st hh => pc = 51 ∧ ls = [(3, .long e)] ∧ st = [] ∧ h = hh
def B_X10_sumOfKind_l5 (h : KH) (v0 : Nat) (v1 : Int32) (v2 : Int32) : ((Int64 × Int32) ⊕ (Int64)) → Nat → List (Nat × Value) → List Value → KH → Prop := Sum.elim (fun (s : Int64 × Int32) pc ls st hh => pc = 5 ∧ ls = [(0, .ref v0), (1, .int v1), (2, .int v2), (3, .long s.1), (5, .int s.2)] ∧ st = [] ∧ hh = h) (E_X10_sumOfKind_l5 h v0 v1 v2)
def f_X10_sumOfKind_b45 (h : KH) (v0 : Nat) (v1 : Int32) (v2 : Int32) (v3 : Int64) (v5 : Int32) : Option ((Int64 × Int32) ⊕ (Int64)) :=
  kl (v5 + (1 : Int32)) fun x1 =>
  some (.inl (v3, x1))
set_option maxHeartbeats 4000000 in
set_option maxRecDepth 100000 in
theorem s_X10_sumOfKind_b45 {Z : Nat → (Nat → Nat) → State → Prop} (h : KH) (v0 : Nat) (v1 : Int32) (v2 : Int32) (v3 : Int64) (v5 : Int32) {t : (Int64 × Int32) ⊕ (Int64)} (hn : h.1 = 243) (H : f_X10_sumOfKind_b45 h v0 v1 v2 v3 v5 = some t) : KX Z RX10 cX10_sumOfKind 6 false 2 (B_X10_sumOfKind_l5 h v0 v1 v2 t) 45 [(0, .ref v0), (1, .int v1), (2, .int v2), (3, .long v3), (5, .int v5)] [] h := by
  unfold f_X10_sumOfKind_b45 at H
  replace H := kle H; obtain ⟨x1, q2, H⟩ := H
  refine x_iinc (q := 48) (i := 5) (ls2 := [(5, .int x1), (0, .ref v0), (1, .int v1), (2, .int v2), (3, .long v3)]) dX10_sumOfKind_45 rfl rfl (by decide) (by rw [q2]; rfl) ?_
  refine x_goto dX10_sumOfKind_48 (q := 5) (by decide) ?_
  cases H
  refine x_sub (ls2 := [(0, .ref v0), (1, .int v1), (2, .int v2), (3, .long v3), (5, .int x1)]) [1, 2, 3, 4, 0] rfl ?_
  exact x_end (x_cfg rfl)
def f_X10_sumOfKind_l5 (h : KH) (v0 : Nat) (v1 : Int32) (v2 : Int32) (s : Int64 × Int32) : Option ((Int64 × Int32) ⊕ (Int64)) :=
  if kkind v0 = 10 then if (kI h v0 3) ≤ s.2 then
  some (.inr s.1)
  else
  if (kR h v0 2) < 999999 then if kkind (kR h v0 2) = 20 then if (s.2 < 0 ∨ klen (kR h v0 2) ≤ (s.2).toNatClampNeg) then none else kb (f_X10_kindIn h v0 (kI h (kR h v0 2) ((s.2).toNatClampNeg)) v1) fun r6 =>
  if r6 = v2 then
  if (kR h v0 0) < 999999 then if kkind (kR h v0 0) = 21 then if ((kI h (kR h v0 2) ((s.2).toNatClampNeg)) < 0 ∨ klen (kR h v0 0) ≤ ((kI h (kR h v0 2) ((s.2).toNatClampNeg))).toNatClampNeg) then none else kl (s.1 + (kL h (kR h v0 0) (((kI h (kR h v0 2) ((s.2).toNatClampNeg))).toNatClampNeg))) fun x13 =>
  f_X10_sumOfKind_b45 h v0 v1 v2 x13 s.2 else none else none
  else
  f_X10_sumOfKind_b45 h v0 v1 v2 s.1 s.2 else none else none else none
set_option maxHeartbeats 4000000 in
set_option maxRecDepth 100000 in
theorem s_X10_sumOfKind_l5 {Z : Nat → (Nat → Nat) → State → Prop} (h : KH) (v0 : Nat) (v1 : Int32) (v2 : Int32) (s : Int64 × Int32) (t : (Int64 × Int32) ⊕ (Int64)) (hn : (h).1 = 243) (H : f_X10_sumOfKind_l5 h v0 v1 v2 s = some t) : KX Z RX10 cX10_sumOfKind 6 false 2 (B_X10_sumOfKind_l5 h v0 v1 v2 t) 5 [(0, .ref v0), (1, .int v1), (2, .int v2), (3, .long s.1), (5, .int s.2)] [] h := by
  unfold f_X10_sumOfKind_l5 at H
  refine x_iload (q := 7) dX10_sumOfKind_5 rfl rfl ?_
  refine x_aload_n (q := 8) dX10_sumOfKind_7 rfl rfl ?_
  replace H := kif H; obtain ⟨g1, H⟩ := H
  refine x_getI (q := 11) dX10_sumOfKind_8 rfl kl_RX10_22 (Or.inl rfl) (k243 g1 (by decide) hn) ?_
  replace H := kite H; rcases H with ⟨g2, H⟩ | ⟨g2, H⟩
  · refine x_icmp_ge_t dX10_sumOfKind_11 (q := 51) (by decide) g2 ?_
    cases H
    refine x_sub (ls2 := [(3, .long s.1)]) [3] rfl ?_
    exact x_end (x_cfg rfl)
  · refine x_icmp_ge_f (q := 14) dX10_sumOfKind_11 (t := 51) (by decide) rfl g2 ?_
    refine x_aload_n (q := 15) dX10_sumOfKind_14 rfl rfl ?_
    refine x_aload_n (q := 16) dX10_sumOfKind_15 rfl rfl ?_
    replace H := kif H; obtain ⟨g3, H⟩ := H
    refine x_getR (q := 19) dX10_sumOfKind_16 rfl kl_RX10_19 rfl (k243 g1 (by decide) hn) g3 ?_
    refine x_iload (q := 21) dX10_sumOfKind_19 rfl rfl ?_
    replace H := kif H; obtain ⟨g4, H⟩ := H
    replace H := kifn H; obtain ⟨g5, H⟩ := H
    refine x_iald (q := 22) dX10_sumOfKind_21 rfl (k243 g4 (by decide) hn) g5 ?_
    refine x_iload_n (q := 23) dX10_sumOfKind_22 rfl rfl ?_
    replace H := kbe H; obtain ⟨r6, c7, H⟩ := H
    have m8 := s_X10_kindIn (Z := Z) h v0 (kI h (kR h v0 2) ((s.2).toNatClampNeg)) v1 hn c7
    refine x_callV (q := 26) (as := [.int (kI h (kR h v0 2) ((s.2).toNatClampNeg)), .int v1]) (rest := []) dX10_sumOfKind_23 rfl kc_RX10_97 kh_X10_kindIn (by decide) (Nat.le_of_ble_eq_true rfl) m8 (ci := 10) (by exact ⟨rfl, by decide⟩) (k243 g1 (by decide) hn) ?_
    refine x_iload_n (q := 27) dX10_sumOfKind_26 rfl rfl ?_
    replace H := kite H; rcases H with ⟨g9, H⟩ | ⟨g9, H⟩
    · refine x_icmp_ne_f (q := 30) dX10_sumOfKind_27 (t := 45) (by decide) rfl g9 ?_
      refine x_lload_n (q := 31) dX10_sumOfKind_30 rfl rfl ?_
      refine x_aload_n (q := 32) dX10_sumOfKind_31 rfl rfl ?_
      replace H := kif H; obtain ⟨g10, H⟩ := H
      refine x_getR (q := 35) dX10_sumOfKind_32 rfl kl_RX10_11 rfl (k243 g1 (by decide) hn) g10 ?_
      refine x_aload_n (q := 36) dX10_sumOfKind_35 rfl rfl ?_
      refine x_getR (q := 39) dX10_sumOfKind_36 rfl kl_RX10_19 rfl (k243 g1 (by decide) hn) g3 ?_
      refine x_iload (q := 41) dX10_sumOfKind_39 rfl rfl ?_
      refine x_iald (q := 42) dX10_sumOfKind_41 rfl (k243 g4 (by decide) hn) g5 ?_
      replace H := kif H; obtain ⟨g11, H⟩ := H
      replace H := kifn H; obtain ⟨g12, H⟩ := H
      refine x_lald (q := 43) dX10_sumOfKind_42 rfl (k243 g11 (by decide) hn) g12 ?_
      refine x_ladd (q := 44) dX10_sumOfKind_43 rfl ?_
      replace H := kle H; obtain ⟨x13, q14, H⟩ := H
      refine x_nmL q14 ?_
      refine x_lstore_n (q := 45) (i := 3) (ls2 := [(3, .long x13), (0, .ref v0), (1, .int v1), (2, .int v2), (5, .int s.2)]) dX10_sumOfKind_44 rfl rfl (by decide) rfl ?_
      refine x_sub (ls2 := [(0, .ref v0), (1, .int v1), (2, .int v2), (3, .long x13), (5, .int s.2)]) [1, 2, 3, 0, 4] rfl ?_
      exact s_X10_sumOfKind_b45 h v0 v1 v2 x13 s.2 hn H
    · refine x_icmp_ne_t dX10_sumOfKind_27 (q := 45) (by decide) g9 ?_
      refine x_sub (ls2 := [(0, .ref v0), (1, .int v1), (2, .int v2), (3, .long s.1), (5, .int s.2)]) [0, 1, 2, 3, 4] rfl ?_
      exact s_X10_sumOfKind_b45 h v0 v1 v2 s.1 s.2 hn H
theorem sl_X10_sumOfKind_l5 {Z : Nat → (Nat → Nat) → State → Prop} (h : KH) (v0 : Nat) (v1 : Int32) (v2 : Int32) (n : Nat) (s : Int64 × Int32) (r : Int64) (hn : (h).1 = 243) (H : kloop (f_X10_sumOfKind_l5 h v0 v1 v2) n s = some r) : KX Z RX10 cX10_sumOfKind 6 false 2 (E_X10_sumOfKind_l5 h v0 v1 v2 r) 5 [(0, .ref v0), (1, .int v1), (2, .int v2), (3, .long s.1), (5, .int s.2)] [] h :=
  k_loop (ls := (fun (s : Int64 × Int32) => ([(0, .ref v0), (1, .int v1), (2, .int v2), (3, .long s.1), (5, .int s.2)] : List (Nat × Value)))) (hp := (fun (s : Int64 × Int32) => (h : KH))) (G := E_X10_sumOfKind_l5 h v0 v1 v2) (fun s t hn H => s_X10_sumOfKind_l5 h v0 v1 v2 s t hn H) n s r hn H
def f_X10_sumOfKind (h : KH) (v0 : Nat) (v1 : Int32) (v2 : Int32) : Option (Int64) :=
  kb (kloop (f_X10_sumOfKind_l5 h v0 v1 v2) KF ((0 : Int64), (0 : Int32))) fun e1 =>
  some e1
set_option maxHeartbeats 4000000 in
set_option maxRecDepth 100000 in
theorem s0_X10_sumOfKind {Z : Nat → (Nat → Nat) → State → Prop} (h : KH) (v0 : Nat) (v1 : Int32) (v2 : Int32) {t : Int64} (hn : h.1 = 243) (H : f_X10_sumOfKind h v0 v1 v2 = some t) : KX Z RX10 cX10_sumOfKind 6 false 2 (KRl cX10_sumOfKind t h) 0 [(0, .ref v0), (1, .int v1), (2, .int v2)] [] h := by
  unfold f_X10_sumOfKind at H
  refine x_lconst (q := 1) (v := (0 : Int64)) dX10_sumOfKind_0 rfl (by decide) ?_
  refine x_lstore_n (q := 2) (i := 3) (ls2 := [(3, .long (0 : Int64)), (0, .ref v0), (1, .int v1), (2, .int v2)]) dX10_sumOfKind_1 rfl rfl (by decide) rfl ?_
  refine x_iconst (q := 3) (v := (0 : Int32)) dX10_sumOfKind_2 rfl (by decide) ?_
  refine x_istore (q := 5) (i := 5) (ls2 := [(5, .int (0 : Int32)), (3, .long (0 : Int64)), (0, .ref v0), (1, .int v1), (2, .int v2)]) dX10_sumOfKind_3 rfl (by decide) rfl ?_
  refine x_sub (ls2 := [(0, .ref v0), (1, .int v1), (2, .int v2), (3, .long (0 : Int64)), (5, .int (0 : Int32))]) [2, 3, 4, 1, 0] rfl ?_
  replace H := kbe H; obtain ⟨e1, c2, H⟩ := H
  refine x_app (sl_X10_sumOfKind_l5 h v0 v1 v2 KF ((0 : Int64), (0 : Int32)) e1 hn c2) fun pc2 ls2 st2 h2 hg m3 => ?_
  obtain ⟨rfl, rfl, rfl, rfl⟩ := hg
  refine x_lload_n (q := 52) dX10_sumOfKind_51 rfl rfl ?_
  cases H
  exact x_end ⟨dX10_sumOfKind_52, rfl, rfl⟩
theorem s_X10_sumOfKind {Z : Nat → (Nat → Nat) → State → Prop} (h : KH) (v0 : Nat) (v1 : Int32) (v2 : Int32) {t : Int64} (hn : h.1 = 243) (H : f_X10_sumOfKind h v0 v1 v2 = some t) : KM Z yX10_sumOfKind cX10_sumOfKind 6 (some .long) 2 [.ref v0, .int v1, .int v2] h (some (.long t)) h :=
  kx_l (own := RX10) (ini := false) (by decide +kernel) (by decide +kernel) rfl (Nat.le_of_ble_eq_true rfl) (s0_X10_sumOfKind h v0 v1 v2 hn H)
theorem dX10_sumOfYielding_0 : decode cX10_sumOfYielding 0 = .ok (.iload_n 1, 1) := by decide +kernel
theorem dX10_sumOfYielding_1 : decode cX10_sumOfYielding 1 = .ok (.ifCond .ne 10, 3) := by decide +kernel
theorem dX10_sumOfYielding_4 : decode cX10_sumOfYielding 4 = .ok (.bipush 6, 2) := by decide +kernel
theorem dX10_sumOfYielding_6 : decode cX10_sumOfYielding 6 = .ok (.iload_n 2, 1) := by decide +kernel
theorem dX10_sumOfYielding_7 : decode cX10_sumOfYielding 7 = .ok (.iadd, 1) := by decide +kernel
theorem dX10_sumOfYielding_8 : decode cX10_sumOfYielding 8 = .ok (.goto 4, 3) := by decide +kernel
theorem dX10_sumOfYielding_11 : decode cX10_sumOfYielding 11 = .ok (.iload_n 2, 1) := by decide +kernel
theorem dX10_sumOfYielding_12 : decode cX10_sumOfYielding 12 = .ok (.istore_n 3, 1) := by decide +kernel
theorem dX10_sumOfYielding_13 : decode cX10_sumOfYielding 13 = .ok (.lconst 0, 1) := by decide +kernel
theorem dX10_sumOfYielding_14 : decode cX10_sumOfYielding 14 = .ok (.lstore 4, 2) := by decide +kernel
theorem dX10_sumOfYielding_16 : decode cX10_sumOfYielding 16 = .ok (.iconst 0, 1) := by decide +kernel
theorem dX10_sumOfYielding_17 : decode cX10_sumOfYielding 17 = .ok (.istore 6, 2) := by decide +kernel
theorem dX10_sumOfYielding_19 : decode cX10_sumOfYielding 19 = .ok (.iload 6, 2) := by decide +kernel
theorem dX10_sumOfYielding_21 : decode cX10_sumOfYielding 21 = .ok (.aload_n 0, 1) := by decide +kernel
theorem dX10_sumOfYielding_22 : decode cX10_sumOfYielding 22 = .ok (.getfield 22, 3) := by decide +kernel
theorem dX10_sumOfYielding_25 : decode cX10_sumOfYielding 25 = .ok (.if_icmp .ge 45, 3) := by decide +kernel
theorem dX10_sumOfYielding_28 : decode cX10_sumOfYielding 28 = .ok (.aload_n 0, 1) := by decide +kernel
theorem dX10_sumOfYielding_29 : decode cX10_sumOfYielding 29 = .ok (.getfield 15, 3) := by decide +kernel
theorem dX10_sumOfYielding_32 : decode cX10_sumOfYielding 32 = .ok (.aload_n 0, 1) := by decide +kernel
theorem dX10_sumOfYielding_33 : decode cX10_sumOfYielding 33 = .ok (.getfield 19, 3) := by decide +kernel
theorem dX10_sumOfYielding_36 : decode cX10_sumOfYielding 36 = .ok (.iload 6, 2) := by decide +kernel
theorem dX10_sumOfYielding_38 : decode cX10_sumOfYielding 38 = .ok (.iaload, 1) := by decide +kernel
theorem dX10_sumOfYielding_39 : decode cX10_sumOfYielding 39 = .ok (.iaload, 1) := by decide +kernel
theorem dX10_sumOfYielding_40 : decode cX10_sumOfYielding 40 = .ok (.iload_n 3, 1) := by decide +kernel
theorem dX10_sumOfYielding_41 : decode cX10_sumOfYielding 41 = .ok (.ishr, 1) := by decide +kernel
theorem dX10_sumOfYielding_42 : decode cX10_sumOfYielding 42 = .ok (.iconst 1, 1) := by decide +kernel
theorem dX10_sumOfYielding_43 : decode cX10_sumOfYielding 43 = .ok (.iand, 1) := by decide +kernel
theorem dX10_sumOfYielding_44 : decode cX10_sumOfYielding 44 = .ok (.ifCond .eq 20, 3) := by decide +kernel
theorem dX10_sumOfYielding_47 : decode cX10_sumOfYielding 47 = .ok (.lload 4, 2) := by decide +kernel
theorem dX10_sumOfYielding_49 : decode cX10_sumOfYielding 49 = .ok (.aload_n 0, 1) := by decide +kernel
theorem dX10_sumOfYielding_50 : decode cX10_sumOfYielding 50 = .ok (.getfield 11, 3) := by decide +kernel
theorem dX10_sumOfYielding_53 : decode cX10_sumOfYielding 53 = .ok (.aload_n 0, 1) := by decide +kernel
theorem dX10_sumOfYielding_54 : decode cX10_sumOfYielding 54 = .ok (.getfield 19, 3) := by decide +kernel
theorem dX10_sumOfYielding_57 : decode cX10_sumOfYielding 57 = .ok (.iload 6, 2) := by decide +kernel
theorem dX10_sumOfYielding_59 : decode cX10_sumOfYielding 59 = .ok (.iaload, 1) := by decide +kernel
theorem dX10_sumOfYielding_60 : decode cX10_sumOfYielding 60 = .ok (.laload, 1) := by decide +kernel
theorem dX10_sumOfYielding_61 : decode cX10_sumOfYielding 61 = .ok (.ladd, 1) := by decide +kernel
theorem dX10_sumOfYielding_62 : decode cX10_sumOfYielding 62 = .ok (.lstore 4, 2) := by decide +kernel
theorem dX10_sumOfYielding_64 : decode cX10_sumOfYielding 64 = .ok (.iinc 6 1, 3) := by decide +kernel
theorem dX10_sumOfYielding_67 : decode cX10_sumOfYielding 67 = .ok (.goto (-48), 3) := by decide +kernel
theorem dX10_sumOfYielding_70 : decode cX10_sumOfYielding 70 = .ok (.lload 4, 2) := by decide +kernel
theorem dX10_sumOfYielding_72 : decode cX10_sumOfYielding 72 = .ok (.lreturn, 1) := by decide +kernel
def E_X10_sumOfYielding_l19 (h : KH) (v0 : Nat) (v3 : Int32) : Int64 → Nat → List (Nat × Value) → List Value → KH → Prop := fun (e : Int64) pc ls st hh => pc = 70 ∧ ls = [(4, .long e)] ∧ st = [] ∧ h = hh
def B_X10_sumOfYielding_l19 (h : KH) (v0 : Nat) (v3 : Int32) : ((Int64 × Int32) ⊕ (Int64)) → Nat → List (Nat × Value) → List Value → KH → Prop := Sum.elim (fun (s : Int64 × Int32) pc ls st hh => pc = 19 ∧ ls = [(0, .ref v0), (3, .int v3), (4, .long s.1), (6, .int s.2)] ∧ st = [] ∧ hh = h) (E_X10_sumOfYielding_l19 h v0 v3)
def f_X10_sumOfYielding_b64 (h : KH) (v0 : Nat) (v3 : Int32) (v4 : Int64) (v6 : Int32) : Option ((Int64 × Int32) ⊕ (Int64)) :=
  kl (v6 + (1 : Int32)) fun x1 =>
  some (.inl (v4, x1))
set_option maxHeartbeats 4000000 in
set_option maxRecDepth 100000 in
theorem s_X10_sumOfYielding_b64 {Z : Nat → (Nat → Nat) → State → Prop} (h : KH) (v0 : Nat) (v3 : Int32) (v4 : Int64) (v6 : Int32) {t : (Int64 × Int32) ⊕ (Int64)} (hn : h.1 = 243) (H : f_X10_sumOfYielding_b64 h v0 v3 v4 v6 = some t) : KX Z RX10 cX10_sumOfYielding 7 false 1 (B_X10_sumOfYielding_l19 h v0 v3 t) 64 [(0, .ref v0), (3, .int v3), (4, .long v4), (6, .int v6)] [] h := by
  unfold f_X10_sumOfYielding_b64 at H
  replace H := kle H; obtain ⟨x1, q2, H⟩ := H
  refine x_iinc (q := 67) (i := 6) (ls2 := [(6, .int x1), (0, .ref v0), (3, .int v3), (4, .long v4)]) dX10_sumOfYielding_64 rfl rfl (by decide) (by rw [q2]; rfl) ?_
  refine x_goto dX10_sumOfYielding_67 (q := 19) (by decide) ?_
  cases H
  refine x_sub (ls2 := [(0, .ref v0), (3, .int v3), (4, .long v4), (6, .int x1)]) [1, 2, 3, 0] rfl ?_
  exact x_end (x_cfg rfl)
def f_X10_sumOfYielding_l19 (h : KH) (v0 : Nat) (v3 : Int32) (s : Int64 × Int32) : Option ((Int64 × Int32) ⊕ (Int64)) :=
  if kkind v0 = 10 then if (kI h v0 3) ≤ s.2 then
  some (.inr s.1)
  else
  if (kR h v0 1) < 999999 then if (kR h v0 2) < 999999 then if kkind (kR h v0 2) = 20 then if (s.2 < 0 ∨ klen (kR h v0 2) ≤ (s.2).toNatClampNeg) then none else if kkind (kR h v0 1) = 20 then if ((kI h (kR h v0 2) ((s.2).toNatClampNeg)) < 0 ∨ klen (kR h v0 1) ≤ ((kI h (kR h v0 2) ((s.2).toNatClampNeg))).toNatClampNeg) then none else if (((kI h (kR h v0 1) (((kI h (kR h v0 2) ((s.2).toNatClampNeg))).toNatClampNeg)) >>> (v3 &&& 31)) &&& (1 : Int32)) = 0 then
  f_X10_sumOfYielding_b64 h v0 v3 s.1 s.2
  else
  if (kR h v0 0) < 999999 then if kkind (kR h v0 0) = 21 then if ((kI h (kR h v0 2) ((s.2).toNatClampNeg)) < 0 ∨ klen (kR h v0 0) ≤ ((kI h (kR h v0 2) ((s.2).toNatClampNeg))).toNatClampNeg) then none else kl (s.1 + (kL h (kR h v0 0) (((kI h (kR h v0 2) ((s.2).toNatClampNeg))).toNatClampNeg))) fun x13 =>
  f_X10_sumOfYielding_b64 h v0 v3 x13 s.2 else none else none else none else none else none else none else none
set_option maxHeartbeats 4000000 in
set_option maxRecDepth 100000 in
theorem s_X10_sumOfYielding_l19 {Z : Nat → (Nat → Nat) → State → Prop} (h : KH) (v0 : Nat) (v3 : Int32) (s : Int64 × Int32) (t : (Int64 × Int32) ⊕ (Int64)) (hn : (h).1 = 243) (H : f_X10_sumOfYielding_l19 h v0 v3 s = some t) : KX Z RX10 cX10_sumOfYielding 7 false 1 (B_X10_sumOfYielding_l19 h v0 v3 t) 19 [(0, .ref v0), (3, .int v3), (4, .long s.1), (6, .int s.2)] [] h := by
  unfold f_X10_sumOfYielding_l19 at H
  refine x_iload (q := 21) dX10_sumOfYielding_19 rfl rfl ?_
  refine x_aload_n (q := 22) dX10_sumOfYielding_21 rfl rfl ?_
  replace H := kif H; obtain ⟨g1, H⟩ := H
  refine x_getI (q := 25) dX10_sumOfYielding_22 rfl kl_RX10_22 (Or.inl rfl) (k243 g1 (by decide) hn) ?_
  replace H := kite H; rcases H with ⟨g2, H⟩ | ⟨g2, H⟩
  · refine x_icmp_ge_t dX10_sumOfYielding_25 (q := 70) (by decide) g2 ?_
    cases H
    refine x_sub (ls2 := [(4, .long s.1)]) [2] rfl ?_
    exact x_end (x_cfg rfl)
  · refine x_icmp_ge_f (q := 28) dX10_sumOfYielding_25 (t := 70) (by decide) rfl g2 ?_
    refine x_aload_n (q := 29) dX10_sumOfYielding_28 rfl rfl ?_
    replace H := kif H; obtain ⟨g3, H⟩ := H
    refine x_getR (q := 32) dX10_sumOfYielding_29 rfl kl_RX10_15 rfl (k243 g1 (by decide) hn) g3 ?_
    refine x_aload_n (q := 33) dX10_sumOfYielding_32 rfl rfl ?_
    replace H := kif H; obtain ⟨g4, H⟩ := H
    refine x_getR (q := 36) dX10_sumOfYielding_33 rfl kl_RX10_19 rfl (k243 g1 (by decide) hn) g4 ?_
    refine x_iload (q := 38) dX10_sumOfYielding_36 rfl rfl ?_
    replace H := kif H; obtain ⟨g5, H⟩ := H
    replace H := kifn H; obtain ⟨g6, H⟩ := H
    refine x_iald (q := 39) dX10_sumOfYielding_38 rfl (k243 g5 (by decide) hn) g6 ?_
    replace H := kif H; obtain ⟨g7, H⟩ := H
    replace H := kifn H; obtain ⟨g8, H⟩ := H
    refine x_iald (q := 40) dX10_sumOfYielding_39 rfl (k243 g7 (by decide) hn) g8 ?_
    refine x_iload_n (q := 41) dX10_sumOfYielding_40 rfl rfl ?_
    refine x_ishr (q := 42) dX10_sumOfYielding_41 rfl ?_
    refine x_iconst (q := 43) (v := (1 : Int32)) dX10_sumOfYielding_42 rfl (by decide) ?_
    refine x_iand (q := 44) dX10_sumOfYielding_43 rfl ?_
    replace H := kite H; rcases H with ⟨g9, H⟩ | ⟨g9, H⟩
    · refine x_if_eq_t dX10_sumOfYielding_44 (q := 64) (by decide) g9 ?_
      refine x_sub (ls2 := [(0, .ref v0), (3, .int v3), (4, .long s.1), (6, .int s.2)]) [0, 1, 2, 3] rfl ?_
      exact s_X10_sumOfYielding_b64 h v0 v3 s.1 s.2 hn H
    · refine x_if_eq_f (q := 47) dX10_sumOfYielding_44 (t := 64) (by decide) rfl g9 ?_
      refine x_lload (q := 49) dX10_sumOfYielding_47 rfl rfl ?_
      refine x_aload_n (q := 50) dX10_sumOfYielding_49 rfl rfl ?_
      replace H := kif H; obtain ⟨g10, H⟩ := H
      refine x_getR (q := 53) dX10_sumOfYielding_50 rfl kl_RX10_11 rfl (k243 g1 (by decide) hn) g10 ?_
      refine x_aload_n (q := 54) dX10_sumOfYielding_53 rfl rfl ?_
      refine x_getR (q := 57) dX10_sumOfYielding_54 rfl kl_RX10_19 rfl (k243 g1 (by decide) hn) g4 ?_
      refine x_iload (q := 59) dX10_sumOfYielding_57 rfl rfl ?_
      refine x_iald (q := 60) dX10_sumOfYielding_59 rfl (k243 g5 (by decide) hn) g6 ?_
      replace H := kif H; obtain ⟨g11, H⟩ := H
      replace H := kifn H; obtain ⟨g12, H⟩ := H
      refine x_lald (q := 61) dX10_sumOfYielding_60 rfl (k243 g11 (by decide) hn) g12 ?_
      refine x_ladd (q := 62) dX10_sumOfYielding_61 rfl ?_
      replace H := kle H; obtain ⟨x13, q14, H⟩ := H
      refine x_nmL q14 ?_
      refine x_lstore (q := 64) (i := 4) (ls2 := [(4, .long x13), (0, .ref v0), (3, .int v3), (6, .int s.2)]) dX10_sumOfYielding_62 rfl (by decide) rfl ?_
      refine x_sub (ls2 := [(0, .ref v0), (3, .int v3), (4, .long x13), (6, .int s.2)]) [1, 2, 0, 3] rfl ?_
      exact s_X10_sumOfYielding_b64 h v0 v3 x13 s.2 hn H
theorem sl_X10_sumOfYielding_l19 {Z : Nat → (Nat → Nat) → State → Prop} (h : KH) (v0 : Nat) (v3 : Int32) (n : Nat) (s : Int64 × Int32) (r : Int64) (hn : (h).1 = 243) (H : kloop (f_X10_sumOfYielding_l19 h v0 v3) n s = some r) : KX Z RX10 cX10_sumOfYielding 7 false 1 (E_X10_sumOfYielding_l19 h v0 v3 r) 19 [(0, .ref v0), (3, .int v3), (4, .long s.1), (6, .int s.2)] [] h :=
  k_loop (ls := (fun (s : Int64 × Int32) => ([(0, .ref v0), (3, .int v3), (4, .long s.1), (6, .int s.2)] : List (Nat × Value)))) (hp := (fun (s : Int64 × Int32) => (h : KH))) (G := E_X10_sumOfYielding_l19 h v0 v3) (fun s t hn H => s_X10_sumOfYielding_l19 h v0 v3 s t hn H) n s r hn H
def f_X10_sumOfYielding_b12 (h : KH) (v0 : Nat) (w0 : Int32) : Option (Int64) :=
  kb (kloop (f_X10_sumOfYielding_l19 h v0 w0) KF ((0 : Int64), (0 : Int32))) fun e1 =>
  some e1
set_option maxHeartbeats 4000000 in
set_option maxRecDepth 100000 in
theorem s_X10_sumOfYielding_b12 {Z : Nat → (Nat → Nat) → State → Prop} (h : KH) (v0 : Nat) (w0 : Int32) {t : Int64} (hn : h.1 = 243) (H : f_X10_sumOfYielding_b12 h v0 w0 = some t) : KX Z RX10 cX10_sumOfYielding 7 false 1 (KRl cX10_sumOfYielding t h) 12 [(0, .ref v0)] [.int w0] h := by
  unfold f_X10_sumOfYielding_b12 at H
  refine x_istore_n (q := 13) (i := 3) (ls2 := [(3, .int w0), (0, .ref v0)]) dX10_sumOfYielding_12 rfl rfl (by decide) rfl ?_
  refine x_lconst (q := 14) (v := (0 : Int64)) dX10_sumOfYielding_13 rfl (by decide) ?_
  refine x_lstore (q := 16) (i := 4) (ls2 := [(4, .long (0 : Int64)), (3, .int w0), (0, .ref v0)]) dX10_sumOfYielding_14 rfl (by decide) rfl ?_
  refine x_iconst (q := 17) (v := (0 : Int32)) dX10_sumOfYielding_16 rfl (by decide) ?_
  refine x_istore (q := 19) (i := 6) (ls2 := [(6, .int (0 : Int32)), (4, .long (0 : Int64)), (3, .int w0), (0, .ref v0)]) dX10_sumOfYielding_17 rfl (by decide) rfl ?_
  refine x_sub (ls2 := [(0, .ref v0), (3, .int w0), (4, .long (0 : Int64)), (6, .int (0 : Int32))]) [3, 2, 1, 0] rfl ?_
  replace H := kbe H; obtain ⟨e1, c2, H⟩ := H
  refine x_app (sl_X10_sumOfYielding_l19 h v0 w0 KF ((0 : Int64), (0 : Int32)) e1 hn c2) fun pc2 ls2 st2 h2 hg m3 => ?_
  obtain ⟨rfl, rfl, rfl, rfl⟩ := hg
  refine x_lload (q := 72) dX10_sumOfYielding_70 rfl rfl ?_
  cases H
  exact x_end ⟨dX10_sumOfYielding_72, rfl, rfl⟩
def f_X10_sumOfYielding (h : KH) (v0 : Nat) (v1 : Int32) (v2 : Int32) : Option (Int64) :=
  if v1 = 0 then
  f_X10_sumOfYielding_b12 h v0 ((6 : Int32) + v2)
  else
  f_X10_sumOfYielding_b12 h v0 v2
set_option maxHeartbeats 4000000 in
set_option maxRecDepth 100000 in
theorem s0_X10_sumOfYielding {Z : Nat → (Nat → Nat) → State → Prop} (h : KH) (v0 : Nat) (v1 : Int32) (v2 : Int32) {t : Int64} (hn : h.1 = 243) (H : f_X10_sumOfYielding h v0 v1 v2 = some t) : KX Z RX10 cX10_sumOfYielding 7 false 1 (KRl cX10_sumOfYielding t h) 0 [(0, .ref v0), (1, .int v1), (2, .int v2)] [] h := by
  unfold f_X10_sumOfYielding at H
  refine x_iload_n (q := 1) dX10_sumOfYielding_0 rfl rfl ?_
  replace H := kite H; rcases H with ⟨g1, H⟩ | ⟨g1, H⟩
  · refine x_if_ne_f (q := 4) dX10_sumOfYielding_1 (t := 11) (by decide) rfl g1 ?_
    refine x_bipush (q := 6) (v := (6 : Int32)) dX10_sumOfYielding_4 rfl (by decide) ?_
    refine x_iload_n (q := 7) dX10_sumOfYielding_6 rfl rfl ?_
    refine x_iadd (q := 8) dX10_sumOfYielding_7 rfl ?_
    refine x_goto dX10_sumOfYielding_8 (q := 12) (by decide) ?_
    refine x_sub (ls2 := [(0, .ref v0)]) [0] rfl ?_
    exact s_X10_sumOfYielding_b12 h v0 ((6 : Int32) + v2) hn H
  · refine x_if_ne_t dX10_sumOfYielding_1 (q := 11) (by decide) g1 ?_
    refine x_iload_n (q := 12) dX10_sumOfYielding_11 rfl rfl ?_
    refine x_sub (ls2 := [(0, .ref v0)]) [0] rfl ?_
    exact s_X10_sumOfYielding_b12 h v0 v2 hn H
theorem s_X10_sumOfYielding {Z : Nat → (Nat → Nat) → State → Prop} (h : KH) (v0 : Nat) (v1 : Int32) (v2 : Int32) {t : Int64} (hn : h.1 = 243) (H : f_X10_sumOfYielding h v0 v1 v2 = some t) : KM Z yX10_sumOfYielding cX10_sumOfYielding 7 (some .long) 1 [.ref v0, .int v1, .int v2] h (some (.long t)) h :=
  kx_l (own := RX10) (ini := false) (by decide +kernel) (by decide +kernel) rfl (Nat.le_of_ble_eq_true rfl) (s0_X10_sumOfYielding h v0 v1 v2 hn H)
theorem dX10_failingWorld_0 : decode cX10_failingWorld 0 = .ok (.iconst 1, 1) := by decide +kernel
theorem dX10_failingWorld_1 : decode cX10_failingWorld 1 = .ok (.iload_n 1, 1) := by decide +kernel
theorem dX10_failingWorld_2 : decode cX10_failingWorld 2 = .ok (.ishl, 1) := by decide +kernel
theorem dX10_failingWorld_3 : decode cX10_failingWorld 3 = .ok (.iconst 1, 1) := by decide +kernel
theorem dX10_failingWorld_4 : decode cX10_failingWorld 4 = .ok (.iload_n 1, 1) := by decide +kernel
theorem dX10_failingWorld_5 : decode cX10_failingWorld 5 = .ok (.bipush 6, 2) := by decide +kernel
theorem dX10_failingWorld_7 : decode cX10_failingWorld 7 = .ok (.iadd, 1) := by decide +kernel
theorem dX10_failingWorld_8 : decode cX10_failingWorld 8 = .ok (.ishl, 1) := by decide +kernel
theorem dX10_failingWorld_9 : decode cX10_failingWorld 9 = .ok (.ior, 1) := by decide +kernel
theorem dX10_failingWorld_10 : decode cX10_failingWorld 10 = .ok (.istore_n 2, 1) := by decide +kernel
theorem dX10_failingWorld_11 : decode cX10_failingWorld 11 = .ok (.iconst 0, 1) := by decide +kernel
theorem dX10_failingWorld_12 : decode cX10_failingWorld 12 = .ok (.istore_n 3, 1) := by decide +kernel
theorem dX10_failingWorld_13 : decode cX10_failingWorld 13 = .ok (.iload_n 3, 1) := by decide +kernel
theorem dX10_failingWorld_14 : decode cX10_failingWorld 14 = .ok (.aload_n 0, 1) := by decide +kernel
theorem dX10_failingWorld_15 : decode cX10_failingWorld 15 = .ok (.getfield 22, 3) := by decide +kernel
theorem dX10_failingWorld_18 : decode cX10_failingWorld 18 = .ok (.if_icmp .ge 88, 3) := by decide +kernel
theorem dX10_failingWorld_21 : decode cX10_failingWorld 21 = .ok (.aload_n 0, 1) := by decide +kernel
theorem dX10_failingWorld_22 : decode cX10_failingWorld 22 = .ok (.getfield 19, 3) := by decide +kernel
theorem dX10_failingWorld_25 : decode cX10_failingWorld 25 = .ok (.iload_n 3, 1) := by decide +kernel
theorem dX10_failingWorld_26 : decode cX10_failingWorld 26 = .ok (.iaload, 1) := by decide +kernel
theorem dX10_failingWorld_27 : decode cX10_failingWorld 27 = .ok (.bipush 36, 2) := by decide +kernel
theorem dX10_failingWorld_29 : decode cX10_failingWorld 29 = .ok (.if_icmp .ge 77, 3) := by decide +kernel
theorem dX10_failingWorld_32 : decode cX10_failingWorld 32 = .ok (.aload_n 0, 1) := by decide +kernel
theorem dX10_failingWorld_33 : decode cX10_failingWorld 33 = .ok (.getfield 22, 3) := by decide +kernel
theorem dX10_failingWorld_36 : decode cX10_failingWorld 36 = .ok (.iconst 1, 1) := by decide +kernel
theorem dX10_failingWorld_37 : decode cX10_failingWorld 37 = .ok (.isub, 1) := by decide +kernel
theorem dX10_failingWorld_38 : decode cX10_failingWorld 38 = .ok (.istore 4, 2) := by decide +kernel
theorem dX10_failingWorld_40 : decode cX10_failingWorld 40 = .ok (.iload 4, 2) := by decide +kernel
theorem dX10_failingWorld_42 : decode cX10_failingWorld 42 = .ok (.iload_n 3, 1) := by decide +kernel
theorem dX10_failingWorld_43 : decode cX10_failingWorld 43 = .ok (.if_icmp .le 57, 3) := by decide +kernel
theorem dX10_failingWorld_46 : decode cX10_failingWorld 46 = .ok (.aload_n 0, 1) := by decide +kernel
theorem dX10_failingWorld_47 : decode cX10_failingWorld 47 = .ok (.getfield 19, 3) := by decide +kernel
theorem dX10_failingWorld_50 : decode cX10_failingWorld 50 = .ok (.iload 4, 2) := by decide +kernel
theorem dX10_failingWorld_52 : decode cX10_failingWorld 52 = .ok (.iaload, 1) := by decide +kernel
theorem dX10_failingWorld_53 : decode cX10_failingWorld 53 = .ok (.bipush 36, 2) := by decide +kernel
theorem dX10_failingWorld_55 : decode cX10_failingWorld 55 = .ok (.if_icmp .lt 45, 3) := by decide +kernel
theorem dX10_failingWorld_58 : decode cX10_failingWorld 58 = .ok (.aload_n 0, 1) := by decide +kernel
theorem dX10_failingWorld_59 : decode cX10_failingWorld 59 = .ok (.getfield 15, 3) := by decide +kernel
theorem dX10_failingWorld_62 : decode cX10_failingWorld 62 = .ok (.aload_n 0, 1) := by decide +kernel
theorem dX10_failingWorld_63 : decode cX10_failingWorld 63 = .ok (.getfield 19, 3) := by decide +kernel
theorem dX10_failingWorld_66 : decode cX10_failingWorld 66 = .ok (.iload_n 3, 1) := by decide +kernel
theorem dX10_failingWorld_67 : decode cX10_failingWorld 67 = .ok (.iaload, 1) := by decide +kernel
theorem dX10_failingWorld_68 : decode cX10_failingWorld 68 = .ok (.iaload, 1) := by decide +kernel
theorem dX10_failingWorld_69 : decode cX10_failingWorld 69 = .ok (.aload_n 0, 1) := by decide +kernel
theorem dX10_failingWorld_70 : decode cX10_failingWorld 70 = .ok (.getfield 15, 3) := by decide +kernel
theorem dX10_failingWorld_73 : decode cX10_failingWorld 73 = .ok (.aload_n 0, 1) := by decide +kernel
theorem dX10_failingWorld_74 : decode cX10_failingWorld 74 = .ok (.getfield 19, 3) := by decide +kernel
theorem dX10_failingWorld_77 : decode cX10_failingWorld 77 = .ok (.iload 4, 2) := by decide +kernel
theorem dX10_failingWorld_79 : decode cX10_failingWorld 79 = .ok (.iaload, 1) := by decide +kernel
theorem dX10_failingWorld_80 : decode cX10_failingWorld 80 = .ok (.iaload, 1) := by decide +kernel
theorem dX10_failingWorld_81 : decode cX10_failingWorld 81 = .ok (.ixor, 1) := by decide +kernel
theorem dX10_failingWorld_82 : decode cX10_failingWorld 82 = .ok (.iload_n 2, 1) := by decide +kernel
theorem dX10_failingWorld_83 : decode cX10_failingWorld 83 = .ok (.iand, 1) := by decide +kernel
theorem dX10_failingWorld_84 : decode cX10_failingWorld 84 = .ok (.ifCond .ne 10, 3) := by decide +kernel
theorem dX10_failingWorld_87 : decode cX10_failingWorld 87 = .ok (.aload_n 0, 1) := by decide +kernel
theorem dX10_failingWorld_88 : decode cX10_failingWorld 88 = .ok (.getfield 19, 3) := by decide +kernel
theorem dX10_failingWorld_91 : decode cX10_failingWorld 91 = .ok (.iload_n 3, 1) := by decide +kernel
theorem dX10_failingWorld_92 : decode cX10_failingWorld 92 = .ok (.iaload, 1) := by decide +kernel
theorem dX10_failingWorld_93 : decode cX10_failingWorld 93 = .ok (.ireturn, 1) := by decide +kernel
theorem dX10_failingWorld_94 : decode cX10_failingWorld 94 = .ok (.iinc 4 (-1), 3) := by decide +kernel
theorem dX10_failingWorld_97 : decode cX10_failingWorld 97 = .ok (.goto (-57), 3) := by decide +kernel
theorem dX10_failingWorld_100 : decode cX10_failingWorld 100 = .ok (.iinc 3 1, 3) := by decide +kernel
theorem dX10_failingWorld_103 : decode cX10_failingWorld 103 = .ok (.goto (-90), 3) := by decide +kernel
theorem dX10_failingWorld_106 : decode cX10_failingWorld 106 = .ok (.iconst (-1), 1) := by decide +kernel
theorem dX10_failingWorld_107 : decode cX10_failingWorld 107 = .ok (.ireturn, 1) := by decide +kernel
def E_X10_failingWorld_l13 (h : KH) (v0 : Nat) (v2 : Int32) : ((Unit) ⊕ (Int32)) → Nat → List (Nat × Value) → List Value → KH → Prop := Sum.elim (fun (e : Unit) pc ls st hh => pc = 106 ∧ ls = [] ∧ st = [] ∧ h = hh) (fun o => (KRi cX10_failingWorld o h))
def B_X10_failingWorld_l13 (h : KH) (v0 : Nat) (v2 : Int32) : ((Int32) ⊕ ((Unit) ⊕ (Int32))) → Nat → List (Nat × Value) → List Value → KH → Prop := Sum.elim (fun (s : Int32) pc ls st hh => pc = 13 ∧ ls = [(0, .ref v0), (2, .int v2), (3, .int s)] ∧ st = [] ∧ hh = h) (E_X10_failingWorld_l13 h v0 v2)
def E_X10_failingWorld_l40 (h : KH) (v0 : Nat) (v2 : Int32) (v3 : Int32) : ((Unit) ⊕ ((Int32) ⊕ ((Unit) ⊕ (Int32)))) → Nat → List (Nat × Value) → List Value → KH → Prop := Sum.elim (fun (e : Unit) pc ls st hh => pc = 100 ∧ ls = [(0, .ref v0), (2, .int v2), (3, .int v3)] ∧ st = [] ∧ h = hh) (fun o => (B_X10_failingWorld_l13 h v0 v2 o))
def B_X10_failingWorld_l40 (h : KH) (v0 : Nat) (v2 : Int32) (v3 : Int32) : ((Int32) ⊕ ((Unit) ⊕ ((Int32) ⊕ ((Unit) ⊕ (Int32))))) → Nat → List (Nat × Value) → List Value → KH → Prop := Sum.elim (fun (s : Int32) pc ls st hh => pc = 40 ∧ ls = [(0, .ref v0), (2, .int v2), (3, .int v3), (4, .int s)] ∧ st = [] ∧ hh = h) (E_X10_failingWorld_l40 h v0 v2 v3)
def f_X10_failingWorld_l40 (h : KH) (v0 : Nat) (v2 : Int32) (v3 : Int32) (s : Int32) : Option ((Int32) ⊕ ((Unit) ⊕ ((Int32) ⊕ ((Unit) ⊕ (Int32))))) :=
  if s ≤ v3 then
  some (.inr (.inl ()))
  else
  if kkind v0 = 10 then if (kR h v0 2) < 999999 then if kkind (kR h v0 2) = 20 then if (s < 0 ∨ klen (kR h v0 2) ≤ (s).toNatClampNeg) then none else if (kI h (kR h v0 2) ((s).toNatClampNeg)) < (36 : Int32) then
  some (.inr (.inl ()))
  else
  if (kR h v0 1) < 999999 then if (v3 < 0 ∨ klen (kR h v0 2) ≤ (v3).toNatClampNeg) then none else if kkind (kR h v0 1) = 20 then if ((kI h (kR h v0 2) ((v3).toNatClampNeg)) < 0 ∨ klen (kR h v0 1) ≤ ((kI h (kR h v0 2) ((v3).toNatClampNeg))).toNatClampNeg) then none else if ((kI h (kR h v0 2) ((s).toNatClampNeg)) < 0 ∨ klen (kR h v0 1) ≤ ((kI h (kR h v0 2) ((s).toNatClampNeg))).toNatClampNeg) then none else if (((kI h (kR h v0 1) (((kI h (kR h v0 2) ((v3).toNatClampNeg))).toNatClampNeg)) ^^^ (kI h (kR h v0 1) (((kI h (kR h v0 2) ((s).toNatClampNeg))).toNatClampNeg))) &&& v2) = 0 then
  kout2 (kout2 (some (kI h (kR h v0 2) ((v3).toNatClampNeg))))
  else
  kl (s + (-1 : Int32)) fun x13 =>
  some (.inl x13) else none else none else none else none else none
set_option maxHeartbeats 4000000 in
set_option maxRecDepth 100000 in
theorem s_X10_failingWorld_l40 {Z : Nat → (Nat → Nat) → State → Prop} (h : KH) (v0 : Nat) (v2 : Int32) (v3 : Int32) (s : Int32) (t : (Int32) ⊕ ((Unit) ⊕ ((Int32) ⊕ ((Unit) ⊕ (Int32))))) (hn : (h).1 = 243) (H : f_X10_failingWorld_l40 h v0 v2 v3 s = some t) : KX Z RX10 cX10_failingWorld 5 false 1 (B_X10_failingWorld_l40 h v0 v2 v3 t) 40 [(0, .ref v0), (2, .int v2), (3, .int v3), (4, .int s)] [] h := by
  unfold f_X10_failingWorld_l40 at H
  refine x_iload (q := 42) dX10_failingWorld_40 rfl rfl ?_
  refine x_iload_n (q := 43) dX10_failingWorld_42 rfl rfl ?_
  replace H := kite H; rcases H with ⟨g1, H⟩ | ⟨g1, H⟩
  · refine x_icmp_le_t dX10_failingWorld_43 (q := 100) (by decide) g1 ?_
    cases H
    refine x_sub (ls2 := [(0, .ref v0), (2, .int v2), (3, .int v3)]) [0, 1, 2] rfl ?_
    exact x_end (x_cfg rfl)
  · refine x_icmp_le_f (q := 46) dX10_failingWorld_43 (t := 100) (by decide) rfl g1 ?_
    refine x_aload_n (q := 47) dX10_failingWorld_46 rfl rfl ?_
    replace H := kif H; obtain ⟨g2, H⟩ := H
    replace H := kif H; obtain ⟨g3, H⟩ := H
    refine x_getR (q := 50) dX10_failingWorld_47 rfl kl_RX10_19 rfl (k243 g2 (by decide) hn) g3 ?_
    refine x_iload (q := 52) dX10_failingWorld_50 rfl rfl ?_
    replace H := kif H; obtain ⟨g4, H⟩ := H
    replace H := kifn H; obtain ⟨g5, H⟩ := H
    refine x_iald (q := 53) dX10_failingWorld_52 rfl (k243 g4 (by decide) hn) g5 ?_
    refine x_bipush (q := 55) (v := (36 : Int32)) dX10_failingWorld_53 rfl (by decide) ?_
    replace H := kite H; rcases H with ⟨g6, H⟩ | ⟨g6, H⟩
    · refine x_icmp_lt_t dX10_failingWorld_55 (q := 100) (by decide) g6 ?_
      cases H
      refine x_sub (ls2 := [(0, .ref v0), (2, .int v2), (3, .int v3)]) [0, 1, 2] rfl ?_
      exact x_end (x_cfg rfl)
    · refine x_icmp_lt_f (q := 58) dX10_failingWorld_55 (t := 100) (by decide) rfl g6 ?_
      refine x_aload_n (q := 59) dX10_failingWorld_58 rfl rfl ?_
      replace H := kif H; obtain ⟨g7, H⟩ := H
      refine x_getR (q := 62) dX10_failingWorld_59 rfl kl_RX10_15 rfl (k243 g2 (by decide) hn) g7 ?_
      refine x_aload_n (q := 63) dX10_failingWorld_62 rfl rfl ?_
      refine x_getR (q := 66) dX10_failingWorld_63 rfl kl_RX10_19 rfl (k243 g2 (by decide) hn) g3 ?_
      refine x_iload_n (q := 67) dX10_failingWorld_66 rfl rfl ?_
      replace H := kifn H; obtain ⟨g8, H⟩ := H
      refine x_iald (q := 68) dX10_failingWorld_67 rfl (k243 g4 (by decide) hn) g8 ?_
      replace H := kif H; obtain ⟨g9, H⟩ := H
      replace H := kifn H; obtain ⟨g10, H⟩ := H
      refine x_iald (q := 69) dX10_failingWorld_68 rfl (k243 g9 (by decide) hn) g10 ?_
      refine x_aload_n (q := 70) dX10_failingWorld_69 rfl rfl ?_
      refine x_getR (q := 73) dX10_failingWorld_70 rfl kl_RX10_15 rfl (k243 g2 (by decide) hn) g7 ?_
      refine x_aload_n (q := 74) dX10_failingWorld_73 rfl rfl ?_
      refine x_getR (q := 77) dX10_failingWorld_74 rfl kl_RX10_19 rfl (k243 g2 (by decide) hn) g3 ?_
      refine x_iload (q := 79) dX10_failingWorld_77 rfl rfl ?_
      refine x_iald (q := 80) dX10_failingWorld_79 rfl (k243 g4 (by decide) hn) g5 ?_
      replace H := kifn H; obtain ⟨g11, H⟩ := H
      refine x_iald (q := 81) dX10_failingWorld_80 rfl (k243 g9 (by decide) hn) g11 ?_
      refine x_ixor (q := 82) dX10_failingWorld_81 rfl ?_
      refine x_iload_n (q := 83) dX10_failingWorld_82 rfl rfl ?_
      refine x_iand (q := 84) dX10_failingWorld_83 rfl ?_
      replace H := kite H; rcases H with ⟨g12, H⟩ | ⟨g12, H⟩
      · refine x_if_ne_f (q := 87) dX10_failingWorld_84 (t := 94) (by decide) rfl g12 ?_
        replace H := ko2e H; obtain ⟨o16, H, rfl⟩ := H
        replace H := ko2e H; obtain ⟨o15, H, rfl⟩ := H
        refine x_aload_n (q := 88) dX10_failingWorld_87 rfl rfl ?_
        refine x_getR (q := 91) dX10_failingWorld_88 rfl kl_RX10_19 rfl (k243 g2 (by decide) hn) g3 ?_
        refine x_iload_n (q := 92) dX10_failingWorld_91 rfl rfl ?_
        refine x_iald (q := 93) dX10_failingWorld_92 rfl (k243 g4 (by decide) hn) g8 ?_
        cases H
        exact x_end ⟨dX10_failingWorld_93, rfl, rfl⟩
      · refine x_if_ne_t dX10_failingWorld_84 (q := 94) (by decide) g12 ?_
        replace H := kle H; obtain ⟨x13, q14, H⟩ := H
        refine x_iinc (q := 97) (i := 4) (ls2 := [(4, .int x13), (0, .ref v0), (2, .int v2), (3, .int v3)]) dX10_failingWorld_94 rfl rfl (by decide) (by rw [q14]; rfl) ?_
        refine x_goto dX10_failingWorld_97 (q := 40) (by decide) ?_
        cases H
        refine x_sub (ls2 := [(0, .ref v0), (2, .int v2), (3, .int v3), (4, .int x13)]) [1, 2, 3, 0] rfl ?_
        exact x_end (x_cfg rfl)
theorem sl_X10_failingWorld_l40 {Z : Nat → (Nat → Nat) → State → Prop} (h : KH) (v0 : Nat) (v2 : Int32) (v3 : Int32) (n : Nat) (s : Int32) (r : (Unit) ⊕ ((Int32) ⊕ ((Unit) ⊕ (Int32)))) (hn : (h).1 = 243) (H : kloop (f_X10_failingWorld_l40 h v0 v2 v3) n s = some r) : KX Z RX10 cX10_failingWorld 5 false 1 (E_X10_failingWorld_l40 h v0 v2 v3 r) 40 [(0, .ref v0), (2, .int v2), (3, .int v3), (4, .int s)] [] h :=
  k_loop (ls := (fun (s : Int32) => ([(0, .ref v0), (2, .int v2), (3, .int v3), (4, .int s)] : List (Nat × Value)))) (hp := (fun (s : Int32) => (h : KH))) (G := E_X10_failingWorld_l40 h v0 v2 v3) (fun s t hn H => s_X10_failingWorld_l40 h v0 v2 v3 s t hn H) n s r hn H
def f_X10_failingWorld_b100 (h : KH) (v0 : Nat) (v2 : Int32) (v3 : Int32) : Option ((Int32) ⊕ ((Unit) ⊕ (Int32))) :=
  kl (v3 + (1 : Int32)) fun x1 =>
  some (.inl x1)
set_option maxHeartbeats 4000000 in
set_option maxRecDepth 100000 in
theorem s_X10_failingWorld_b100 {Z : Nat → (Nat → Nat) → State → Prop} (h : KH) (v0 : Nat) (v2 : Int32) (v3 : Int32) {t : (Int32) ⊕ ((Unit) ⊕ (Int32))} (hn : h.1 = 243) (H : f_X10_failingWorld_b100 h v0 v2 v3 = some t) : KX Z RX10 cX10_failingWorld 5 false 1 (B_X10_failingWorld_l13 h v0 v2 t) 100 [(0, .ref v0), (2, .int v2), (3, .int v3)] [] h := by
  unfold f_X10_failingWorld_b100 at H
  replace H := kle H; obtain ⟨x1, q2, H⟩ := H
  refine x_iinc (q := 103) (i := 3) (ls2 := [(3, .int x1), (0, .ref v0), (2, .int v2)]) dX10_failingWorld_100 rfl rfl (by decide) (by rw [q2]; rfl) ?_
  refine x_goto dX10_failingWorld_103 (q := 13) (by decide) ?_
  cases H
  refine x_sub (ls2 := [(0, .ref v0), (2, .int v2), (3, .int x1)]) [1, 2, 0] rfl ?_
  exact x_end (x_cfg rfl)
def f_X10_failingWorld_l13 (h : KH) (v0 : Nat) (v2 : Int32) (s : Int32) : Option ((Int32) ⊕ ((Unit) ⊕ (Int32))) :=
  if kkind v0 = 10 then if (kI h v0 3) ≤ s then
  some (.inr (.inl ()))
  else
  if (kR h v0 2) < 999999 then if kkind (kR h v0 2) = 20 then if (s < 0 ∨ klen (kR h v0 2) ≤ (s).toNatClampNeg) then none else if (36 : Int32) ≤ (kI h (kR h v0 2) ((s).toNatClampNeg)) then
  some (.inr (.inl ()))
  else
  kl ((kI h v0 3) - (1 : Int32)) fun x7 =>
  kb (kloop (f_X10_failingWorld_l40 h v0 v2 s) KF x7) fun e9 =>
  ksum e9 (fun x12 =>
  f_X10_failingWorld_b100 h v0 v2 s) (fun o13 => some o13) else none else none else none
set_option maxHeartbeats 4000000 in
set_option maxRecDepth 100000 in
theorem s_X10_failingWorld_l13 {Z : Nat → (Nat → Nat) → State → Prop} (h : KH) (v0 : Nat) (v2 : Int32) (s : Int32) (t : (Int32) ⊕ ((Unit) ⊕ (Int32))) (hn : (h).1 = 243) (H : f_X10_failingWorld_l13 h v0 v2 s = some t) : KX Z RX10 cX10_failingWorld 5 false 1 (B_X10_failingWorld_l13 h v0 v2 t) 13 [(0, .ref v0), (2, .int v2), (3, .int s)] [] h := by
  unfold f_X10_failingWorld_l13 at H
  refine x_iload_n (q := 14) dX10_failingWorld_13 rfl rfl ?_
  refine x_aload_n (q := 15) dX10_failingWorld_14 rfl rfl ?_
  replace H := kif H; obtain ⟨g1, H⟩ := H
  refine x_getI (q := 18) dX10_failingWorld_15 rfl kl_RX10_22 (Or.inl rfl) (k243 g1 (by decide) hn) ?_
  replace H := kite H; rcases H with ⟨g2, H⟩ | ⟨g2, H⟩
  · refine x_icmp_ge_t dX10_failingWorld_18 (q := 106) (by decide) g2 ?_
    cases H
    refine x_sub (ls2 := []) [] rfl ?_
    exact x_end (x_cfg rfl)
  · refine x_icmp_ge_f (q := 21) dX10_failingWorld_18 (t := 106) (by decide) rfl g2 ?_
    refine x_aload_n (q := 22) dX10_failingWorld_21 rfl rfl ?_
    replace H := kif H; obtain ⟨g3, H⟩ := H
    refine x_getR (q := 25) dX10_failingWorld_22 rfl kl_RX10_19 rfl (k243 g1 (by decide) hn) g3 ?_
    refine x_iload_n (q := 26) dX10_failingWorld_25 rfl rfl ?_
    replace H := kif H; obtain ⟨g4, H⟩ := H
    replace H := kifn H; obtain ⟨g5, H⟩ := H
    refine x_iald (q := 27) dX10_failingWorld_26 rfl (k243 g4 (by decide) hn) g5 ?_
    refine x_bipush (q := 29) (v := (36 : Int32)) dX10_failingWorld_27 rfl (by decide) ?_
    replace H := kite H; rcases H with ⟨g6, H⟩ | ⟨g6, H⟩
    · refine x_icmp_ge_t dX10_failingWorld_29 (q := 106) (by decide) g6 ?_
      cases H
      refine x_sub (ls2 := []) [] rfl ?_
      exact x_end (x_cfg rfl)
    · refine x_icmp_ge_f (q := 32) dX10_failingWorld_29 (t := 106) (by decide) rfl g6 ?_
      refine x_aload_n (q := 33) dX10_failingWorld_32 rfl rfl ?_
      refine x_getI (q := 36) dX10_failingWorld_33 rfl kl_RX10_22 (Or.inl rfl) (k243 g1 (by decide) hn) ?_
      refine x_iconst (q := 37) (v := (1 : Int32)) dX10_failingWorld_36 rfl (by decide) ?_
      refine x_isub (q := 38) dX10_failingWorld_37 rfl ?_
      replace H := kle H; obtain ⟨x7, q8, H⟩ := H
      refine x_nmI q8 ?_
      refine x_istore (q := 40) (i := 4) (ls2 := [(4, .int x7), (0, .ref v0), (2, .int v2), (3, .int s)]) dX10_failingWorld_38 rfl (by decide) rfl ?_
      refine x_sub (ls2 := [(0, .ref v0), (2, .int v2), (3, .int s), (4, .int x7)]) [1, 2, 3, 0] rfl ?_
      replace H := kbe H; obtain ⟨e9, c10, H⟩ := H
      refine x_app (sl_X10_failingWorld_l40 h v0 v2 s KF x7 e9 hn c10) fun pc2 ls2 st2 h2 hg m11 => ?_
      replace H := kse H; rcases H with ⟨x12, rfl, H⟩ | ⟨o13, rfl, H⟩
      · obtain ⟨rfl, rfl, rfl, rfl⟩ := hg
        refine x_sub (ls2 := [(0, .ref v0), (2, .int v2), (3, .int s)]) [0, 1, 2] rfl ?_
        exact s_X10_failingWorld_b100 h v0 v2 s hn H
      · cases H
        exact x_end hg
theorem sl_X10_failingWorld_l13 {Z : Nat → (Nat → Nat) → State → Prop} (h : KH) (v0 : Nat) (v2 : Int32) (n : Nat) (s : Int32) (r : (Unit) ⊕ (Int32)) (hn : (h).1 = 243) (H : kloop (f_X10_failingWorld_l13 h v0 v2) n s = some r) : KX Z RX10 cX10_failingWorld 5 false 1 (E_X10_failingWorld_l13 h v0 v2 r) 13 [(0, .ref v0), (2, .int v2), (3, .int s)] [] h :=
  k_loop (ls := (fun (s : Int32) => ([(0, .ref v0), (2, .int v2), (3, .int s)] : List (Nat × Value)))) (hp := (fun (s : Int32) => (h : KH))) (G := E_X10_failingWorld_l13 h v0 v2) (fun s t hn H => s_X10_failingWorld_l13 h v0 v2 s t hn H) n s r hn H
def f_X10_failingWorld (h : KH) (v0 : Nat) (v1 : Int32) : Option (Int32) :=
  kl (((1 : Int32) <<< (v1 &&& 31)) ||| ((1 : Int32) <<< ((v1 + (6 : Int32)) &&& 31))) fun x1 =>
  kb (kloop (f_X10_failingWorld_l13 h v0 x1) KF (0 : Int32)) fun e3 =>
  ksum e3 (fun x6 =>
  some (-1 : Int32)) (fun o7 => some o7)
set_option maxHeartbeats 4000000 in
set_option maxRecDepth 100000 in
theorem s0_X10_failingWorld {Z : Nat → (Nat → Nat) → State → Prop} (h : KH) (v0 : Nat) (v1 : Int32) {t : Int32} (hn : h.1 = 243) (H : f_X10_failingWorld h v0 v1 = some t) : KX Z RX10 cX10_failingWorld 5 false 1 (KRi cX10_failingWorld t h) 0 [(0, .ref v0), (1, .int v1)] [] h := by
  unfold f_X10_failingWorld at H
  refine x_iconst (q := 1) (v := (1 : Int32)) dX10_failingWorld_0 rfl (by decide) ?_
  refine x_iload_n (q := 2) dX10_failingWorld_1 rfl rfl ?_
  refine x_ishl (q := 3) dX10_failingWorld_2 rfl ?_
  refine x_iconst (q := 4) (v := (1 : Int32)) dX10_failingWorld_3 rfl (by decide) ?_
  refine x_iload_n (q := 5) dX10_failingWorld_4 rfl rfl ?_
  refine x_bipush (q := 7) (v := (6 : Int32)) dX10_failingWorld_5 rfl (by decide) ?_
  refine x_iadd (q := 8) dX10_failingWorld_7 rfl ?_
  refine x_ishl (q := 9) dX10_failingWorld_8 rfl ?_
  refine x_ior (q := 10) dX10_failingWorld_9 rfl ?_
  replace H := kle H; obtain ⟨x1, q2, H⟩ := H
  refine x_nmI q2 ?_
  refine x_istore_n (q := 11) (i := 2) (ls2 := [(2, .int x1), (0, .ref v0), (1, .int v1)]) dX10_failingWorld_10 rfl rfl (by decide) rfl ?_
  refine x_iconst (q := 12) (v := (0 : Int32)) dX10_failingWorld_11 rfl (by decide) ?_
  refine x_istore_n (q := 13) (i := 3) (ls2 := [(3, .int (0 : Int32)), (2, .int x1), (0, .ref v0), (1, .int v1)]) dX10_failingWorld_12 rfl rfl (by decide) rfl ?_
  refine x_sub (ls2 := [(0, .ref v0), (2, .int x1), (3, .int (0 : Int32))]) [2, 1, 0] rfl ?_
  replace H := kbe H; obtain ⟨e3, c4, H⟩ := H
  refine x_app (sl_X10_failingWorld_l13 h v0 x1 KF (0 : Int32) e3 hn c4) fun pc2 ls2 st2 h2 hg m5 => ?_
  replace H := kse H; rcases H with ⟨x6, rfl, H⟩ | ⟨o7, rfl, H⟩
  · obtain ⟨rfl, rfl, rfl, rfl⟩ := hg
    refine x_iconst (q := 107) (v := (-1 : Int32)) dX10_failingWorld_106 rfl (by decide) ?_
    cases H
    exact x_end ⟨dX10_failingWorld_107, rfl, rfl⟩
  · cases H
    exact x_end hg
theorem s_X10_failingWorld {Z : Nat → (Nat → Nat) → State → Prop} (h : KH) (v0 : Nat) (v1 : Int32) {t : Int32} (hn : h.1 = 243) (H : f_X10_failingWorld h v0 v1 = some t) : KM Z yX10_failingWorld cX10_failingWorld 5 (some .int) 1 [.ref v0, .int v1] h (some (.int t)) h :=
  kx_i (own := RX10) (ini := false) (by decide +kernel) (by decide +kernel) rfl (Nat.le_of_ble_eq_true rfl) (s0_X10_failingWorld h v0 v1 hn H)
theorem dJ6_bitCount_0f7a4_0 : decode cJ6_bitCount_0f7a4 0 = .ok (.iload_n 0, 1) := by decide +kernel
theorem dJ6_bitCount_0f7a4_1 : decode cJ6_bitCount_0f7a4 1 = .ok (.iload_n 0, 1) := by decide +kernel
theorem dJ6_bitCount_0f7a4_2 : decode cJ6_bitCount_0f7a4 2 = .ok (.iconst 1, 1) := by decide +kernel
theorem dJ6_bitCount_0f7a4_3 : decode cJ6_bitCount_0f7a4 3 = .ok (.iushr, 1) := by decide +kernel
theorem dJ6_bitCount_0f7a4_4 : decode cJ6_bitCount_0f7a4 4 = .ok (.ldc_w 265, 3) := by decide +kernel
theorem dJ6_bitCount_0f7a4_7 : decode cJ6_bitCount_0f7a4 7 = .ok (.iand, 1) := by decide +kernel
theorem dJ6_bitCount_0f7a4_8 : decode cJ6_bitCount_0f7a4 8 = .ok (.isub, 1) := by decide +kernel
theorem dJ6_bitCount_0f7a4_9 : decode cJ6_bitCount_0f7a4 9 = .ok (.istore_n 0, 1) := by decide +kernel
theorem dJ6_bitCount_0f7a4_10 : decode cJ6_bitCount_0f7a4 10 = .ok (.iload_n 0, 1) := by decide +kernel
theorem dJ6_bitCount_0f7a4_11 : decode cJ6_bitCount_0f7a4 11 = .ok (.ldc_w 266, 3) := by decide +kernel
theorem dJ6_bitCount_0f7a4_14 : decode cJ6_bitCount_0f7a4 14 = .ok (.iand, 1) := by decide +kernel
theorem dJ6_bitCount_0f7a4_15 : decode cJ6_bitCount_0f7a4 15 = .ok (.iload_n 0, 1) := by decide +kernel
theorem dJ6_bitCount_0f7a4_16 : decode cJ6_bitCount_0f7a4 16 = .ok (.iconst 2, 1) := by decide +kernel
theorem dJ6_bitCount_0f7a4_17 : decode cJ6_bitCount_0f7a4 17 = .ok (.iushr, 1) := by decide +kernel
theorem dJ6_bitCount_0f7a4_18 : decode cJ6_bitCount_0f7a4 18 = .ok (.ldc_w 266, 3) := by decide +kernel
theorem dJ6_bitCount_0f7a4_21 : decode cJ6_bitCount_0f7a4 21 = .ok (.iand, 1) := by decide +kernel
theorem dJ6_bitCount_0f7a4_22 : decode cJ6_bitCount_0f7a4 22 = .ok (.iadd, 1) := by decide +kernel
theorem dJ6_bitCount_0f7a4_23 : decode cJ6_bitCount_0f7a4 23 = .ok (.istore_n 0, 1) := by decide +kernel
theorem dJ6_bitCount_0f7a4_24 : decode cJ6_bitCount_0f7a4 24 = .ok (.iload_n 0, 1) := by decide +kernel
theorem dJ6_bitCount_0f7a4_25 : decode cJ6_bitCount_0f7a4 25 = .ok (.iload_n 0, 1) := by decide +kernel
theorem dJ6_bitCount_0f7a4_26 : decode cJ6_bitCount_0f7a4 26 = .ok (.iconst 4, 1) := by decide +kernel
theorem dJ6_bitCount_0f7a4_27 : decode cJ6_bitCount_0f7a4 27 = .ok (.iushr, 1) := by decide +kernel
theorem dJ6_bitCount_0f7a4_28 : decode cJ6_bitCount_0f7a4 28 = .ok (.iadd, 1) := by decide +kernel
theorem dJ6_bitCount_0f7a4_29 : decode cJ6_bitCount_0f7a4 29 = .ok (.ldc_w 267, 3) := by decide +kernel
theorem dJ6_bitCount_0f7a4_32 : decode cJ6_bitCount_0f7a4 32 = .ok (.iand, 1) := by decide +kernel
theorem dJ6_bitCount_0f7a4_33 : decode cJ6_bitCount_0f7a4 33 = .ok (.istore_n 0, 1) := by decide +kernel
theorem dJ6_bitCount_0f7a4_34 : decode cJ6_bitCount_0f7a4 34 = .ok (.iload_n 0, 1) := by decide +kernel
theorem dJ6_bitCount_0f7a4_35 : decode cJ6_bitCount_0f7a4 35 = .ok (.iload_n 0, 1) := by decide +kernel
theorem dJ6_bitCount_0f7a4_36 : decode cJ6_bitCount_0f7a4 36 = .ok (.bipush 8, 2) := by decide +kernel
theorem dJ6_bitCount_0f7a4_38 : decode cJ6_bitCount_0f7a4 38 = .ok (.iushr, 1) := by decide +kernel
theorem dJ6_bitCount_0f7a4_39 : decode cJ6_bitCount_0f7a4 39 = .ok (.iadd, 1) := by decide +kernel
theorem dJ6_bitCount_0f7a4_40 : decode cJ6_bitCount_0f7a4 40 = .ok (.istore_n 0, 1) := by decide +kernel
theorem dJ6_bitCount_0f7a4_41 : decode cJ6_bitCount_0f7a4 41 = .ok (.iload_n 0, 1) := by decide +kernel
theorem dJ6_bitCount_0f7a4_42 : decode cJ6_bitCount_0f7a4 42 = .ok (.iload_n 0, 1) := by decide +kernel
theorem dJ6_bitCount_0f7a4_43 : decode cJ6_bitCount_0f7a4 43 = .ok (.bipush 16, 2) := by decide +kernel
theorem dJ6_bitCount_0f7a4_45 : decode cJ6_bitCount_0f7a4 45 = .ok (.iushr, 1) := by decide +kernel
theorem dJ6_bitCount_0f7a4_46 : decode cJ6_bitCount_0f7a4 46 = .ok (.iadd, 1) := by decide +kernel
theorem dJ6_bitCount_0f7a4_47 : decode cJ6_bitCount_0f7a4 47 = .ok (.istore_n 0, 1) := by decide +kernel
theorem dJ6_bitCount_0f7a4_48 : decode cJ6_bitCount_0f7a4 48 = .ok (.iload_n 0, 1) := by decide +kernel
theorem dJ6_bitCount_0f7a4_49 : decode cJ6_bitCount_0f7a4 49 = .ok (.bipush 63, 2) := by decide +kernel
theorem dJ6_bitCount_0f7a4_51 : decode cJ6_bitCount_0f7a4 51 = .ok (.iand, 1) := by decide +kernel
theorem dJ6_bitCount_0f7a4_52 : decode cJ6_bitCount_0f7a4 52 = .ok (.ireturn, 1) := by decide +kernel
theorem kk_RJ6_265 : Jvm.Cond.constant RJ6 265 (1431655765 : Int32) ∈ ktG := kwm 798 (by decide +kernel) (by decide +kernel)
theorem kk_RJ6_266 : Jvm.Cond.constant RJ6 266 (858993459 : Int32) ∈ ktG := kwm 799 (by decide +kernel) (by decide +kernel)
theorem kk_RJ6_267 : Jvm.Cond.constant RJ6 267 (252645135 : Int32) ∈ ktG := kwm 800 (by decide +kernel) (by decide +kernel)
def f_J6_bitCount_0f7a4 (h : KH) (v0 : Int32) : Option (Int32) :=
  kl (v0 - (((v0.toUInt32 >>> ((1 : Int32).toUInt32 &&& Int32.toUInt32 31)).toInt32) &&& (1431655765 : Int32))) fun x1 =>
  kl ((x1 &&& (858993459 : Int32)) + (((x1.toUInt32 >>> ((2 : Int32).toUInt32 &&& Int32.toUInt32 31)).toInt32) &&& (858993459 : Int32))) fun x3 =>
  kl ((x3 + ((x3.toUInt32 >>> ((4 : Int32).toUInt32 &&& Int32.toUInt32 31)).toInt32)) &&& (252645135 : Int32)) fun x5 =>
  kl (x5 + ((x5.toUInt32 >>> ((8 : Int32).toUInt32 &&& Int32.toUInt32 31)).toInt32)) fun x7 =>
  kl (x7 + ((x7.toUInt32 >>> ((16 : Int32).toUInt32 &&& Int32.toUInt32 31)).toInt32)) fun x9 =>
  some (x9 &&& (63 : Int32))
set_option maxHeartbeats 4000000 in
set_option maxRecDepth 100000 in
theorem s0_J6_bitCount_0f7a4 {Z : Nat → (Nat → Nat) → State → Prop} (h : KH) (v0 : Int32) {t : Int32} (hn : h.1 = 243) (H : f_J6_bitCount_0f7a4 h v0 = some t) : KX Z RJ6 cJ6_bitCount_0f7a4 1 false 1 (KRi cJ6_bitCount_0f7a4 t h) 0 [(0, .int v0)] [] h := by
  unfold f_J6_bitCount_0f7a4 at H
  refine x_iload_n (q := 1) dJ6_bitCount_0f7a4_0 rfl rfl ?_
  refine x_iload_n (q := 2) dJ6_bitCount_0f7a4_1 rfl rfl ?_
  refine x_iconst (q := 3) (v := (1 : Int32)) dJ6_bitCount_0f7a4_2 rfl (by decide) ?_
  refine x_iushr (q := 4) dJ6_bitCount_0f7a4_3 rfl ?_
  refine x_ldcw (q := 7) (v := (1431655765 : Int32)) dJ6_bitCount_0f7a4_4 rfl kk_RJ6_265 ?_
  refine x_iand (q := 8) dJ6_bitCount_0f7a4_7 rfl ?_
  refine x_isub (q := 9) dJ6_bitCount_0f7a4_8 rfl ?_
  replace H := kle H; obtain ⟨x1, q2, H⟩ := H
  refine x_nmI q2 ?_
  refine x_istore_n (q := 10) (i := 0) (ls2 := [(0, .int x1)]) dJ6_bitCount_0f7a4_9 rfl rfl (by decide) rfl ?_
  refine x_iload_n (q := 11) dJ6_bitCount_0f7a4_10 rfl rfl ?_
  refine x_ldcw (q := 14) (v := (858993459 : Int32)) dJ6_bitCount_0f7a4_11 rfl kk_RJ6_266 ?_
  refine x_iand (q := 15) dJ6_bitCount_0f7a4_14 rfl ?_
  refine x_iload_n (q := 16) dJ6_bitCount_0f7a4_15 rfl rfl ?_
  refine x_iconst (q := 17) (v := (2 : Int32)) dJ6_bitCount_0f7a4_16 rfl (by decide) ?_
  refine x_iushr (q := 18) dJ6_bitCount_0f7a4_17 rfl ?_
  refine x_ldcw (q := 21) (v := (858993459 : Int32)) dJ6_bitCount_0f7a4_18 rfl kk_RJ6_266 ?_
  refine x_iand (q := 22) dJ6_bitCount_0f7a4_21 rfl ?_
  refine x_iadd (q := 23) dJ6_bitCount_0f7a4_22 rfl ?_
  replace H := kle H; obtain ⟨x3, q4, H⟩ := H
  refine x_nmI q4 ?_
  refine x_istore_n (q := 24) (i := 0) (ls2 := [(0, .int x3)]) dJ6_bitCount_0f7a4_23 rfl rfl (by decide) rfl ?_
  refine x_iload_n (q := 25) dJ6_bitCount_0f7a4_24 rfl rfl ?_
  refine x_iload_n (q := 26) dJ6_bitCount_0f7a4_25 rfl rfl ?_
  refine x_iconst (q := 27) (v := (4 : Int32)) dJ6_bitCount_0f7a4_26 rfl (by decide) ?_
  refine x_iushr (q := 28) dJ6_bitCount_0f7a4_27 rfl ?_
  refine x_iadd (q := 29) dJ6_bitCount_0f7a4_28 rfl ?_
  refine x_ldcw (q := 32) (v := (252645135 : Int32)) dJ6_bitCount_0f7a4_29 rfl kk_RJ6_267 ?_
  refine x_iand (q := 33) dJ6_bitCount_0f7a4_32 rfl ?_
  replace H := kle H; obtain ⟨x5, q6, H⟩ := H
  refine x_nmI q6 ?_
  refine x_istore_n (q := 34) (i := 0) (ls2 := [(0, .int x5)]) dJ6_bitCount_0f7a4_33 rfl rfl (by decide) rfl ?_
  refine x_iload_n (q := 35) dJ6_bitCount_0f7a4_34 rfl rfl ?_
  refine x_iload_n (q := 36) dJ6_bitCount_0f7a4_35 rfl rfl ?_
  refine x_bipush (q := 38) (v := (8 : Int32)) dJ6_bitCount_0f7a4_36 rfl (by decide) ?_
  refine x_iushr (q := 39) dJ6_bitCount_0f7a4_38 rfl ?_
  refine x_iadd (q := 40) dJ6_bitCount_0f7a4_39 rfl ?_
  replace H := kle H; obtain ⟨x7, q8, H⟩ := H
  refine x_nmI q8 ?_
  refine x_istore_n (q := 41) (i := 0) (ls2 := [(0, .int x7)]) dJ6_bitCount_0f7a4_40 rfl rfl (by decide) rfl ?_
  refine x_iload_n (q := 42) dJ6_bitCount_0f7a4_41 rfl rfl ?_
  refine x_iload_n (q := 43) dJ6_bitCount_0f7a4_42 rfl rfl ?_
  refine x_bipush (q := 45) (v := (16 : Int32)) dJ6_bitCount_0f7a4_43 rfl (by decide) ?_
  refine x_iushr (q := 46) dJ6_bitCount_0f7a4_45 rfl ?_
  refine x_iadd (q := 47) dJ6_bitCount_0f7a4_46 rfl ?_
  replace H := kle H; obtain ⟨x9, q10, H⟩ := H
  refine x_nmI q10 ?_
  refine x_istore_n (q := 48) (i := 0) (ls2 := [(0, .int x9)]) dJ6_bitCount_0f7a4_47 rfl rfl (by decide) rfl ?_
  refine x_iload_n (q := 49) dJ6_bitCount_0f7a4_48 rfl rfl ?_
  refine x_bipush (q := 51) (v := (63 : Int32)) dJ6_bitCount_0f7a4_49 rfl (by decide) ?_
  refine x_iand (q := 52) dJ6_bitCount_0f7a4_51 rfl ?_
  cases H
  exact x_end ⟨dJ6_bitCount_0f7a4_52, rfl, rfl⟩
theorem s_J6_bitCount_0f7a4 {Z : Nat → (Nat → Nat) → State → Prop} (h : KH) (v0 : Int32) {t : Int32} (hn : h.1 = 243) (H : f_J6_bitCount_0f7a4 h v0 = some t) : KM Z yJ6_bitCount_0f7a4 cJ6_bitCount_0f7a4 1 (some .int) 1 [.int v0] h (some (.int t)) h :=
  kx_i (own := RJ6) (ini := false) (by decide +kernel) (by decide +kernel) rfl (Nat.le_of_ble_eq_true rfl) (s0_J6_bitCount_0f7a4 h v0 hn H)
theorem dX10_bestSet_0 : decode cX10_bestSet 0 = .ok (.aload_n 0, 1) := by decide +kernel
theorem dX10_bestSet_1 : decode cX10_bestSet 1 = .ok (.invokevirtual 89, 3) := by decide +kernel
theorem dX10_bestSet_4 : decode cX10_bestSet 4 = .ok (.lconst 0, 1) := by decide +kernel
theorem dX10_bestSet_5 : decode cX10_bestSet 5 = .ok (.lcmp, 1) := by decide +kernel
theorem dX10_bestSet_6 : decode cX10_bestSet 6 = .ok (.ifCond .ne 5, 3) := by decide +kernel
theorem dX10_bestSet_9 : decode cX10_bestSet 9 = .ok (.iconst (-1), 1) := by decide +kernel
theorem dX10_bestSet_10 : decode cX10_bestSet 10 = .ok (.ireturn, 1) := by decide +kernel
theorem dX10_bestSet_11 : decode cX10_bestSet 11 = .ok (.iconst 0, 1) := by decide +kernel
theorem dX10_bestSet_12 : decode cX10_bestSet 12 = .ok (.istore_n 3, 1) := by decide +kernel
theorem dX10_bestSet_13 : decode cX10_bestSet 13 = .ok (.aload_n 0, 1) := by decide +kernel
theorem dX10_bestSet_14 : decode cX10_bestSet 14 = .ok (.aload_n 1, 1) := by decide +kernel
theorem dX10_bestSet_15 : decode cX10_bestSet 15 = .ok (.iconst 0, 1) := by decide +kernel
theorem dX10_bestSet_16 : decode cX10_bestSet 16 = .ok (.invokevirtual 121, 3) := by decide +kernel
theorem dX10_bestSet_19 : decode cX10_bestSet 19 = .ok (.lstore 4, 2) := by decide +kernel
theorem dX10_bestSet_21 : decode cX10_bestSet 21 = .ok (.iconst 1, 1) := by decide +kernel
theorem dX10_bestSet_22 : decode cX10_bestSet 22 = .ok (.istore 6, 2) := by decide +kernel
theorem dX10_bestSet_24 : decode cX10_bestSet 24 = .ok (.iload 6, 2) := by decide +kernel
theorem dX10_bestSet_26 : decode cX10_bestSet 26 = .ok (.iconst 1, 1) := by decide +kernel
theorem dX10_bestSet_27 : decode cX10_bestSet 27 = .ok (.aload_n 1, 1) := by decide +kernel
theorem dX10_bestSet_28 : decode cX10_bestSet 28 = .ok (.getfield 44, 3) := by decide +kernel
theorem dX10_bestSet_31 : decode cX10_bestSet 31 = .ok (.ishl, 1) := by decide +kernel
theorem dX10_bestSet_32 : decode cX10_bestSet 32 = .ok (.if_icmp .ge 86, 3) := by decide +kernel
theorem dX10_bestSet_35 : decode cX10_bestSet 35 = .ok (.iload 6, 2) := by decide +kernel
theorem dX10_bestSet_37 : decode cX10_bestSet 37 = .ok (.iload_n 2, 1) := by decide +kernel
theorem dX10_bestSet_38 : decode cX10_bestSet 38 = .ok (.iand, 1) := by decide +kernel
theorem dX10_bestSet_39 : decode cX10_bestSet 39 = .ok (.ifCond .ne 73, 3) := by decide +kernel
theorem dX10_bestSet_42 : decode cX10_bestSet 42 = .ok (.ldc2_w 125, 3) := by decide +kernel
theorem dX10_bestSet_45 : decode cX10_bestSet 45 = .ok (.aload_n 1, 1) := by decide +kernel
theorem dX10_bestSet_46 : decode cX10_bestSet 46 = .ok (.iload 6, 2) := by decide +kernel
theorem dX10_bestSet_48 : decode cX10_bestSet 48 = .ok (.invokevirtual 114, 3) := by decide +kernel
theorem dX10_bestSet_51 : decode cX10_bestSet 51 = .ok (.i2l, 1) := by decide +kernel
theorem dX10_bestSet_52 : decode cX10_bestSet 52 = .ok (.aload_n 1, 1) := by decide +kernel
theorem dX10_bestSet_53 : decode cX10_bestSet 53 = .ok (.getfield 118, 3) := by decide +kernel
theorem dX10_bestSet_56 : decode cX10_bestSet 56 = .ok (.i2l, 1) := by decide +kernel
theorem dX10_bestSet_57 : decode cX10_bestSet 57 = .ok (.lmul, 1) := by decide +kernel
theorem dX10_bestSet_58 : decode cX10_bestSet 58 = .ok (.lsub, 1) := by decide +kernel
theorem dX10_bestSet_59 : decode cX10_bestSet 59 = .ok (.lload 4, 2) := by decide +kernel
theorem dX10_bestSet_61 : decode cX10_bestSet 61 = .ok (.lcmp, 1) := by decide +kernel
theorem dX10_bestSet_62 : decode cX10_bestSet 62 = .ok (.ifCond .ge 6, 3) := by decide +kernel
theorem dX10_bestSet_65 : decode cX10_bestSet 65 = .ok (.goto 47, 3) := by decide +kernel
theorem dX10_bestSet_68 : decode cX10_bestSet 68 = .ok (.aload_n 0, 1) := by decide +kernel
theorem dX10_bestSet_69 : decode cX10_bestSet 69 = .ok (.aload_n 1, 1) := by decide +kernel
theorem dX10_bestSet_70 : decode cX10_bestSet 70 = .ok (.iload 6, 2) := by decide +kernel
theorem dX10_bestSet_72 : decode cX10_bestSet 72 = .ok (.invokevirtual 121, 3) := by decide +kernel
theorem dX10_bestSet_75 : decode cX10_bestSet 75 = .ok (.lstore 7, 2) := by decide +kernel
theorem dX10_bestSet_77 : decode cX10_bestSet 77 = .ok (.lload 7, 2) := by decide +kernel
theorem dX10_bestSet_79 : decode cX10_bestSet 79 = .ok (.lload 4, 2) := by decide +kernel
theorem dX10_bestSet_81 : decode cX10_bestSet 81 = .ok (.lcmp, 1) := by decide +kernel
theorem dX10_bestSet_82 : decode cX10_bestSet 82 = .ok (.ifCond .gt 23, 3) := by decide +kernel
theorem dX10_bestSet_85 : decode cX10_bestSet 85 = .ok (.lload 7, 2) := by decide +kernel
theorem dX10_bestSet_87 : decode cX10_bestSet 87 = .ok (.lload 4, 2) := by decide +kernel
theorem dX10_bestSet_89 : decode cX10_bestSet 89 = .ok (.lcmp, 1) := by decide +kernel
theorem dX10_bestSet_90 : decode cX10_bestSet 90 = .ok (.ifCond .ne 22, 3) := by decide +kernel
theorem dX10_bestSet_93 : decode cX10_bestSet 93 = .ok (.iload 6, 2) := by decide +kernel
theorem dX10_bestSet_95 : decode cX10_bestSet 95 = .ok (.invokestatic 127, 3) := by decide +kernel
theorem dX10_bestSet_98 : decode cX10_bestSet 98 = .ok (.iload_n 3, 1) := by decide +kernel
theorem dX10_bestSet_99 : decode cX10_bestSet 99 = .ok (.invokestatic 127, 3) := by decide +kernel
theorem dX10_bestSet_102 : decode cX10_bestSet 102 = .ok (.if_icmp .ge 10, 3) := by decide +kernel
theorem dX10_bestSet_105 : decode cX10_bestSet 105 = .ok (.iload 6, 2) := by decide +kernel
theorem dX10_bestSet_107 : decode cX10_bestSet 107 = .ok (.istore_n 3, 1) := by decide +kernel
theorem dX10_bestSet_108 : decode cX10_bestSet 108 = .ok (.lload 7, 2) := by decide +kernel
theorem dX10_bestSet_110 : decode cX10_bestSet 110 = .ok (.lstore 4, 2) := by decide +kernel
theorem dX10_bestSet_112 : decode cX10_bestSet 112 = .ok (.iinc 6 1, 3) := by decide +kernel
theorem dX10_bestSet_115 : decode cX10_bestSet 115 = .ok (.goto (-91), 3) := by decide +kernel
theorem dX10_bestSet_118 : decode cX10_bestSet 118 = .ok (.iload_n 3, 1) := by decide +kernel
theorem dX10_bestSet_119 : decode cX10_bestSet 119 = .ok (.ireturn, 1) := by decide +kernel
theorem kc_RX10_121 : Cond.methodLink RX10 121 yX10_meritOf ∈ ktG ∧ (Cond.instanceMethod yX10_meritOf ∈ ktG ∧ Cond.selects yX10_meritOf.cls yX10_meritOf yX10_meritOf ∈ ktG) ∧ Cond.initialized yX10_meritOf.cls ∈ ktG ∧ Cond.code yX10_meritOf cX10_meritOf 3 (some .long) ∈ ktG := ⟨(kwm 987 (by decide +kernel) (by decide +kernel)), ⟨(kwm 966 (by decide +kernel) (by decide +kernel)), (kwm 967 (by decide +kernel) (by decide +kernel))⟩, (kwm 138 (by decide +kernel) (by decide +kernel)), kwm 968 (by decide +kernel) (by decide +kernel)⟩
theorem kk_RX10_125 : Jvm.Cond.constantLong RX10 125 (1000000 : Int64) ∈ ktG := kwm 988 (by decide +kernel) (by decide +kernel)
theorem kc_RX10_127 : Cond.methodLink RX10 127 yJ6_bitCount_0f7a4 ∈ ktG ∧ Cond.static yJ6_bitCount_0f7a4 ∈ ktG ∧ Cond.initialized yJ6_bitCount_0f7a4.cls ∈ ktG ∧ Cond.code yJ6_bitCount_0f7a4 cJ6_bitCount_0f7a4 1 (some .int) ∈ ktG := ⟨(kwm 989 (by decide +kernel) (by decide +kernel)), (kwm 796 (by decide +kernel) (by decide +kernel)), (kwm 141 (by decide +kernel) (by decide +kernel)), kwm 797 (by decide +kernel) (by decide +kernel)⟩
theorem kh_J6_bitCount_0f7a4 : yJ6_bitCount_0f7a4.cls ≠ "java/lang/invoke/MethodHandle" ∧ yJ6_bitCount_0f7a4.cls ≠ "java/lang/invoke/VarHandle" ∧ (parseMethodDescriptor yJ6_bitCount_0f7a4.desc).map (fun d => d.parameters.length) = some 1 := by decide +kernel
def E_X10_bestSet_l24 (v0 : Nat) (v1 : Nat) (v2 : Int32) : Int32 × KH → Nat → List (Nat × Value) → List Value → KH → Prop := fun (e : Int32 × KH) pc ls st hh => pc = 118 ∧ ls = [(3, .int e.1)] ∧ st = [] ∧ e.2 = hh
def B_X10_bestSet_l24 (v0 : Nat) (v1 : Nat) (v2 : Int32) : ((Int32 × Int64 × Int32 × KH) ⊕ (Int32 × KH)) → Nat → List (Nat × Value) → List Value → KH → Prop := Sum.elim (fun (s : Int32 × Int64 × Int32 × KH) pc ls st hh => pc = 24 ∧ ls = [(0, .ref v0), (1, .ref v1), (2, .int v2), (3, .int s.1), (4, .long s.2.1), (6, .int s.2.2.1)] ∧ st = [] ∧ hh = s.2.2.2) (E_X10_bestSet_l24 v0 v1 v2)
def f_X10_bestSet_b112 (h : KH) (v0 : Nat) (v1 : Nat) (v2 : Int32) (v3 : Int32) (v4 : Int64) (v6 : Int32) : Option ((Int32 × Int64 × Int32 × KH) ⊕ (Int32 × KH)) :=
  kl (v6 + (1 : Int32)) fun x1 =>
  some (.inl (v3, v4, x1, h))
set_option maxHeartbeats 4000000 in
set_option maxRecDepth 100000 in
theorem s_X10_bestSet_b112 {Z : Nat → (Nat → Nat) → State → Prop} (h : KH) (v0 : Nat) (v1 : Nat) (v2 : Int32) (v3 : Int32) (v4 : Int64) (v6 : Int32) {t : (Int32 × Int64 × Int32 × KH) ⊕ (Int32 × KH)} (hn : h.1 = 243) (H : f_X10_bestSet_b112 h v0 v1 v2 v3 v4 v6 = some t) : KX Z RX10 cX10_bestSet 9 false 4 (B_X10_bestSet_l24 v0 v1 v2 t) 112 [(0, .ref v0), (1, .ref v1), (2, .int v2), (3, .int v3), (4, .long v4), (6, .int v6)] [] h := by
  unfold f_X10_bestSet_b112 at H
  replace H := kle H; obtain ⟨x1, q2, H⟩ := H
  refine x_iinc (q := 115) (i := 6) (ls2 := [(6, .int x1), (0, .ref v0), (1, .ref v1), (2, .int v2), (3, .int v3), (4, .long v4)]) dX10_bestSet_112 rfl rfl (by decide) (by rw [q2]; rfl) ?_
  refine x_goto dX10_bestSet_115 (q := 24) (by decide) ?_
  cases H
  refine x_sub (ls2 := [(0, .ref v0), (1, .ref v1), (2, .int v2), (3, .int v3), (4, .long v4), (6, .int x1)]) [1, 2, 3, 4, 5, 0] rfl ?_
  exact x_end (x_cfg rfl)
def f_X10_bestSet_b105 (h : KH) (v0 : Nat) (v1 : Nat) (v2 : Int32) (v6 : Int32) (v7 : Int64) : Option ((Int32 × Int64 × Int32 × KH) ⊕ (Int32 × KH)) :=
  f_X10_bestSet_b112 h v0 v1 v2 v6 v7 v6
set_option maxHeartbeats 4000000 in
set_option maxRecDepth 100000 in
theorem s_X10_bestSet_b105 {Z : Nat → (Nat → Nat) → State → Prop} (h : KH) (v0 : Nat) (v1 : Nat) (v2 : Int32) (v6 : Int32) (v7 : Int64) {t : (Int32 × Int64 × Int32 × KH) ⊕ (Int32 × KH)} (hn : h.1 = 243) (H : f_X10_bestSet_b105 h v0 v1 v2 v6 v7 = some t) : KX Z RX10 cX10_bestSet 9 false 4 (B_X10_bestSet_l24 v0 v1 v2 t) 105 [(0, .ref v0), (1, .ref v1), (2, .int v2), (6, .int v6), (7, .long v7)] [] h := by
  unfold f_X10_bestSet_b105 at H
  refine x_iload (q := 107) dX10_bestSet_105 rfl rfl ?_
  refine x_istore_n (q := 108) (i := 3) (ls2 := [(3, .int v6), (0, .ref v0), (1, .ref v1), (2, .int v2), (6, .int v6), (7, .long v7)]) dX10_bestSet_107 rfl rfl (by decide) rfl ?_
  refine x_lload (q := 110) dX10_bestSet_108 rfl rfl ?_
  refine x_lstore (q := 112) (i := 4) (ls2 := [(4, .long v7), (3, .int v6), (0, .ref v0), (1, .ref v1), (2, .int v2), (6, .int v6), (7, .long v7)]) dX10_bestSet_110 rfl (by decide) rfl ?_
  refine x_sub (ls2 := [(0, .ref v0), (1, .ref v1), (2, .int v2), (3, .int v6), (4, .long v7), (6, .int v6)]) [2, 3, 4, 1, 0, 5] rfl ?_
  exact s_X10_bestSet_b112 h v0 v1 v2 v6 v7 v6 hn H
def f_X10_bestSet_l24 (v0 : Nat) (v1 : Nat) (v2 : Int32) (s : Int32 × Int64 × Int32 × KH) : Option ((Int32 × Int64 × Int32 × KH) ⊕ (Int32 × KH)) :=
  if kkind v1 = 2 then if ((1 : Int32) <<< ((kI s.2.2.2 v1 4) &&& 31)) ≤ s.2.2.1 then
  some (.inr (s.1, s.2.2.2))
  else
  if (s.2.2.1 &&& v2) = 0 then
  kb (f_X2_harmOf s.2.2.2 v1 s.2.2.1) fun r4 =>
  if 0 ≤ (lg_cmp ((1000000 : Int64) - (((r4).toInt64) * (((kI s.2.2.2 v1 7)).toInt64))) s.2.1) then
  if kkind v0 = 10 then kb (f_X10_meritOf s.2.2.2 v0 v1 s.2.2.1) fun r9 =>
  if 0 < (lg_cmp r9.1 s.2.1) then
  f_X10_bestSet_b105 r9.2 v0 v1 v2 s.2.2.1 r9.1
  else
  if (lg_cmp r9.1 s.2.1) = 0 then
  kb (f_J6_bitCount_0f7a4 r9.2 s.2.2.1) fun r15 =>
  kb (f_J6_bitCount_0f7a4 r9.2 s.1) fun r18 =>
  if r18 ≤ r15 then
  f_X10_bestSet_b112 r9.2 v0 v1 v2 s.1 s.2.1 s.2.2.1
  else
  f_X10_bestSet_b105 r9.2 v0 v1 v2 s.2.2.1 r9.1
  else
  f_X10_bestSet_b112 r9.2 v0 v1 v2 s.1 s.2.1 s.2.2.1 else none
  else
  f_X10_bestSet_b112 s.2.2.2 v0 v1 v2 s.1 s.2.1 s.2.2.1
  else
  f_X10_bestSet_b112 s.2.2.2 v0 v1 v2 s.1 s.2.1 s.2.2.1 else none
set_option maxHeartbeats 4000000 in
set_option maxRecDepth 100000 in
theorem s_X10_bestSet_l24 {Z : Nat → (Nat → Nat) → State → Prop} (v0 : Nat) (v1 : Nat) (v2 : Int32) (s : Int32 × Int64 × Int32 × KH) (t : (Int32 × Int64 × Int32 × KH) ⊕ (Int32 × KH)) (hn : (s.2.2.2).1 = 243) (H : f_X10_bestSet_l24 v0 v1 v2 s = some t) : KX Z RX10 cX10_bestSet 9 false 4 (B_X10_bestSet_l24 v0 v1 v2 t) 24 [(0, .ref v0), (1, .ref v1), (2, .int v2), (3, .int s.1), (4, .long s.2.1), (6, .int s.2.2.1)] [] s.2.2.2 := by
  unfold f_X10_bestSet_l24 at H
  refine x_iload (q := 26) dX10_bestSet_24 rfl rfl ?_
  refine x_iconst (q := 27) (v := (1 : Int32)) dX10_bestSet_26 rfl (by decide) ?_
  refine x_aload_n (q := 28) dX10_bestSet_27 rfl rfl ?_
  replace H := kif H; obtain ⟨g1, H⟩ := H
  refine x_getI (q := 31) dX10_bestSet_28 rfl kl_RX10_44 (Or.inl rfl) (k243 g1 (by decide) hn) ?_
  refine x_ishl (q := 32) dX10_bestSet_31 rfl ?_
  replace H := kite H; rcases H with ⟨g2, H⟩ | ⟨g2, H⟩
  · refine x_icmp_ge_t dX10_bestSet_32 (q := 118) (by decide) g2 ?_
    cases H
    refine x_sub (ls2 := [(3, .int s.1)]) [3] rfl ?_
    exact x_end (x_cfg rfl)
  · refine x_icmp_ge_f (q := 35) dX10_bestSet_32 (t := 118) (by decide) rfl g2 ?_
    refine x_iload (q := 37) dX10_bestSet_35 rfl rfl ?_
    refine x_iload_n (q := 38) dX10_bestSet_37 rfl rfl ?_
    refine x_iand (q := 39) dX10_bestSet_38 rfl ?_
    replace H := kite H; rcases H with ⟨g3, H⟩ | ⟨g3, H⟩
    · refine x_if_ne_f (q := 42) dX10_bestSet_39 (t := 112) (by decide) rfl g3 ?_
      refine x_ldc2 (q := 45) (v := (1000000 : Int64)) dX10_bestSet_42 rfl kk_RX10_125 ?_
      refine x_aload_n (q := 46) dX10_bestSet_45 rfl rfl ?_
      refine x_iload (q := 48) dX10_bestSet_46 rfl rfl ?_
      replace H := kbe H; obtain ⟨r4, c5, H⟩ := H
      have m6 := s_X2_harmOf (Z := Z) s.2.2.2 v1 s.2.2.1 hn c5
      refine x_callV (q := 51) (as := [.int s.2.2.1]) (rest := [.long (1000000 : Int64)]) dX10_bestSet_48 rfl kc_RX10_114 kh_X2_harmOf (by decide) (Nat.le_of_ble_eq_true rfl) m6 (ci := 2) (by exact ⟨rfl, by decide⟩) (k243 g1 (by decide) hn) ?_
      refine x_i2l (q := 52) dX10_bestSet_51 rfl ?_
      refine x_aload_n (q := 53) dX10_bestSet_52 rfl rfl ?_
      refine x_getI (q := 56) dX10_bestSet_53 rfl kl_RX10_118 (Or.inl rfl) (k243 g1 (by decide) hn) ?_
      refine x_i2l (q := 57) dX10_bestSet_56 rfl ?_
      refine x_lmul (q := 58) dX10_bestSet_57 rfl ?_
      refine x_lsub (q := 59) dX10_bestSet_58 rfl ?_
      refine x_lload (q := 61) dX10_bestSet_59 rfl rfl ?_
      refine x_lcmp (q := 62) dX10_bestSet_61 rfl ?_
      replace H := kite H; rcases H with ⟨g7, H⟩ | ⟨g7, H⟩
      · refine x_if_ge_t dX10_bestSet_62 (q := 68) (by decide) g7 ?_
        refine x_aload_n (q := 69) dX10_bestSet_68 rfl rfl ?_
        refine x_aload_n (q := 70) dX10_bestSet_69 rfl rfl ?_
        refine x_iload (q := 72) dX10_bestSet_70 rfl rfl ?_
        replace H := kif H; obtain ⟨g8, H⟩ := H
        replace H := kbe H; obtain ⟨r9, c10, H⟩ := H
        have m11 := s_X10_meritOf (Z := Z) s.2.2.2 v0 v1 s.2.2.1 hn c10
        refine x_callV (q := 75) (as := [.ref v1, .int s.2.2.1]) (rest := []) dX10_bestSet_72 rfl kc_RX10_121 kh_X10_meritOf (by decide) (Nat.le_of_ble_eq_true rfl) m11 (ci := 10) (by exact ⟨rfl, by decide⟩) (k243 g8 (by decide) hn) ?_
        have n12 : (r9.2).1 = 243 := m11.1.full hn
        refine x_lstore (q := 77) (i := 7) (ls2 := [(7, .long r9.1), (0, .ref v0), (1, .ref v1), (2, .int v2), (3, .int s.1), (4, .long s.2.1), (6, .int s.2.2.1)]) dX10_bestSet_75 rfl (by decide) rfl ?_
        refine x_lload (q := 79) dX10_bestSet_77 rfl rfl ?_
        refine x_lload (q := 81) dX10_bestSet_79 rfl rfl ?_
        refine x_lcmp (q := 82) dX10_bestSet_81 rfl ?_
        replace H := kite H; rcases H with ⟨g13, H⟩ | ⟨g13, H⟩
        · refine x_if_gt_t dX10_bestSet_82 (q := 105) (by decide) g13 ?_
          refine x_sub (ls2 := [(0, .ref v0), (1, .ref v1), (2, .int v2), (6, .int s.2.2.1), (7, .long r9.1)]) [1, 2, 3, 6, 0] rfl ?_
          exact s_X10_bestSet_b105 r9.2 v0 v1 v2 s.2.2.1 r9.1 n12 H
        · refine x_if_gt_f (q := 85) dX10_bestSet_82 (t := 105) (by decide) rfl g13 ?_
          refine x_lload (q := 87) dX10_bestSet_85 rfl rfl ?_
          refine x_lload (q := 89) dX10_bestSet_87 rfl rfl ?_
          refine x_lcmp (q := 90) dX10_bestSet_89 rfl ?_
          replace H := kite H; rcases H with ⟨g14, H⟩ | ⟨g14, H⟩
          · refine x_if_ne_f (q := 93) dX10_bestSet_90 (t := 112) (by decide) rfl g14 ?_
            refine x_iload (q := 95) dX10_bestSet_93 rfl rfl ?_
            replace H := kbe H; obtain ⟨r15, c16, H⟩ := H
            have m17 := s_J6_bitCount_0f7a4 (Z := Z) r9.2 s.2.2.1 n12 c16
            refine x_callS (q := 98) (as := [.int s.2.2.1]) (rest := []) dX10_bestSet_95 rfl kc_RX10_127 kh_J6_bitCount_0f7a4 (by decide) (Nat.le_of_ble_eq_true rfl) m17 ?_
            refine x_iload_n (q := 99) dX10_bestSet_98 rfl rfl ?_
            replace H := kbe H; obtain ⟨r18, c19, H⟩ := H
            have m20 := s_J6_bitCount_0f7a4 (Z := Z) r9.2 s.1 n12 c19
            refine x_callS (q := 102) (as := [.int s.1]) (rest := [.int r15]) dX10_bestSet_99 rfl kc_RX10_127 kh_J6_bitCount_0f7a4 (by decide) (Nat.le_of_ble_eq_true rfl) m20 ?_
            replace H := kite H; rcases H with ⟨g21, H⟩ | ⟨g21, H⟩
            · refine x_icmp_ge_t dX10_bestSet_102 (q := 112) (by decide) g21 ?_
              refine x_sub (ls2 := [(0, .ref v0), (1, .ref v1), (2, .int v2), (3, .int s.1), (4, .long s.2.1), (6, .int s.2.2.1)]) [1, 2, 3, 4, 5, 6] rfl ?_
              exact s_X10_bestSet_b112 r9.2 v0 v1 v2 s.1 s.2.1 s.2.2.1 n12 H
            · refine x_icmp_ge_f (q := 105) dX10_bestSet_102 (t := 112) (by decide) rfl g21 ?_
              refine x_sub (ls2 := [(0, .ref v0), (1, .ref v1), (2, .int v2), (6, .int s.2.2.1), (7, .long r9.1)]) [1, 2, 3, 6, 0] rfl ?_
              exact s_X10_bestSet_b105 r9.2 v0 v1 v2 s.2.2.1 r9.1 n12 H
          · refine x_if_ne_t dX10_bestSet_90 (q := 112) (by decide) g14 ?_
            refine x_sub (ls2 := [(0, .ref v0), (1, .ref v1), (2, .int v2), (3, .int s.1), (4, .long s.2.1), (6, .int s.2.2.1)]) [1, 2, 3, 4, 5, 6] rfl ?_
            exact s_X10_bestSet_b112 r9.2 v0 v1 v2 s.1 s.2.1 s.2.2.1 n12 H
      · refine x_if_ge_f (q := 65) dX10_bestSet_62 (t := 68) (by decide) rfl g7 ?_
        refine x_goto dX10_bestSet_65 (q := 112) (by decide) ?_
        refine x_sub (ls2 := [(0, .ref v0), (1, .ref v1), (2, .int v2), (3, .int s.1), (4, .long s.2.1), (6, .int s.2.2.1)]) [0, 1, 2, 3, 4, 5] rfl ?_
        exact s_X10_bestSet_b112 s.2.2.2 v0 v1 v2 s.1 s.2.1 s.2.2.1 hn H
    · refine x_if_ne_t dX10_bestSet_39 (q := 112) (by decide) g3 ?_
      refine x_sub (ls2 := [(0, .ref v0), (1, .ref v1), (2, .int v2), (3, .int s.1), (4, .long s.2.1), (6, .int s.2.2.1)]) [0, 1, 2, 3, 4, 5] rfl ?_
      exact s_X10_bestSet_b112 s.2.2.2 v0 v1 v2 s.1 s.2.1 s.2.2.1 hn H
theorem sl_X10_bestSet_l24 {Z : Nat → (Nat → Nat) → State → Prop} (v0 : Nat) (v1 : Nat) (v2 : Int32) (n : Nat) (s : Int32 × Int64 × Int32 × KH) (r : Int32 × KH) (hn : (s.2.2.2).1 = 243) (H : kloop (f_X10_bestSet_l24 v0 v1 v2) n s = some r) : KX Z RX10 cX10_bestSet 9 false 4 (E_X10_bestSet_l24 v0 v1 v2 r) 24 [(0, .ref v0), (1, .ref v1), (2, .int v2), (3, .int s.1), (4, .long s.2.1), (6, .int s.2.2.1)] [] s.2.2.2 :=
  k_loop (ls := (fun (s : Int32 × Int64 × Int32 × KH) => ([(0, .ref v0), (1, .ref v1), (2, .int v2), (3, .int s.1), (4, .long s.2.1), (6, .int s.2.2.1)] : List (Nat × Value)))) (hp := (fun (s : Int32 × Int64 × Int32 × KH) => (s.2.2.2 : KH))) (G := E_X10_bestSet_l24 v0 v1 v2) (fun s t hn H => s_X10_bestSet_l24 v0 v1 v2 s t hn H) n s r hn H
def f_X10_bestSet (h : KH) (v0 : Nat) (v1 : Nat) (v2 : Int32) : Option (Int32 × KH) :=
  if kkind v0 = 10 then kb (f_X10_total h v0) fun r2 =>
  if (lg_cmp r2 (0 : Int64)) = 0 then
  some ((-1 : Int32), h)
  else
  kb (f_X10_meritOf h v0 v1 (0 : Int32)) fun r6 =>
  kb (kloop (f_X10_bestSet_l24 v0 v1 v2) KF ((0 : Int32), r6.1, (1 : Int32), r6.2)) fun e10 =>
  some (e10.1, e10.2) else none
set_option maxHeartbeats 4000000 in
set_option maxRecDepth 100000 in
theorem s0_X10_bestSet {Z : Nat → (Nat → Nat) → State → Prop} (h : KH) (v0 : Nat) (v1 : Nat) (v2 : Int32) {t : Int32 × KH} (hn : h.1 = 243) (H : f_X10_bestSet h v0 v1 v2 = some t) : KX Z RX10 cX10_bestSet 9 false 4 (KRi cX10_bestSet t.1 t.2) 0 [(0, .ref v0), (1, .ref v1), (2, .int v2)] [] h := by
  unfold f_X10_bestSet at H
  refine x_aload_n (q := 1) dX10_bestSet_0 rfl rfl ?_
  replace H := kif H; obtain ⟨g1, H⟩ := H
  replace H := kbe H; obtain ⟨r2, c3, H⟩ := H
  have m4 := s_X10_total (Z := Z) h v0 hn c3
  refine x_callV (q := 4) (as := []) (rest := []) dX10_bestSet_1 rfl kc_RX10_89 kh_X10_total (by decide) (Nat.le_of_ble_eq_true rfl) m4 (ci := 10) (by exact ⟨rfl, by decide⟩) (k243 g1 (by decide) hn) ?_
  refine x_lconst (q := 5) (v := (0 : Int64)) dX10_bestSet_4 rfl (by decide) ?_
  refine x_lcmp (q := 6) dX10_bestSet_5 rfl ?_
  replace H := kite H; rcases H with ⟨g5, H⟩ | ⟨g5, H⟩
  · refine x_if_ne_f (q := 9) dX10_bestSet_6 (t := 11) (by decide) rfl g5 ?_
    refine x_iconst (q := 10) (v := (-1 : Int32)) dX10_bestSet_9 rfl (by decide) ?_
    cases H
    exact x_end ⟨dX10_bestSet_10, rfl, rfl⟩
  · refine x_if_ne_t dX10_bestSet_6 (q := 11) (by decide) g5 ?_
    refine x_iconst (q := 12) (v := (0 : Int32)) dX10_bestSet_11 rfl (by decide) ?_
    refine x_istore_n (q := 13) (i := 3) (ls2 := [(3, .int (0 : Int32)), (0, .ref v0), (1, .ref v1), (2, .int v2)]) dX10_bestSet_12 rfl rfl (by decide) rfl ?_
    refine x_aload_n (q := 14) dX10_bestSet_13 rfl rfl ?_
    refine x_aload_n (q := 15) dX10_bestSet_14 rfl rfl ?_
    refine x_iconst (q := 16) (v := (0 : Int32)) dX10_bestSet_15 rfl (by decide) ?_
    replace H := kbe H; obtain ⟨r6, c7, H⟩ := H
    have m8 := s_X10_meritOf (Z := Z) h v0 v1 (0 : Int32) hn c7
    refine x_callV (q := 19) (as := [.ref v1, .int (0 : Int32)]) (rest := []) dX10_bestSet_16 rfl kc_RX10_121 kh_X10_meritOf (by decide) (Nat.le_of_ble_eq_true rfl) m8 (ci := 10) (by exact ⟨rfl, by decide⟩) (k243 g1 (by decide) hn) ?_
    have n9 : (r6.2).1 = 243 := m8.1.full hn
    refine x_lstore (q := 21) (i := 4) (ls2 := [(4, .long r6.1), (3, .int (0 : Int32)), (0, .ref v0), (1, .ref v1), (2, .int v2)]) dX10_bestSet_19 rfl (by decide) rfl ?_
    refine x_iconst (q := 22) (v := (1 : Int32)) dX10_bestSet_21 rfl (by decide) ?_
    refine x_istore (q := 24) (i := 6) (ls2 := [(6, .int (1 : Int32)), (4, .long r6.1), (3, .int (0 : Int32)), (0, .ref v0), (1, .ref v1), (2, .int v2)]) dX10_bestSet_22 rfl (by decide) rfl ?_
    refine x_sub (ls2 := [(0, .ref v0), (1, .ref v1), (2, .int v2), (3, .int (0 : Int32)), (4, .long r6.1), (6, .int (1 : Int32))]) [3, 4, 5, 2, 1, 0] rfl ?_
    replace H := kbe H; obtain ⟨e10, c11, H⟩ := H
    refine x_app (sl_X10_bestSet_l24 v0 v1 v2 KF ((0 : Int32), r6.1, (1 : Int32), r6.2) e10 n9 c11) fun pc2 ls2 st2 h2 hg m12 => ?_
    obtain ⟨rfl, rfl, rfl, rfl⟩ := hg
    refine x_iload_n (q := 119) dX10_bestSet_118 rfl rfl ?_
    cases H
    exact x_end ⟨dX10_bestSet_119, rfl, rfl⟩
theorem s_X10_bestSet {Z : Nat → (Nat → Nat) → State → Prop} (h : KH) (v0 : Nat) (v1 : Nat) (v2 : Int32) {t : Int32 × KH} (hn : h.1 = 243) (H : f_X10_bestSet h v0 v1 v2 = some t) : KM Z yX10_bestSet cX10_bestSet 9 (some .int) 4 [.ref v0, .ref v1, .int v2] h (some (.int t.1)) t.2 :=
  kx_i (own := RX10) (ini := false) (by decide +kernel) (by decide +kernel) rfl (Nat.le_of_ble_eq_true rfl) (s0_X10_bestSet h v0 v1 v2 hn H)
theorem dX10_sureSet_0 : decode cX10_sureSet 0 = .ok (.iconst (-1), 1) := by decide +kernel
theorem dX10_sureSet_1 : decode cX10_sureSet 1 = .ok (.istore_n 3, 1) := by decide +kernel
theorem dX10_sureSet_2 : decode cX10_sureSet 2 = .ok (.iconst 0, 1) := by decide +kernel
theorem dX10_sureSet_3 : decode cX10_sureSet 3 = .ok (.istore 4, 2) := by decide +kernel
theorem dX10_sureSet_5 : decode cX10_sureSet 5 = .ok (.iconst 0, 1) := by decide +kernel
theorem dX10_sureSet_6 : decode cX10_sureSet 6 = .ok (.istore 5, 2) := by decide +kernel
theorem dX10_sureSet_8 : decode cX10_sureSet 8 = .ok (.iload 5, 2) := by decide +kernel
theorem dX10_sureSet_10 : decode cX10_sureSet 10 = .ok (.iconst 1, 1) := by decide +kernel
theorem dX10_sureSet_11 : decode cX10_sureSet 11 = .ok (.aload_n 1, 1) := by decide +kernel
theorem dX10_sureSet_12 : decode cX10_sureSet 12 = .ok (.getfield 44, 3) := by decide +kernel
theorem dX10_sureSet_15 : decode cX10_sureSet 15 = .ok (.ishl, 1) := by decide +kernel
theorem dX10_sureSet_16 : decode cX10_sureSet 16 = .ok (.if_icmp .ge 89, 3) := by decide +kernel
theorem dX10_sureSet_19 : decode cX10_sureSet 19 = .ok (.aload_n 0, 1) := by decide +kernel
theorem dX10_sureSet_20 : decode cX10_sureSet 20 = .ok (.invokevirtual 89, 3) := by decide +kernel
theorem dX10_sureSet_23 : decode cX10_sureSet 23 = .ok (.lconst 0, 1) := by decide +kernel
theorem dX10_sureSet_24 : decode cX10_sureSet 24 = .ok (.lcmp, 1) := by decide +kernel
theorem dX10_sureSet_25 : decode cX10_sureSet 25 = .ok (.ifCond .le 80, 3) := by decide +kernel
theorem dX10_sureSet_28 : decode cX10_sureSet 28 = .ok (.aload_n 0, 1) := by decide +kernel
theorem dX10_sureSet_29 : decode cX10_sureSet 29 = .ok (.iload 5, 2) := by decide +kernel
theorem dX10_sureSet_31 : decode cX10_sureSet 31 = .ok (.iload_n 2, 1) := by decide +kernel
theorem dX10_sureSet_32 : decode cX10_sureSet 32 = .ok (.invokevirtual 132, 3) := by decide +kernel
theorem dX10_sureSet_35 : decode cX10_sureSet 35 = .ok (.ifCond .ne 6, 3) := by decide +kernel
theorem dX10_sureSet_38 : decode cX10_sureSet 38 = .ok (.goto 61, 3) := by decide +kernel
theorem dX10_sureSet_41 : decode cX10_sureSet 41 = .ok (.aload_n 1, 1) := by decide +kernel
theorem dX10_sureSet_42 : decode cX10_sureSet 42 = .ok (.iload 5, 2) := by decide +kernel
theorem dX10_sureSet_44 : decode cX10_sureSet 44 = .ok (.invokevirtual 114, 3) := by decide +kernel
theorem dX10_sureSet_47 : decode cX10_sureSet 47 = .ok (.istore 6, 2) := by decide +kernel
theorem dX10_sureSet_49 : decode cX10_sureSet 49 = .ok (.iload 5, 2) := by decide +kernel
theorem dX10_sureSet_51 : decode cX10_sureSet 51 = .ok (.invokestatic 127, 3) := by decide +kernel
theorem dX10_sureSet_54 : decode cX10_sureSet 54 = .ok (.iload_n 3, 1) := by decide +kernel
theorem dX10_sureSet_55 : decode cX10_sureSet 55 = .ok (.invokestatic 127, 3) := by decide +kernel
theorem dX10_sureSet_58 : decode cX10_sureSet 58 = .ok (.if_icmp .ge 7, 3) := by decide +kernel
theorem dX10_sureSet_61 : decode cX10_sureSet 61 = .ok (.iconst 1, 1) := by decide +kernel
theorem dX10_sureSet_62 : decode cX10_sureSet 62 = .ok (.goto 4, 3) := by decide +kernel
theorem dX10_sureSet_65 : decode cX10_sureSet 65 = .ok (.iconst 0, 1) := by decide +kernel
theorem dX10_sureSet_66 : decode cX10_sureSet 66 = .ok (.istore 7, 2) := by decide +kernel
theorem dX10_sureSet_68 : decode cX10_sureSet 68 = .ok (.iload_n 3, 1) := by decide +kernel
theorem dX10_sureSet_69 : decode cX10_sureSet 69 = .ok (.iconst (-1), 1) := by decide +kernel
theorem dX10_sureSet_70 : decode cX10_sureSet 70 = .ok (.if_icmp .eq 22, 3) := by decide +kernel
theorem dX10_sureSet_73 : decode cX10_sureSet 73 = .ok (.iload 6, 2) := by decide +kernel
theorem dX10_sureSet_75 : decode cX10_sureSet 75 = .ok (.iload 4, 2) := by decide +kernel
theorem dX10_sureSet_77 : decode cX10_sureSet 77 = .ok (.if_icmp .lt 15, 3) := by decide +kernel
theorem dX10_sureSet_80 : decode cX10_sureSet 80 = .ok (.iload 6, 2) := by decide +kernel
theorem dX10_sureSet_82 : decode cX10_sureSet 82 = .ok (.iload 4, 2) := by decide +kernel
theorem dX10_sureSet_84 : decode cX10_sureSet 84 = .ok (.if_icmp .ne 15, 3) := by decide +kernel
theorem dX10_sureSet_87 : decode cX10_sureSet 87 = .ok (.iload 7, 2) := by decide +kernel
theorem dX10_sureSet_89 : decode cX10_sureSet 89 = .ok (.ifCond .eq 10, 3) := by decide +kernel
theorem dX10_sureSet_92 : decode cX10_sureSet 92 = .ok (.iload 5, 2) := by decide +kernel
theorem dX10_sureSet_94 : decode cX10_sureSet 94 = .ok (.istore_n 3, 1) := by decide +kernel
theorem dX10_sureSet_95 : decode cX10_sureSet 95 = .ok (.iload 6, 2) := by decide +kernel
theorem dX10_sureSet_97 : decode cX10_sureSet 97 = .ok (.istore 4, 2) := by decide +kernel
theorem dX10_sureSet_99 : decode cX10_sureSet 99 = .ok (.iinc 5 1, 3) := by decide +kernel
theorem dX10_sureSet_102 : decode cX10_sureSet 102 = .ok (.goto (-94), 3) := by decide +kernel
theorem dX10_sureSet_105 : decode cX10_sureSet 105 = .ok (.iload_n 3, 1) := by decide +kernel
theorem dX10_sureSet_106 : decode cX10_sureSet 106 = .ok (.ireturn, 1) := by decide +kernel
theorem kc_RX10_132 : Cond.methodLink RX10 132 yX10_isSure ∈ ktG ∧ (Cond.instanceMethod yX10_isSure ∈ ktG ∧ Cond.selects yX10_isSure.cls yX10_isSure yX10_isSure ∈ ktG) ∧ Cond.initialized yX10_isSure.cls ∈ ktG ∧ Cond.code yX10_isSure cX10_isSure 3 (some .boolean) ∈ ktG := ⟨(kwm 1007 (by decide +kernel) (by decide +kernel)), ⟨(kwm 1008 (by decide +kernel) (by decide +kernel)), (kwm 1009 (by decide +kernel) (by decide +kernel))⟩, (kwm 138 (by decide +kernel) (by decide +kernel)), kwm 1010 (by decide +kernel) (by decide +kernel)⟩
def E_X10_sureSet_l8 (v0 : Nat) (v1 : Nat) (v2 : Int32) : Int32 × KH → Nat → List (Nat × Value) → List Value → KH → Prop := fun (e : Int32 × KH) pc ls st hh => pc = 105 ∧ ls = [(3, .int e.1)] ∧ st = [] ∧ e.2 = hh
def B_X10_sureSet_l8 (v0 : Nat) (v1 : Nat) (v2 : Int32) : ((Int32 × Int32 × Int32 × KH) ⊕ (Int32 × KH)) → Nat → List (Nat × Value) → List Value → KH → Prop := Sum.elim (fun (s : Int32 × Int32 × Int32 × KH) pc ls st hh => pc = 8 ∧ ls = [(0, .ref v0), (1, .ref v1), (2, .int v2), (3, .int s.1), (4, .int s.2.1), (5, .int s.2.2.1)] ∧ st = [] ∧ hh = s.2.2.2) (E_X10_sureSet_l8 v0 v1 v2)
def f_X10_sureSet_b99 (h : KH) (v0 : Nat) (v1 : Nat) (v2 : Int32) (v3 : Int32) (v4 : Int32) (v5 : Int32) : Option ((Int32 × Int32 × Int32 × KH) ⊕ (Int32 × KH)) :=
  kl (v5 + (1 : Int32)) fun x1 =>
  some (.inl (v3, v4, x1, h))
set_option maxHeartbeats 4000000 in
set_option maxRecDepth 100000 in
theorem s_X10_sureSet_b99 {Z : Nat → (Nat → Nat) → State → Prop} (h : KH) (v0 : Nat) (v1 : Nat) (v2 : Int32) (v3 : Int32) (v4 : Int32) (v5 : Int32) {t : (Int32 × Int32 × Int32 × KH) ⊕ (Int32 × KH)} (hn : h.1 = 243) (H : f_X10_sureSet_b99 h v0 v1 v2 v3 v4 v5 = some t) : KX Z RX10 cX10_sureSet 8 false 4 (B_X10_sureSet_l8 v0 v1 v2 t) 99 [(0, .ref v0), (1, .ref v1), (2, .int v2), (3, .int v3), (4, .int v4), (5, .int v5)] [] h := by
  unfold f_X10_sureSet_b99 at H
  replace H := kle H; obtain ⟨x1, q2, H⟩ := H
  refine x_iinc (q := 102) (i := 5) (ls2 := [(5, .int x1), (0, .ref v0), (1, .ref v1), (2, .int v2), (3, .int v3), (4, .int v4)]) dX10_sureSet_99 rfl rfl (by decide) (by rw [q2]; rfl) ?_
  refine x_goto dX10_sureSet_102 (q := 8) (by decide) ?_
  cases H
  refine x_sub (ls2 := [(0, .ref v0), (1, .ref v1), (2, .int v2), (3, .int v3), (4, .int v4), (5, .int x1)]) [1, 2, 3, 4, 5, 0] rfl ?_
  exact x_end (x_cfg rfl)
def f_X10_sureSet_b92 (h : KH) (v0 : Nat) (v1 : Nat) (v2 : Int32) (v5 : Int32) (v6 : Int32) : Option ((Int32 × Int32 × Int32 × KH) ⊕ (Int32 × KH)) :=
  f_X10_sureSet_b99 h v0 v1 v2 v5 v6 v5
set_option maxHeartbeats 4000000 in
set_option maxRecDepth 100000 in
theorem s_X10_sureSet_b92 {Z : Nat → (Nat → Nat) → State → Prop} (h : KH) (v0 : Nat) (v1 : Nat) (v2 : Int32) (v5 : Int32) (v6 : Int32) {t : (Int32 × Int32 × Int32 × KH) ⊕ (Int32 × KH)} (hn : h.1 = 243) (H : f_X10_sureSet_b92 h v0 v1 v2 v5 v6 = some t) : KX Z RX10 cX10_sureSet 8 false 4 (B_X10_sureSet_l8 v0 v1 v2 t) 92 [(0, .ref v0), (1, .ref v1), (2, .int v2), (5, .int v5), (6, .int v6)] [] h := by
  unfold f_X10_sureSet_b92 at H
  refine x_iload (q := 94) dX10_sureSet_92 rfl rfl ?_
  refine x_istore_n (q := 95) (i := 3) (ls2 := [(3, .int v5), (0, .ref v0), (1, .ref v1), (2, .int v2), (5, .int v5), (6, .int v6)]) dX10_sureSet_94 rfl rfl (by decide) rfl ?_
  refine x_iload (q := 97) dX10_sureSet_95 rfl rfl ?_
  refine x_istore (q := 99) (i := 4) (ls2 := [(4, .int v6), (3, .int v5), (0, .ref v0), (1, .ref v1), (2, .int v2), (5, .int v5), (6, .int v6)]) dX10_sureSet_97 rfl (by decide) rfl ?_
  refine x_sub (ls2 := [(0, .ref v0), (1, .ref v1), (2, .int v2), (3, .int v5), (4, .int v6), (5, .int v5)]) [2, 3, 4, 1, 0, 5] rfl ?_
  exact s_X10_sureSet_b99 h v0 v1 v2 v5 v6 v5 hn H
def f_X10_sureSet_b66 (h : KH) (v0 : Nat) (v1 : Nat) (v2 : Int32) (v3 : Int32) (v4 : Int32) (v5 : Int32) (v6 : Int32) (w0 : Int32) : Option ((Int32 × Int32 × Int32 × KH) ⊕ (Int32 × KH)) :=
  if v3 = (-1 : Int32) then
  f_X10_sureSet_b92 h v0 v1 v2 v5 v6
  else
  if v6 < v4 then
  f_X10_sureSet_b92 h v0 v1 v2 v5 v6
  else
  if v6 = v4 then
  if w0 = 0 then
  f_X10_sureSet_b99 h v0 v1 v2 v3 v4 v5
  else
  f_X10_sureSet_b92 h v0 v1 v2 v5 v6
  else
  f_X10_sureSet_b99 h v0 v1 v2 v3 v4 v5
set_option maxHeartbeats 4000000 in
set_option maxRecDepth 100000 in
theorem s_X10_sureSet_b66 {Z : Nat → (Nat → Nat) → State → Prop} (h : KH) (v0 : Nat) (v1 : Nat) (v2 : Int32) (v3 : Int32) (v4 : Int32) (v5 : Int32) (v6 : Int32) (w0 : Int32) {t : (Int32 × Int32 × Int32 × KH) ⊕ (Int32 × KH)} (hn : h.1 = 243) (H : f_X10_sureSet_b66 h v0 v1 v2 v3 v4 v5 v6 w0 = some t) : KX Z RX10 cX10_sureSet 8 false 4 (B_X10_sureSet_l8 v0 v1 v2 t) 66 [(0, .ref v0), (1, .ref v1), (2, .int v2), (3, .int v3), (4, .int v4), (5, .int v5), (6, .int v6)] [.int w0] h := by
  unfold f_X10_sureSet_b66 at H
  refine x_istore (q := 68) (i := 7) (ls2 := [(7, .int w0), (0, .ref v0), (1, .ref v1), (2, .int v2), (3, .int v3), (4, .int v4), (5, .int v5), (6, .int v6)]) dX10_sureSet_66 rfl (by decide) rfl ?_
  refine x_iload_n (q := 69) dX10_sureSet_68 rfl rfl ?_
  refine x_iconst (q := 70) (v := (-1 : Int32)) dX10_sureSet_69 rfl (by decide) ?_
  replace H := kite H; rcases H with ⟨g1, H⟩ | ⟨g1, H⟩
  · refine x_icmp_eq_t dX10_sureSet_70 (q := 92) (by decide) g1 ?_
    refine x_sub (ls2 := [(0, .ref v0), (1, .ref v1), (2, .int v2), (5, .int v5), (6, .int v6)]) [1, 2, 3, 6, 7] rfl ?_
    exact s_X10_sureSet_b92 h v0 v1 v2 v5 v6 hn H
  · refine x_icmp_eq_f (q := 73) dX10_sureSet_70 (t := 92) (by decide) rfl g1 ?_
    refine x_iload (q := 75) dX10_sureSet_73 rfl rfl ?_
    refine x_iload (q := 77) dX10_sureSet_75 rfl rfl ?_
    replace H := kite H; rcases H with ⟨g2, H⟩ | ⟨g2, H⟩
    · refine x_icmp_lt_t dX10_sureSet_77 (q := 92) (by decide) g2 ?_
      refine x_sub (ls2 := [(0, .ref v0), (1, .ref v1), (2, .int v2), (5, .int v5), (6, .int v6)]) [1, 2, 3, 6, 7] rfl ?_
      exact s_X10_sureSet_b92 h v0 v1 v2 v5 v6 hn H
    · refine x_icmp_lt_f (q := 80) dX10_sureSet_77 (t := 92) (by decide) rfl g2 ?_
      refine x_iload (q := 82) dX10_sureSet_80 rfl rfl ?_
      refine x_iload (q := 84) dX10_sureSet_82 rfl rfl ?_
      replace H := kite H; rcases H with ⟨g3, H⟩ | ⟨g3, H⟩
      · refine x_icmp_ne_f (q := 87) dX10_sureSet_84 (t := 99) (by decide) rfl g3 ?_
        refine x_iload (q := 89) dX10_sureSet_87 rfl rfl ?_
        replace H := kite H; rcases H with ⟨g4, H⟩ | ⟨g4, H⟩
        · refine x_if_eq_t dX10_sureSet_89 (q := 99) (by decide) g4 ?_
          refine x_sub (ls2 := [(0, .ref v0), (1, .ref v1), (2, .int v2), (3, .int v3), (4, .int v4), (5, .int v5)]) [1, 2, 3, 4, 5, 6] rfl ?_
          exact s_X10_sureSet_b99 h v0 v1 v2 v3 v4 v5 hn H
        · refine x_if_eq_f (q := 92) dX10_sureSet_89 (t := 99) (by decide) rfl g4 ?_
          refine x_sub (ls2 := [(0, .ref v0), (1, .ref v1), (2, .int v2), (5, .int v5), (6, .int v6)]) [1, 2, 3, 6, 7] rfl ?_
          exact s_X10_sureSet_b92 h v0 v1 v2 v5 v6 hn H
      · refine x_icmp_ne_t dX10_sureSet_84 (q := 99) (by decide) g3 ?_
        refine x_sub (ls2 := [(0, .ref v0), (1, .ref v1), (2, .int v2), (3, .int v3), (4, .int v4), (5, .int v5)]) [1, 2, 3, 4, 5, 6] rfl ?_
        exact s_X10_sureSet_b99 h v0 v1 v2 v3 v4 v5 hn H
def f_X10_sureSet_l8 (v0 : Nat) (v1 : Nat) (v2 : Int32) (s : Int32 × Int32 × Int32 × KH) : Option ((Int32 × Int32 × Int32 × KH) ⊕ (Int32 × KH)) :=
  if kkind v1 = 2 then if ((1 : Int32) <<< ((kI s.2.2.2 v1 4) &&& 31)) ≤ s.2.2.1 then
  some (.inr (s.1, s.2.2.2))
  else
  if kkind v0 = 10 then kb (f_X10_total s.2.2.2 v0) fun r4 =>
  if (lg_cmp r4 (0 : Int64)) ≤ 0 then
  some (.inr (s.1, s.2.2.2))
  else
  kb (f_X10_isSure s.2.2.2 v0 s.2.2.1 v2) fun r8 =>
  if r8.1 = 0 then
  f_X10_sureSet_b99 r8.2 v0 v1 v2 s.1 s.2.1 s.2.2.1
  else
  kb (f_X2_harmOf r8.2 v1 s.2.2.1) fun r13 =>
  kb (f_J6_bitCount_0f7a4 r8.2 s.2.2.1) fun r16 =>
  kb (f_J6_bitCount_0f7a4 r8.2 s.1) fun r19 =>
  if r19 ≤ r16 then
  f_X10_sureSet_b66 r8.2 v0 v1 v2 s.1 s.2.1 s.2.2.1 r13 (0 : Int32)
  else
  f_X10_sureSet_b66 r8.2 v0 v1 v2 s.1 s.2.1 s.2.2.1 r13 (1 : Int32) else none else none
set_option maxHeartbeats 4000000 in
set_option maxRecDepth 100000 in
theorem s_X10_sureSet_l8 {Z : Nat → (Nat → Nat) → State → Prop} (v0 : Nat) (v1 : Nat) (v2 : Int32) (s : Int32 × Int32 × Int32 × KH) (t : (Int32 × Int32 × Int32 × KH) ⊕ (Int32 × KH)) (hn : (s.2.2.2).1 = 243) (H : f_X10_sureSet_l8 v0 v1 v2 s = some t) : KX Z RX10 cX10_sureSet 8 false 4 (B_X10_sureSet_l8 v0 v1 v2 t) 8 [(0, .ref v0), (1, .ref v1), (2, .int v2), (3, .int s.1), (4, .int s.2.1), (5, .int s.2.2.1)] [] s.2.2.2 := by
  unfold f_X10_sureSet_l8 at H
  refine x_iload (q := 10) dX10_sureSet_8 rfl rfl ?_
  refine x_iconst (q := 11) (v := (1 : Int32)) dX10_sureSet_10 rfl (by decide) ?_
  refine x_aload_n (q := 12) dX10_sureSet_11 rfl rfl ?_
  replace H := kif H; obtain ⟨g1, H⟩ := H
  refine x_getI (q := 15) dX10_sureSet_12 rfl kl_RX10_44 (Or.inl rfl) (k243 g1 (by decide) hn) ?_
  refine x_ishl (q := 16) dX10_sureSet_15 rfl ?_
  replace H := kite H; rcases H with ⟨g2, H⟩ | ⟨g2, H⟩
  · refine x_icmp_ge_t dX10_sureSet_16 (q := 105) (by decide) g2 ?_
    cases H
    refine x_sub (ls2 := [(3, .int s.1)]) [3] rfl ?_
    exact x_end (x_cfg rfl)
  · refine x_icmp_ge_f (q := 19) dX10_sureSet_16 (t := 105) (by decide) rfl g2 ?_
    refine x_aload_n (q := 20) dX10_sureSet_19 rfl rfl ?_
    replace H := kif H; obtain ⟨g3, H⟩ := H
    replace H := kbe H; obtain ⟨r4, c5, H⟩ := H
    have m6 := s_X10_total (Z := Z) s.2.2.2 v0 hn c5
    refine x_callV (q := 23) (as := []) (rest := []) dX10_sureSet_20 rfl kc_RX10_89 kh_X10_total (by decide) (Nat.le_of_ble_eq_true rfl) m6 (ci := 10) (by exact ⟨rfl, by decide⟩) (k243 g3 (by decide) hn) ?_
    refine x_lconst (q := 24) (v := (0 : Int64)) dX10_sureSet_23 rfl (by decide) ?_
    refine x_lcmp (q := 25) dX10_sureSet_24 rfl ?_
    replace H := kite H; rcases H with ⟨g7, H⟩ | ⟨g7, H⟩
    · refine x_if_le_t dX10_sureSet_25 (q := 105) (by decide) g7 ?_
      cases H
      refine x_sub (ls2 := [(3, .int s.1)]) [3] rfl ?_
      exact x_end (x_cfg rfl)
    · refine x_if_le_f (q := 28) dX10_sureSet_25 (t := 105) (by decide) rfl g7 ?_
      refine x_aload_n (q := 29) dX10_sureSet_28 rfl rfl ?_
      refine x_iload (q := 31) dX10_sureSet_29 rfl rfl ?_
      refine x_iload_n (q := 32) dX10_sureSet_31 rfl rfl ?_
      replace H := kbe H; obtain ⟨r8, c9, H⟩ := H
      have m10 := s_X10_isSure (Z := Z) s.2.2.2 v0 s.2.2.1 v2 hn c9
      refine x_callV (q := 35) (as := [.int s.2.2.1, .int v2]) (rest := []) dX10_sureSet_32 rfl kc_RX10_132 kh_X10_isSure (by decide) (Nat.le_of_ble_eq_true rfl) m10 (ci := 10) (by exact ⟨rfl, by decide⟩) (k243 g3 (by decide) hn) ?_
      have n11 : (r8.2).1 = 243 := m10.1.full hn
      replace H := kite H; rcases H with ⟨g12, H⟩ | ⟨g12, H⟩
      · refine x_if_ne_f (q := 38) dX10_sureSet_35 (t := 41) (by decide) rfl g12 ?_
        refine x_goto dX10_sureSet_38 (q := 99) (by decide) ?_
        refine x_sub (ls2 := [(0, .ref v0), (1, .ref v1), (2, .int v2), (3, .int s.1), (4, .int s.2.1), (5, .int s.2.2.1)]) [0, 1, 2, 3, 4, 5] rfl ?_
        exact s_X10_sureSet_b99 r8.2 v0 v1 v2 s.1 s.2.1 s.2.2.1 n11 H
      · refine x_if_ne_t dX10_sureSet_35 (q := 41) (by decide) g12 ?_
        refine x_aload_n (q := 42) dX10_sureSet_41 rfl rfl ?_
        refine x_iload (q := 44) dX10_sureSet_42 rfl rfl ?_
        replace H := kbe H; obtain ⟨r13, c14, H⟩ := H
        have m15 := s_X2_harmOf (Z := Z) r8.2 v1 s.2.2.1 n11 c14
        refine x_callV (q := 47) (as := [.int s.2.2.1]) (rest := []) dX10_sureSet_44 rfl kc_RX10_114 kh_X2_harmOf (by decide) (Nat.le_of_ble_eq_true rfl) m15 (ci := 2) (by exact ⟨rfl, by decide⟩) (k243 g1 (by decide) n11) ?_
        refine x_istore (q := 49) (i := 6) (ls2 := [(6, .int r13), (0, .ref v0), (1, .ref v1), (2, .int v2), (3, .int s.1), (4, .int s.2.1), (5, .int s.2.2.1)]) dX10_sureSet_47 rfl (by decide) rfl ?_
        refine x_iload (q := 51) dX10_sureSet_49 rfl rfl ?_
        replace H := kbe H; obtain ⟨r16, c17, H⟩ := H
        have m18 := s_J6_bitCount_0f7a4 (Z := Z) r8.2 s.2.2.1 n11 c17
        refine x_callS (q := 54) (as := [.int s.2.2.1]) (rest := []) dX10_sureSet_51 rfl kc_RX10_127 kh_J6_bitCount_0f7a4 (by decide) (Nat.le_of_ble_eq_true rfl) m18 ?_
        refine x_iload_n (q := 55) dX10_sureSet_54 rfl rfl ?_
        replace H := kbe H; obtain ⟨r19, c20, H⟩ := H
        have m21 := s_J6_bitCount_0f7a4 (Z := Z) r8.2 s.1 n11 c20
        refine x_callS (q := 58) (as := [.int s.1]) (rest := [.int r16]) dX10_sureSet_55 rfl kc_RX10_127 kh_J6_bitCount_0f7a4 (by decide) (Nat.le_of_ble_eq_true rfl) m21 ?_
        replace H := kite H; rcases H with ⟨g22, H⟩ | ⟨g22, H⟩
        · refine x_icmp_ge_t dX10_sureSet_58 (q := 65) (by decide) g22 ?_
          refine x_iconst (q := 66) (v := (0 : Int32)) dX10_sureSet_65 rfl (by decide) ?_
          refine x_sub (ls2 := [(0, .ref v0), (1, .ref v1), (2, .int v2), (3, .int s.1), (4, .int s.2.1), (5, .int s.2.2.1), (6, .int r13)]) [1, 2, 3, 4, 5, 6, 0] rfl ?_
          exact s_X10_sureSet_b66 r8.2 v0 v1 v2 s.1 s.2.1 s.2.2.1 r13 (0 : Int32) n11 H
        · refine x_icmp_ge_f (q := 61) dX10_sureSet_58 (t := 65) (by decide) rfl g22 ?_
          refine x_iconst (q := 62) (v := (1 : Int32)) dX10_sureSet_61 rfl (by decide) ?_
          refine x_goto dX10_sureSet_62 (q := 66) (by decide) ?_
          refine x_sub (ls2 := [(0, .ref v0), (1, .ref v1), (2, .int v2), (3, .int s.1), (4, .int s.2.1), (5, .int s.2.2.1), (6, .int r13)]) [1, 2, 3, 4, 5, 6, 0] rfl ?_
          exact s_X10_sureSet_b66 r8.2 v0 v1 v2 s.1 s.2.1 s.2.2.1 r13 (1 : Int32) n11 H
theorem sl_X10_sureSet_l8 {Z : Nat → (Nat → Nat) → State → Prop} (v0 : Nat) (v1 : Nat) (v2 : Int32) (n : Nat) (s : Int32 × Int32 × Int32 × KH) (r : Int32 × KH) (hn : (s.2.2.2).1 = 243) (H : kloop (f_X10_sureSet_l8 v0 v1 v2) n s = some r) : KX Z RX10 cX10_sureSet 8 false 4 (E_X10_sureSet_l8 v0 v1 v2 r) 8 [(0, .ref v0), (1, .ref v1), (2, .int v2), (3, .int s.1), (4, .int s.2.1), (5, .int s.2.2.1)] [] s.2.2.2 :=
  k_loop (ls := (fun (s : Int32 × Int32 × Int32 × KH) => ([(0, .ref v0), (1, .ref v1), (2, .int v2), (3, .int s.1), (4, .int s.2.1), (5, .int s.2.2.1)] : List (Nat × Value)))) (hp := (fun (s : Int32 × Int32 × Int32 × KH) => (s.2.2.2 : KH))) (G := E_X10_sureSet_l8 v0 v1 v2) (fun s t hn H => s_X10_sureSet_l8 v0 v1 v2 s t hn H) n s r hn H
def f_X10_sureSet (h : KH) (v0 : Nat) (v1 : Nat) (v2 : Int32) : Option (Int32 × KH) :=
  kb (kloop (f_X10_sureSet_l8 v0 v1 v2) KF ((-1 : Int32), (0 : Int32), (0 : Int32), h)) fun e1 =>
  some (e1.1, e1.2)
set_option maxHeartbeats 4000000 in
set_option maxRecDepth 100000 in
theorem s0_X10_sureSet {Z : Nat → (Nat → Nat) → State → Prop} (h : KH) (v0 : Nat) (v1 : Nat) (v2 : Int32) {t : Int32 × KH} (hn : h.1 = 243) (H : f_X10_sureSet h v0 v1 v2 = some t) : KX Z RX10 cX10_sureSet 8 false 4 (KRi cX10_sureSet t.1 t.2) 0 [(0, .ref v0), (1, .ref v1), (2, .int v2)] [] h := by
  unfold f_X10_sureSet at H
  refine x_iconst (q := 1) (v := (-1 : Int32)) dX10_sureSet_0 rfl (by decide) ?_
  refine x_istore_n (q := 2) (i := 3) (ls2 := [(3, .int (-1 : Int32)), (0, .ref v0), (1, .ref v1), (2, .int v2)]) dX10_sureSet_1 rfl rfl (by decide) rfl ?_
  refine x_iconst (q := 3) (v := (0 : Int32)) dX10_sureSet_2 rfl (by decide) ?_
  refine x_istore (q := 5) (i := 4) (ls2 := [(4, .int (0 : Int32)), (3, .int (-1 : Int32)), (0, .ref v0), (1, .ref v1), (2, .int v2)]) dX10_sureSet_3 rfl (by decide) rfl ?_
  refine x_iconst (q := 6) (v := (0 : Int32)) dX10_sureSet_5 rfl (by decide) ?_
  refine x_istore (q := 8) (i := 5) (ls2 := [(5, .int (0 : Int32)), (4, .int (0 : Int32)), (3, .int (-1 : Int32)), (0, .ref v0), (1, .ref v1), (2, .int v2)]) dX10_sureSet_6 rfl (by decide) rfl ?_
  refine x_sub (ls2 := [(0, .ref v0), (1, .ref v1), (2, .int v2), (3, .int (-1 : Int32)), (4, .int (0 : Int32)), (5, .int (0 : Int32))]) [3, 4, 5, 2, 1, 0] rfl ?_
  replace H := kbe H; obtain ⟨e1, c2, H⟩ := H
  refine x_app (sl_X10_sureSet_l8 v0 v1 v2 KF ((-1 : Int32), (0 : Int32), (0 : Int32), h) e1 hn c2) fun pc2 ls2 st2 h2 hg m3 => ?_
  obtain ⟨rfl, rfl, rfl, rfl⟩ := hg
  refine x_iload_n (q := 106) dX10_sureSet_105 rfl rfl ?_
  cases H
  exact x_end ⟨dX10_sureSet_106, rfl, rfl⟩
theorem s_X10_sureSet {Z : Nat → (Nat → Nat) → State → Prop} (h : KH) (v0 : Nat) (v1 : Nat) (v2 : Int32) {t : Int32 × KH} (hn : h.1 = 243) (H : f_X10_sureSet h v0 v1 v2 = some t) : KM Z yX10_sureSet cX10_sureSet 8 (some .int) 4 [.ref v0, .ref v1, .int v2] h (some (.int t.1)) t.2 :=
  kx_i (own := RX10) (ini := false) (by decide +kernel) (by decide +kernel) rfl (Nat.le_of_ble_eq_true rfl) (s0_X10_sureSet h v0 v1 v2 hn H)
theorem dX11_refuse_0 : decode cX11_refuse 0 = .ok (.aload_n 0, 1) := by decide +kernel
theorem dX11_refuse_1 : decode cX11_refuse 1 = .ok (.getfield 112, 3) := by decide +kernel
theorem dX11_refuse_4 : decode cX11_refuse 4 = .ok (.iload_n 1, 1) := by decide +kernel
theorem dX11_refuse_5 : decode cX11_refuse 5 = .ok (.dup2, 1) := by decide +kernel
theorem dX11_refuse_6 : decode cX11_refuse 6 = .ok (.iaload, 1) := by decide +kernel
theorem dX11_refuse_7 : decode cX11_refuse 7 = .ok (.iconst 1, 1) := by decide +kernel
theorem dX11_refuse_8 : decode cX11_refuse 8 = .ok (.iadd, 1) := by decide +kernel
theorem dX11_refuse_9 : decode cX11_refuse 9 = .ok (.iastore, 1) := by decide +kernel
theorem dX11_refuse_10 : decode cX11_refuse 10 = .ok (.iconst (-1), 1) := by decide +kernel
theorem dX11_refuse_11 : decode cX11_refuse 11 = .ok (.ireturn, 1) := by decide +kernel
theorem kl_RX11_112 : KLk RX11 112 11 17 := ⟨RX11, TX11, 18, rfl, by decide, Or.inl (kwm 545 (by decide +kernel) (by decide +kernel))⟩
def f_X11_refuse (h : KH) (v0 : Nat) (v1 : Int32) : Option (Int32 × KH) :=
  if kkind v0 = 11 then if (kR h v0 17) < 999999 then if kkind (kR h v0 17) = 20 then if (v1 < 0 ∨ klen (kR h v0 17) ≤ (v1).toNatClampNeg) then none else kl (ksI h (kR h v0 17) ((v1).toNatClampNeg) ((kI h (kR h v0 17) ((v1).toNatClampNeg)) + (1 : Int32))) fun h5 =>
  some ((-1 : Int32), h5) else none else none else none
set_option maxHeartbeats 4000000 in
set_option maxRecDepth 100000 in
theorem s0_X11_refuse {Z : Nat → (Nat → Nat) → State → Prop} (h : KH) (v0 : Nat) (v1 : Int32) {t : Int32 × KH} (hn : h.1 = 243) (H : f_X11_refuse h v0 v1 = some t) : KX Z RX11 cX11_refuse 2 false 1 (KRi cX11_refuse t.1 t.2) 0 [(0, .ref v0), (1, .int v1)] [] h := by
  unfold f_X11_refuse at H
  refine x_aload_n (q := 1) dX11_refuse_0 rfl rfl ?_
  replace H := kif H; obtain ⟨g1, H⟩ := H
  replace H := kif H; obtain ⟨g2, H⟩ := H
  refine x_getR (q := 4) dX11_refuse_1 rfl kl_RX11_112 rfl (k243 g1 (by decide) hn) g2 ?_
  refine x_iload_n (q := 5) dX11_refuse_4 rfl rfl ?_
  refine x_dup2 (q := 6) dX11_refuse_5 rfl ⟨rfl, rfl⟩ ?_
  replace H := kif H; obtain ⟨g3, H⟩ := H
  replace H := kifn H; obtain ⟨g4, H⟩ := H
  refine x_iald (q := 7) dX11_refuse_6 rfl (k243 g3 (by decide) hn) g4 ?_
  refine x_iconst (q := 8) (v := (1 : Int32)) dX11_refuse_7 rfl (by decide) ?_
  refine x_iadd (q := 9) dX11_refuse_8 rfl ?_
  replace H := kle H; obtain ⟨h5, q6, H⟩ := H
  refine x_iast (q := 10) dX11_refuse_9 rfl (k243 g3 (by decide) hn) g4 ?_
  refine x_nmH q6 ?_
  have n7 : h5.1 = 243 := by rw [q6]; exact hn
  refine x_iconst (q := 11) (v := (-1 : Int32)) dX11_refuse_10 rfl (by decide) ?_
  cases H
  exact x_end ⟨dX11_refuse_11, rfl, rfl⟩
theorem s_X11_refuse {Z : Nat → (Nat → Nat) → State → Prop} (h : KH) (v0 : Nat) (v1 : Int32) {t : Int32 × KH} (hn : h.1 = 243) (H : f_X11_refuse h v0 v1 = some t) : KM Z yX11_refuse cX11_refuse 2 (some .int) 1 [.ref v0, .int v1] h (some (.int t.1)) t.2 :=
  kx_i (own := RX11) (ini := false) (by decide +kernel) (by decide +kernel) rfl (Nat.le_of_ble_eq_true rfl) (s0_X11_refuse h v0 v1 hn H)
