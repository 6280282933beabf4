-- methods as functions, and that the machine does as they say (by wip/whole/gen_all.py): X12_rightBy, X12_harmOf, X12_meritOf, X12_bits, X12_bestSet, X12_freeTests, X12_allTests, X12_heardNow, X12_lookedNow, X12_has, X12_letter, X12_kind, X12_test, X12_mark, X12_yields, X12_kept, X12_weight, X12_odds, X12_kinds, X12_would
theorem dX12_rightBy_0 : decode cX12_rightBy 0 = .ok (.iload_n 1, 1) := by decide +kernel
theorem dX12_rightBy_1 : decode cX12_rightBy 1 = .ok (.invokestatic 435, 3) := by decide +kernel
theorem dX12_rightBy_4 : decode cX12_rightBy 4 = .ok (.istore_n 2, 1) := by decide +kernel
theorem dX12_rightBy_5 : decode cX12_rightBy 5 = .ok (.lconst 0, 1) := by decide +kernel
theorem dX12_rightBy_6 : decode cX12_rightBy 6 = .ok (.lstore_n 3, 1) := by decide +kernel
theorem dX12_rightBy_7 : decode cX12_rightBy 7 = .ok (.iconst 0, 1) := by decide +kernel
theorem dX12_rightBy_8 : decode cX12_rightBy 8 = .ok (.istore 5, 2) := by decide +kernel
theorem dX12_rightBy_10 : decode cX12_rightBy 10 = .ok (.iload 5, 2) := by decide +kernel
theorem dX12_rightBy_12 : decode cX12_rightBy 12 = .ok (.bipush 72, 2) := by decide +kernel
theorem dX12_rightBy_14 : decode cX12_rightBy 14 = .ok (.if_icmp .ge 41, 3) := by decide +kernel
theorem dX12_rightBy_17 : decode cX12_rightBy 17 = .ok (.aload_n 0, 1) := by decide +kernel
theorem dX12_rightBy_18 : decode cX12_rightBy 18 = .ok (.getfield 139, 3) := by decide +kernel
theorem dX12_rightBy_21 : decode cX12_rightBy 21 = .ok (.iconst 2, 1) := by decide +kernel
theorem dX12_rightBy_22 : decode cX12_rightBy 22 = .ok (.aload_n 0, 1) := by decide +kernel
theorem dX12_rightBy_23 : decode cX12_rightBy 23 = .ok (.getfield 136, 3) := by decide +kernel
theorem dX12_rightBy_26 : decode cX12_rightBy 26 = .ok (.iload 5, 2) := by decide +kernel
theorem dX12_rightBy_28 : decode cX12_rightBy 28 = .ok (.iaload, 1) := by decide +kernel
theorem dX12_rightBy_29 : decode cX12_rightBy 29 = .ok (.iload_n 2, 1) := by decide +kernel
theorem dX12_rightBy_30 : decode cX12_rightBy 30 = .ok (.iand, 1) := by decide +kernel
theorem dX12_rightBy_31 : decode cX12_rightBy 31 = .ok (.imul, 1) := by decide +kernel
theorem dX12_rightBy_32 : decode cX12_rightBy 32 = .ok (.iload 5, 2) := by decide +kernel
theorem dX12_rightBy_34 : decode cX12_rightBy 34 = .ok (.invokestatic 393, 3) := by decide +kernel
theorem dX12_rightBy_37 : decode cX12_rightBy 37 = .ok (.iadd, 1) := by decide +kernel
theorem dX12_rightBy_38 : decode cX12_rightBy 38 = .ok (.dup2, 1) := by decide +kernel
theorem dX12_rightBy_39 : decode cX12_rightBy 39 = .ok (.laload, 1) := by decide +kernel
theorem dX12_rightBy_40 : decode cX12_rightBy 40 = .ok (.aload_n 0, 1) := by decide +kernel
theorem dX12_rightBy_41 : decode cX12_rightBy 41 = .ok (.getfield 133, 3) := by decide +kernel
theorem dX12_rightBy_44 : decode cX12_rightBy 44 = .ok (.iload 5, 2) := by decide +kernel
theorem dX12_rightBy_46 : decode cX12_rightBy 46 = .ok (.laload, 1) := by decide +kernel
theorem dX12_rightBy_47 : decode cX12_rightBy 47 = .ok (.ladd, 1) := by decide +kernel
theorem dX12_rightBy_48 : decode cX12_rightBy 48 = .ok (.lastore, 1) := by decide +kernel
theorem dX12_rightBy_49 : decode cX12_rightBy 49 = .ok (.iinc 5 1, 3) := by decide +kernel
theorem dX12_rightBy_52 : decode cX12_rightBy 52 = .ok (.goto (-42), 3) := by decide +kernel
theorem dX12_rightBy_55 : decode cX12_rightBy 55 = .ok (.iconst 0, 1) := by decide +kernel
theorem dX12_rightBy_56 : decode cX12_rightBy 56 = .ok (.istore 5, 2) := by decide +kernel
theorem dX12_rightBy_58 : decode cX12_rightBy 58 = .ok (.iload 5, 2) := by decide +kernel
theorem dX12_rightBy_60 : decode cX12_rightBy 60 = .ok (.bipush 72, 2) := by decide +kernel
theorem dX12_rightBy_62 : decode cX12_rightBy 62 = .ok (.if_icmp .ge 82, 3) := by decide +kernel
theorem dX12_rightBy_65 : decode cX12_rightBy 65 = .ok (.iconst 2, 1) := by decide +kernel
theorem dX12_rightBy_66 : decode cX12_rightBy 66 = .ok (.aload_n 0, 1) := by decide +kernel
theorem dX12_rightBy_67 : decode cX12_rightBy 67 = .ok (.getfield 136, 3) := by decide +kernel
theorem dX12_rightBy_70 : decode cX12_rightBy 70 = .ok (.iload 5, 2) := by decide +kernel
theorem dX12_rightBy_72 : decode cX12_rightBy 72 = .ok (.iaload, 1) := by decide +kernel
theorem dX12_rightBy_73 : decode cX12_rightBy 73 = .ok (.iload_n 2, 1) := by decide +kernel
theorem dX12_rightBy_74 : decode cX12_rightBy 74 = .ok (.iand, 1) := by decide +kernel
theorem dX12_rightBy_75 : decode cX12_rightBy 75 = .ok (.imul, 1) := by decide +kernel
theorem dX12_rightBy_76 : decode cX12_rightBy 76 = .ok (.istore 6, 2) := by decide +kernel
theorem dX12_rightBy_78 : decode cX12_rightBy 78 = .ok (.lload_n 3, 1) := by decide +kernel
theorem dX12_rightBy_79 : decode cX12_rightBy 79 = .ok (.aload_n 0, 1) := by decide +kernel
theorem dX12_rightBy_80 : decode cX12_rightBy 80 = .ok (.getfield 139, 3) := by decide +kernel
theorem dX12_rightBy_83 : decode cX12_rightBy 83 = .ok (.iload 6, 2) := by decide +kernel
theorem dX12_rightBy_85 : decode cX12_rightBy 85 = .ok (.laload, 1) := by decide +kernel
theorem dX12_rightBy_86 : decode cX12_rightBy 86 = .ok (.aload_n 0, 1) := by decide +kernel
theorem dX12_rightBy_87 : decode cX12_rightBy 87 = .ok (.getfield 139, 3) := by decide +kernel
theorem dX12_rightBy_90 : decode cX12_rightBy 90 = .ok (.iload 6, 2) := by decide +kernel
theorem dX12_rightBy_92 : decode cX12_rightBy 92 = .ok (.iconst 1, 1) := by decide +kernel
theorem dX12_rightBy_93 : decode cX12_rightBy 93 = .ok (.iadd, 1) := by decide +kernel
theorem dX12_rightBy_94 : decode cX12_rightBy 94 = .ok (.laload, 1) := by decide +kernel
theorem dX12_rightBy_95 : decode cX12_rightBy 95 = .ok (.lcmp, 1) := by decide +kernel
theorem dX12_rightBy_96 : decode cX12_rightBy 96 = .ok (.ifCond .le 13, 3) := by decide +kernel
theorem dX12_rightBy_99 : decode cX12_rightBy 99 = .ok (.aload_n 0, 1) := by decide +kernel
theorem dX12_rightBy_100 : decode cX12_rightBy 100 = .ok (.getfield 139, 3) := by decide +kernel
theorem dX12_rightBy_103 : decode cX12_rightBy 103 = .ok (.iload 6, 2) := by decide +kernel
theorem dX12_rightBy_105 : decode cX12_rightBy 105 = .ok (.laload, 1) := by decide +kernel
theorem dX12_rightBy_106 : decode cX12_rightBy 106 = .ok (.goto 12, 3) := by decide +kernel
theorem dX12_rightBy_109 : decode cX12_rightBy 109 = .ok (.aload_n 0, 1) := by decide +kernel
theorem dX12_rightBy_110 : decode cX12_rightBy 110 = .ok (.getfield 139, 3) := by decide +kernel
theorem dX12_rightBy_113 : decode cX12_rightBy 113 = .ok (.iload 6, 2) := by decide +kernel
theorem dX12_rightBy_115 : decode cX12_rightBy 115 = .ok (.iconst 1, 1) := by decide +kernel
theorem dX12_rightBy_116 : decode cX12_rightBy 116 = .ok (.iadd, 1) := by decide +kernel
theorem dX12_rightBy_117 : decode cX12_rightBy 117 = .ok (.laload, 1) := by decide +kernel
theorem dX12_rightBy_118 : decode cX12_rightBy 118 = .ok (.ladd, 1) := by decide +kernel
theorem dX12_rightBy_119 : decode cX12_rightBy 119 = .ok (.lstore_n 3, 1) := by decide +kernel
theorem dX12_rightBy_120 : decode cX12_rightBy 120 = .ok (.aload_n 0, 1) := by decide +kernel
theorem dX12_rightBy_121 : decode cX12_rightBy 121 = .ok (.getfield 139, 3) := by decide +kernel
theorem dX12_rightBy_124 : decode cX12_rightBy 124 = .ok (.iload 6, 2) := by decide +kernel
theorem dX12_rightBy_126 : decode cX12_rightBy 126 = .ok (.lconst 0, 1) := by decide +kernel
theorem dX12_rightBy_127 : decode cX12_rightBy 127 = .ok (.lastore, 1) := by decide +kernel
theorem dX12_rightBy_128 : decode cX12_rightBy 128 = .ok (.aload_n 0, 1) := by decide +kernel
theorem dX12_rightBy_129 : decode cX12_rightBy 129 = .ok (.getfield 139, 3) := by decide +kernel
theorem dX12_rightBy_132 : decode cX12_rightBy 132 = .ok (.iload 6, 2) := by decide +kernel
theorem dX12_rightBy_134 : decode cX12_rightBy 134 = .ok (.iconst 1, 1) := by decide +kernel
theorem dX12_rightBy_135 : decode cX12_rightBy 135 = .ok (.iadd, 1) := by decide +kernel
theorem dX12_rightBy_136 : decode cX12_rightBy 136 = .ok (.lconst 0, 1) := by decide +kernel
theorem dX12_rightBy_137 : decode cX12_rightBy 137 = .ok (.lastore, 1) := by decide +kernel
theorem dX12_rightBy_138 : decode cX12_rightBy 138 = .ok (.iinc 5 1, 3) := by decide +kernel
theorem dX12_rightBy_141 : decode cX12_rightBy 141 = .ok (.goto (-83), 3) := by decide +kernel
theorem dX12_rightBy_144 : decode cX12_rightBy 144 = .ok (.lload_n 3, 1) := by decide +kernel
theorem dX12_rightBy_145 : decode cX12_rightBy 145 = .ok (.lreturn, 1) := by decide +kernel
theorem kc_RX12_435 : Cond.methodLink RX12 435 yX12_maskOf ∈ ktG ∧ Cond.static yX12_maskOf ∈ ktG ∧ Cond.initialized yX12_maskOf.cls ∈ ktG ∧ Cond.code yX12_maskOf cX12_maskOf 3 (some .int) ∈ ktG := ⟨(kwm 1838 (by decide +kernel) (by decide +kernel)), (kwm 1839 (by decide +kernel) (by decide +kernel)), (kwm 139 (by decide +kernel) (by decide +kernel)), kwm 1840 (by decide +kernel) (by decide +kernel)⟩
theorem kh_X12_maskOf : yX12_maskOf.cls ≠ "java/lang/invoke/MethodHandle" ∧ yX12_maskOf.cls ≠ "java/lang/invoke/VarHandle" ∧ (parseMethodDescriptor yX12_maskOf.desc).map (fun d => d.parameters.length) = some 1 := by decide +kernel
theorem kl_RX12_139 : KLk RX12 139 12 57 := ⟨RX12, TX12, 97, rfl, by decide, Or.inl (kwm 1254 (by decide +kernel) (by decide +kernel))⟩
def E_X12_rightBy_l10 (v0 : Nat) (v2 : Int32) (v3 : Int64) : KH → Nat → List (Nat × Value) → List Value → KH → Prop := fun (e : KH) pc ls st hh => pc = 55 ∧ ls = [(0, .ref v0), (2, .int v2), (3, .long v3)] ∧ st = [] ∧ e = hh
def B_X12_rightBy_l10 (v0 : Nat) (v2 : Int32) (v3 : Int64) : ((Int32 × KH) ⊕ (KH)) → Nat → List (Nat × Value) → List Value → KH → Prop := Sum.elim (fun (s : Int32 × KH) pc ls st hh => pc = 10 ∧ ls = [(0, .ref v0), (2, .int v2), (3, .long v3), (5, .int s.1)] ∧ st = [] ∧ hh = s.2) (E_X12_rightBy_l10 v0 v2 v3)
def f_X12_rightBy_l10 (v0 : Nat) (v2 : Int32) (v3 : Int64) (s : Int32 × KH) : Option ((Int32 × KH) ⊕ (KH)) :=
  if (72 : Int32) ≤ s.1 then
  some (.inr s.2)
  else
  if kkind v0 = 12 then if (kR s.2 v0 57) < 999999 then if (kR s.2 v0 55) < 999999 then if kkind (kR s.2 v0 55) = 20 then if (s.1 < 0 ∨ klen (kR s.2 v0 55) ≤ (s.1).toNatClampNeg) then none else kb (f_X12_truthOf s.2 s.1) fun r7 =>
  if kkind (kR s.2 v0 57) = 21 then if ((((2 : Int32) * ((kI s.2 (kR s.2 v0 55) ((s.1).toNatClampNeg)) &&& v2)) + r7) < 0 ∨ klen (kR s.2 v0 57) ≤ ((((2 : Int32) * ((kI s.2 (kR s.2 v0 55) ((s.1).toNatClampNeg)) &&& v2)) + r7)).toNatClampNeg) then none else if (kR s.2 v0 54) < 999999 then if kkind (kR s.2 v0 54) = 21 then if (s.1 < 0 ∨ klen (kR s.2 v0 54) ≤ (s.1).toNatClampNeg) then none else kl (ksL s.2 (kR s.2 v0 57) (((((2 : Int32) * ((kI s.2 (kR s.2 v0 55) ((s.1).toNatClampNeg)) &&& v2)) + r7)).toNatClampNeg) ((kL s.2 (kR s.2 v0 57) (((((2 : Int32) * ((kI s.2 (kR s.2 v0 55) ((s.1).toNatClampNeg)) &&& v2)) + r7)).toNatClampNeg)) + (kL s.2 (kR s.2 v0 54) ((s.1).toNatClampNeg)))) fun h15 =>
  kl (s.1 + (1 : Int32)) fun x18 =>
  some (.inl (x18, h15)) else none else none else none else none else none else none else none
set_option maxHeartbeats 4000000 in
set_option maxRecDepth 100000 in
theorem s_X12_rightBy_l10 {Z : Nat → (Nat → Nat) → State → Prop} (v0 : Nat) (v2 : Int32) (v3 : Int64) (s : Int32 × KH) (t : (Int32 × KH) ⊕ (KH)) (hn : (s.2).1 = 243) (H : f_X12_rightBy_l10 v0 v2 v3 s = some t) : KX Z RX12 cX12_rightBy 7 false 2 (B_X12_rightBy_l10 v0 v2 v3 t) 10 [(0, .ref v0), (2, .int v2), (3, .long v3), (5, .int s.1)] [] s.2 := by
  unfold f_X12_rightBy_l10 at H
  refine x_iload (q := 12) dX12_rightBy_10 rfl rfl ?_
  refine x_bipush (q := 14) (v := (72 : Int32)) dX12_rightBy_12 rfl (by decide) ?_
  replace H := kite H; rcases H with ⟨g1, H⟩ | ⟨g1, H⟩
  · refine x_icmp_ge_t dX12_rightBy_14 (q := 55) (by decide) g1 ?_
    cases H
    refine x_sub (ls2 := [(0, .ref v0), (2, .int v2), (3, .long v3)]) [0, 1, 2] rfl ?_
    exact x_end (x_cfg rfl)
  · refine x_icmp_ge_f (q := 17) dX12_rightBy_14 (t := 55) (by decide) rfl g1 ?_
    refine x_aload_n (q := 18) dX12_rightBy_17 rfl rfl ?_
    replace H := kif H; obtain ⟨g2, H⟩ := H
    replace H := kif H; obtain ⟨g3, H⟩ := H
    refine x_getR (q := 21) dX12_rightBy_18 rfl kl_RX12_139 rfl (k243 g2 (by decide) hn) g3 ?_
    refine x_iconst (q := 22) (v := (2 : Int32)) dX12_rightBy_21 rfl (by decide) ?_
    refine x_aload_n (q := 23) dX12_rightBy_22 rfl rfl ?_
    replace H := kif H; obtain ⟨g4, H⟩ := H
    refine x_getR (q := 26) dX12_rightBy_23 rfl kl_RX12_136 rfl (k243 g2 (by decide) hn) g4 ?_
    refine x_iload (q := 28) dX12_rightBy_26 rfl rfl ?_
    replace H := kif H; obtain ⟨g5, H⟩ := H
    replace H := kifn H; obtain ⟨g6, H⟩ := H
    refine x_iald (q := 29) dX12_rightBy_28 rfl (k243 g5 (by decide) hn) g6 ?_
    refine x_iload_n (q := 30) dX12_rightBy_29 rfl rfl ?_
    refine x_iand (q := 31) dX12_rightBy_30 rfl ?_
    refine x_imul (q := 32) dX12_rightBy_31 rfl ?_
    refine x_iload (q := 34) dX12_rightBy_32 rfl rfl ?_
    replace H := kbe H; obtain ⟨r7, c8, H⟩ := H
    have m9 := s_X12_truthOf (Z := Z) s.2 s.1 hn c8
    refine x_callS (q := 37) (as := [.int s.1]) (rest := [.int ((2 : Int32) * ((kI s.2 (kR s.2 v0 55) ((s.1).toNatClampNeg)) &&& v2)), .ref (kR s.2 v0 57)]) dX12_rightBy_34 rfl kc_RX12_393 kh_X12_truthOf (by decide) (Nat.le_of_ble_eq_true rfl) m9 ?_
    refine x_iadd (q := 38) dX12_rightBy_37 rfl ?_
    refine x_dup2 (q := 39) dX12_rightBy_38 rfl ⟨rfl, rfl⟩ ?_
    replace H := kif H; obtain ⟨g10, H⟩ := H
    replace H := kifn H; obtain ⟨g11, H⟩ := H
    refine x_lald (q := 40) dX12_rightBy_39 rfl (k243 g10 (by decide) hn) g11 ?_
    refine x_aload_n (q := 41) dX12_rightBy_40 rfl rfl ?_
    replace H := kif H; obtain ⟨g12, H⟩ := H
    refine x_getR (q := 44) dX12_rightBy_41 rfl kl_RX12_133 rfl (k243 g2 (by decide) hn) g12 ?_
    refine x_iload (q := 46) dX12_rightBy_44 rfl rfl ?_
    replace H := kif H; obtain ⟨g13, H⟩ := H
    replace H := kifn H; obtain ⟨g14, H⟩ := H
    refine x_lald (q := 47) dX12_rightBy_46 rfl (k243 g13 (by decide) hn) g14 ?_
    refine x_ladd (q := 48) dX12_rightBy_47 rfl ?_
    replace H := kle H; obtain ⟨h15, q16, H⟩ := H
    refine x_last (q := 49) dX12_rightBy_48 rfl (k243 g10 (by decide) hn) g11 ?_
    refine x_nmH q16 ?_
    have n17 : h15.1 = 243 := by rw [q16]; exact hn
    replace H := kle H; obtain ⟨x18, q19, H⟩ := H
    refine x_iinc (q := 52) (i := 5) (ls2 := [(5, .int x18), (0, .ref v0), (2, .int v2), (3, .long v3)]) dX12_rightBy_49 rfl rfl (by decide) (by rw [q19]; rfl) ?_
    refine x_goto dX12_rightBy_52 (q := 10) (by decide) ?_
    cases H
    refine x_sub (ls2 := [(0, .ref v0), (2, .int v2), (3, .long v3), (5, .int x18)]) [1, 2, 3, 0] rfl ?_
    exact x_end (x_cfg rfl)
theorem sl_X12_rightBy_l10 {Z : Nat → (Nat → Nat) → State → Prop} (v0 : Nat) (v2 : Int32) (v3 : Int64) (n : Nat) (s : Int32 × KH) (r : KH) (hn : (s.2).1 = 243) (H : kloop (f_X12_rightBy_l10 v0 v2 v3) n s = some r) : KX Z RX12 cX12_rightBy 7 false 2 (E_X12_rightBy_l10 v0 v2 v3 r) 10 [(0, .ref v0), (2, .int v2), (3, .long v3), (5, .int s.1)] [] s.2 :=
  k_loop (ls := (fun (s : Int32 × KH) => ([(0, .ref v0), (2, .int v2), (3, .long v3), (5, .int s.1)] : List (Nat × Value)))) (hp := (fun (s : Int32 × KH) => (s.2 : KH))) (G := E_X12_rightBy_l10 v0 v2 v3) (fun s t hn H => s_X12_rightBy_l10 v0 v2 v3 s t hn H) n s r hn H
def E_X12_rightBy_l58 (v0 : Nat) (v2 : Int32) : Int64 × KH → Nat → List (Nat × Value) → List Value → KH → Prop := fun (e : Int64 × KH) pc ls st hh => pc = 144 ∧ ls = [(3, .long e.1)] ∧ st = [] ∧ e.2 = hh
def B_X12_rightBy_l58 (v0 : Nat) (v2 : Int32) : ((Int64 × Int32 × KH) ⊕ (Int64 × KH)) → Nat → List (Nat × Value) → List Value → KH → Prop := Sum.elim (fun (s : Int64 × Int32 × KH) pc ls st hh => pc = 58 ∧ ls = [(0, .ref v0), (2, .int v2), (3, .long s.1), (5, .int s.2.1)] ∧ st = [] ∧ hh = s.2.2) (E_X12_rightBy_l58 v0 v2)
def f_X12_rightBy_b118 (h : KH) (v0 : Nat) (v2 : Int32) (v5 : Int32) (v6 : Int32) (w0 : Int64) (w1 : Int64) : Option ((Int64 × Int32 × KH) ⊕ (Int64 × KH)) :=
  kl (w0 + w1) fun x1 =>
  if kkind v0 = 12 then if (kR h v0 57) < 999999 then if kkind (kR h v0 57) = 21 then if (v6 < 0 ∨ klen (kR h v0 57) ≤ (v6).toNatClampNeg) then none else kl (ksL h (kR h v0 57) ((v6).toNatClampNeg) (0 : Int64)) fun h7 =>
  if (kR h7 v0 57) < 999999 then if kkind (kR h7 v0 57) = 21 then if ((v6 + (1 : Int32)) < 0 ∨ klen (kR h7 v0 57) ≤ ((v6 + (1 : Int32))).toNatClampNeg) then none else kl (ksL h7 (kR h7 v0 57) (((v6 + (1 : Int32))).toNatClampNeg) (0 : Int64)) fun h13 =>
  kl (v5 + (1 : Int32)) fun x16 =>
  some (.inl (x1, x16, h13)) else none else none else none else none else none
set_option maxHeartbeats 4000000 in
set_option maxRecDepth 100000 in
theorem s_X12_rightBy_b118 {Z : Nat → (Nat → Nat) → State → Prop} (h : KH) (v0 : Nat) (v2 : Int32) (v5 : Int32) (v6 : Int32) (w0 : Int64) (w1 : Int64) {t : (Int64 × Int32 × KH) ⊕ (Int64 × KH)} (hn : h.1 = 243) (H : f_X12_rightBy_b118 h v0 v2 v5 v6 w0 w1 = some t) : KX Z RX12 cX12_rightBy 7 false 2 (B_X12_rightBy_l58 v0 v2 t) 118 [(0, .ref v0), (2, .int v2), (5, .int v5), (6, .int v6)] [.long w1, .long w0] h := by
  unfold f_X12_rightBy_b118 at H
  refine x_ladd (q := 119) dX12_rightBy_118 rfl ?_
  replace H := kle H; obtain ⟨x1, q2, H⟩ := H
  refine x_nmL q2 ?_
  refine x_lstore_n (q := 120) (i := 3) (ls2 := [(3, .long x1), (0, .ref v0), (2, .int v2), (5, .int v5), (6, .int v6)]) dX12_rightBy_119 rfl rfl (by decide) rfl ?_
  refine x_aload_n (q := 121) dX12_rightBy_120 rfl rfl ?_
  replace H := kif H; obtain ⟨g3, H⟩ := H
  replace H := kif H; obtain ⟨g4, H⟩ := H
  refine x_getR (q := 124) dX12_rightBy_121 rfl kl_RX12_139 rfl (k243 g3 (by decide) hn) g4 ?_
  refine x_iload (q := 126) dX12_rightBy_124 rfl rfl ?_
  refine x_lconst (q := 127) (v := (0 : Int64)) dX12_rightBy_126 rfl (by decide) ?_
  replace H := kif H; obtain ⟨g5, H⟩ := H
  replace H := kifn H; obtain ⟨g6, H⟩ := H
  replace H := kle H; obtain ⟨h7, q8, H⟩ := H
  refine x_last (q := 128) dX12_rightBy_127 rfl (k243 g5 (by decide) hn) g6 ?_
  refine x_nmH q8 ?_
  have n9 : h7.1 = 243 := by rw [q8]; exact hn
  refine x_aload_n (q := 129) dX12_rightBy_128 rfl rfl ?_
  replace H := kif H; obtain ⟨g10, H⟩ := H
  refine x_getR (q := 132) dX12_rightBy_129 rfl kl_RX12_139 rfl (k243 g3 (by decide) n9) g10 ?_
  refine x_iload (q := 134) dX12_rightBy_132 rfl rfl ?_
  refine x_iconst (q := 135) (v := (1 : Int32)) dX12_rightBy_134 rfl (by decide) ?_
  refine x_iadd (q := 136) dX12_rightBy_135 rfl ?_
  refine x_lconst (q := 137) (v := (0 : Int64)) dX12_rightBy_136 rfl (by decide) ?_
  replace H := kif H; obtain ⟨g11, H⟩ := H
  replace H := kifn H; obtain ⟨g12, H⟩ := H
  replace H := kle H; obtain ⟨h13, q14, H⟩ := H
  refine x_last (q := 138) dX12_rightBy_137 rfl (k243 g11 (by decide) n9) g12 ?_
  refine x_nmH q14 ?_
  have n15 : h13.1 = 243 := by rw [q14]; exact n9
  replace H := kle H; obtain ⟨x16, q17, H⟩ := H
  refine x_iinc (q := 141) (i := 5) (ls2 := [(5, .int x16), (3, .long x1), (0, .ref v0), (2, .int v2), (6, .int v6)]) dX12_rightBy_138 rfl rfl (by decide) (by rw [q17]; rfl) ?_
  refine x_goto dX12_rightBy_141 (q := 58) (by decide) ?_
  cases H
  refine x_sub (ls2 := [(0, .ref v0), (2, .int v2), (3, .long x1), (5, .int x16)]) [2, 3, 1, 0] rfl ?_
  exact x_end (x_cfg rfl)
def f_X12_rightBy_l58 (v0 : Nat) (v2 : Int32) (s : Int64 × Int32 × KH) : Option ((Int64 × Int32 × KH) ⊕ (Int64 × KH)) :=
  if (72 : Int32) ≤ s.2.1 then
  some (.inr (s.1, s.2.2))
  else
  if kkind v0 = 12 then if (kR s.2.2 v0 55) < 999999 then if kkind (kR s.2.2 v0 55) = 20 then if (s.2.1 < 0 ∨ klen (kR s.2.2 v0 55) ≤ (s.2.1).toNatClampNeg) then none else kl ((2 : Int32) * ((kI s.2.2 (kR s.2.2 v0 55) ((s.2.1).toNatClampNeg)) &&& v2)) fun x6 =>
  if (kR s.2.2 v0 57) < 999999 then if kkind (kR s.2.2 v0 57) = 21 then if (x6 < 0 ∨ klen (kR s.2.2 v0 57) ≤ (x6).toNatClampNeg) then none else if ((x6 + (1 : Int32)) < 0 ∨ klen (kR s.2.2 v0 57) ≤ ((x6 + (1 : Int32))).toNatClampNeg) then none else if (lg_cmp (kL s.2.2 (kR s.2.2 v0 57) ((x6).toNatClampNeg)) (kL s.2.2 (kR s.2.2 v0 57) (((x6 + (1 : Int32))).toNatClampNeg))) ≤ 0 then
  f_X12_rightBy_b118 s.2.2 v0 v2 s.2.1 x6 s.1 (kL s.2.2 (kR s.2.2 v0 57) (((x6 + (1 : Int32))).toNatClampNeg))
  else
  f_X12_rightBy_b118 s.2.2 v0 v2 s.2.1 x6 s.1 (kL s.2.2 (kR s.2.2 v0 57) ((x6).toNatClampNeg)) else none else none else none else none else none
set_option maxHeartbeats 4000000 in
set_option maxRecDepth 100000 in
theorem s_X12_rightBy_l58 {Z : Nat → (Nat → Nat) → State → Prop} (v0 : Nat) (v2 : Int32) (s : Int64 × Int32 × KH) (t : (Int64 × Int32 × KH) ⊕ (Int64 × KH)) (hn : (s.2.2).1 = 243) (H : f_X12_rightBy_l58 v0 v2 s = some t) : KX Z RX12 cX12_rightBy 7 false 2 (B_X12_rightBy_l58 v0 v2 t) 58 [(0, .ref v0), (2, .int v2), (3, .long s.1), (5, .int s.2.1)] [] s.2.2 := by
  unfold f_X12_rightBy_l58 at H
  refine x_iload (q := 60) dX12_rightBy_58 rfl rfl ?_
  refine x_bipush (q := 62) (v := (72 : Int32)) dX12_rightBy_60 rfl (by decide) ?_
  replace H := kite H; rcases H with ⟨g1, H⟩ | ⟨g1, H⟩
  · refine x_icmp_ge_t dX12_rightBy_62 (q := 144) (by decide) g1 ?_
    cases H
    refine x_sub (ls2 := [(3, .long s.1)]) [2] rfl ?_
    exact x_end (x_cfg rfl)
  · refine x_icmp_ge_f (q := 65) dX12_rightBy_62 (t := 144) (by decide) rfl g1 ?_
    refine x_iconst (q := 66) (v := (2 : Int32)) dX12_rightBy_65 rfl (by decide) ?_
    refine x_aload_n (q := 67) dX12_rightBy_66 rfl rfl ?_
    replace H := kif H; obtain ⟨g2, H⟩ := H
    replace H := kif H; obtain ⟨g3, H⟩ := H
    refine x_getR (q := 70) dX12_rightBy_67 rfl kl_RX12_136 rfl (k243 g2 (by decide) hn) g3 ?_
    refine x_iload (q := 72) dX12_rightBy_70 rfl rfl ?_
    replace H := kif H; obtain ⟨g4, H⟩ := H
    replace H := kifn H; obtain ⟨g5, H⟩ := H
    refine x_iald (q := 73) dX12_rightBy_72 rfl (k243 g4 (by decide) hn) g5 ?_
    refine x_iload_n (q := 74) dX12_rightBy_73 rfl rfl ?_
    refine x_iand (q := 75) dX12_rightBy_74 rfl ?_
    refine x_imul (q := 76) dX12_rightBy_75 rfl ?_
    replace H := kle H; obtain ⟨x6, q7, H⟩ := H
    refine x_nmI q7 ?_
    refine x_istore (q := 78) (i := 6) (ls2 := [(6, .int x6), (0, .ref v0), (2, .int v2), (3, .long s.1), (5, .int s.2.1)]) dX12_rightBy_76 rfl (by decide) rfl ?_
    refine x_lload_n (q := 79) dX12_rightBy_78 rfl rfl ?_
    refine x_aload_n (q := 80) dX12_rightBy_79 rfl rfl ?_
    replace H := kif H; obtain ⟨g8, H⟩ := H
    refine x_getR (q := 83) dX12_rightBy_80 rfl kl_RX12_139 rfl (k243 g2 (by decide) hn) g8 ?_
    refine x_iload (q := 85) dX12_rightBy_83 rfl rfl ?_
    replace H := kif H; obtain ⟨g9, H⟩ := H
    replace H := kifn H; obtain ⟨g10, H⟩ := H
    refine x_lald (q := 86) dX12_rightBy_85 rfl (k243 g9 (by decide) hn) g10 ?_
    refine x_aload_n (q := 87) dX12_rightBy_86 rfl rfl ?_
    refine x_getR (q := 90) dX12_rightBy_87 rfl kl_RX12_139 rfl (k243 g2 (by decide) hn) g8 ?_
    refine x_iload (q := 92) dX12_rightBy_90 rfl rfl ?_
    refine x_iconst (q := 93) (v := (1 : Int32)) dX12_rightBy_92 rfl (by decide) ?_
    refine x_iadd (q := 94) dX12_rightBy_93 rfl ?_
    replace H := kifn H; obtain ⟨g11, H⟩ := H
    refine x_lald (q := 95) dX12_rightBy_94 rfl (k243 g9 (by decide) hn) g11 ?_
    refine x_lcmp (q := 96) dX12_rightBy_95 rfl ?_
    replace H := kite H; rcases H with ⟨g12, H⟩ | ⟨g12, H⟩
    · refine x_if_le_t dX12_rightBy_96 (q := 109) (by decide) g12 ?_
      refine x_aload_n (q := 110) dX12_rightBy_109 rfl rfl ?_
      refine x_getR (q := 113) dX12_rightBy_110 rfl kl_RX12_139 rfl (k243 g2 (by decide) hn) g8 ?_
      refine x_iload (q := 115) dX12_rightBy_113 rfl rfl ?_
      refine x_iconst (q := 116) (v := (1 : Int32)) dX12_rightBy_115 rfl (by decide) ?_
      refine x_iadd (q := 117) dX12_rightBy_116 rfl ?_
      refine x_lald (q := 118) dX12_rightBy_117 rfl (k243 g9 (by decide) hn) g11 ?_
      refine x_sub (ls2 := [(0, .ref v0), (2, .int v2), (5, .int s.2.1), (6, .int x6)]) [1, 2, 4, 0] rfl ?_
      exact s_X12_rightBy_b118 s.2.2 v0 v2 s.2.1 x6 s.1 (kL s.2.2 (kR s.2.2 v0 57) (((x6 + (1 : Int32))).toNatClampNeg)) hn H
    · refine x_if_le_f (q := 99) dX12_rightBy_96 (t := 109) (by decide) rfl g12 ?_
      refine x_aload_n (q := 100) dX12_rightBy_99 rfl rfl ?_
      refine x_getR (q := 103) dX12_rightBy_100 rfl kl_RX12_139 rfl (k243 g2 (by decide) hn) g8 ?_
      refine x_iload (q := 105) dX12_rightBy_103 rfl rfl ?_
      refine x_lald (q := 106) dX12_rightBy_105 rfl (k243 g9 (by decide) hn) g10 ?_
      refine x_goto dX12_rightBy_106 (q := 118) (by decide) ?_
      refine x_sub (ls2 := [(0, .ref v0), (2, .int v2), (5, .int s.2.1), (6, .int x6)]) [1, 2, 4, 0] rfl ?_
      exact s_X12_rightBy_b118 s.2.2 v0 v2 s.2.1 x6 s.1 (kL s.2.2 (kR s.2.2 v0 57) ((x6).toNatClampNeg)) hn H
theorem sl_X12_rightBy_l58 {Z : Nat → (Nat → Nat) → State → Prop} (v0 : Nat) (v2 : Int32) (n : Nat) (s : Int64 × Int32 × KH) (r : Int64 × KH) (hn : (s.2.2).1 = 243) (H : kloop (f_X12_rightBy_l58 v0 v2) n s = some r) : KX Z RX12 cX12_rightBy 7 false 2 (E_X12_rightBy_l58 v0 v2 r) 58 [(0, .ref v0), (2, .int v2), (3, .long s.1), (5, .int s.2.1)] [] s.2.2 :=
  k_loop (ls := (fun (s : Int64 × Int32 × KH) => ([(0, .ref v0), (2, .int v2), (3, .long s.1), (5, .int s.2.1)] : List (Nat × Value)))) (hp := (fun (s : Int64 × Int32 × KH) => (s.2.2 : KH))) (G := E_X12_rightBy_l58 v0 v2) (fun s t hn H => s_X12_rightBy_l58 v0 v2 s t hn H) n s r hn H
def f_X12_rightBy (h : KH) (v0 : Nat) (v1 : Int32) : Option (Int64 × KH) :=
  kb (f_X12_maskOf h v1) fun r1 =>
  kb (kloop (f_X12_rightBy_l10 v0 r1 (0 : Int64)) KF ((0 : Int32), h)) fun e4 =>
  kb (kloop (f_X12_rightBy_l58 v0 r1) KF ((0 : Int64), (0 : Int32), e4)) fun e7 =>
  some (e7.1, e7.2)
set_option maxHeartbeats 4000000 in
set_option maxRecDepth 100000 in
theorem s0_X12_rightBy {Z : Nat → (Nat → Nat) → State → Prop} (h : KH) (v0 : Nat) (v1 : Int32) {t : Int64 × KH} (hn : h.1 = 243) (H : f_X12_rightBy h v0 v1 = some t) : KX Z RX12 cX12_rightBy 7 false 2 (KRl cX12_rightBy t.1 t.2) 0 [(0, .ref v0), (1, .int v1)] [] h := by
  unfold f_X12_rightBy at H
  refine x_iload_n (q := 1) dX12_rightBy_0 rfl rfl ?_
  replace H := kbe H; obtain ⟨r1, c2, H⟩ := H
  have m3 := s_X12_maskOf (Z := Z) h v1 hn c2
  refine x_callS (q := 4) (as := [.int v1]) (rest := []) dX12_rightBy_1 rfl kc_RX12_435 kh_X12_maskOf (by decide) (Nat.le_of_ble_eq_true rfl) m3 ?_
  refine x_istore_n (q := 5) (i := 2) (ls2 := [(2, .int r1), (0, .ref v0), (1, .int v1)]) dX12_rightBy_4 rfl rfl (by decide) rfl ?_
  refine x_lconst (q := 6) (v := (0 : Int64)) dX12_rightBy_5 rfl (by decide) ?_
  refine x_lstore_n (q := 7) (i := 3) (ls2 := [(3, .long (0 : Int64)), (2, .int r1), (0, .ref v0), (1, .int v1)]) dX12_rightBy_6 rfl rfl (by decide) rfl ?_
  refine x_iconst (q := 8) (v := (0 : Int32)) dX12_rightBy_7 rfl (by decide) ?_
  refine x_istore (q := 10) (i := 5) (ls2 := [(5, .int (0 : Int32)), (3, .long (0 : Int64)), (2, .int r1), (0, .ref v0), (1, .int v1)]) dX12_rightBy_8 rfl (by decide) rfl ?_
  refine x_sub (ls2 := [(0, .ref v0), (2, .int r1), (3, .long (0 : Int64)), (5, .int (0 : Int32))]) [3, 2, 1, 0] rfl ?_
  replace H := kbe H; obtain ⟨e4, c5, H⟩ := H
  refine x_app (sl_X12_rightBy_l10 v0 r1 (0 : Int64) KF ((0 : Int32), h) e4 hn c5) fun pc2 ls2 st2 h2 hg m6 => ?_
  obtain ⟨rfl, rfl, rfl, rfl⟩ := hg
  refine x_iconst (q := 56) (v := (0 : Int32)) dX12_rightBy_55 rfl (by decide) ?_
  refine x_istore (q := 58) (i := 5) (ls2 := [(5, .int (0 : Int32)), (0, .ref v0), (2, .int r1), (3, .long (0 : Int64))]) dX12_rightBy_56 rfl (by decide) rfl ?_
  refine x_sub (ls2 := [(0, .ref v0), (2, .int r1), (3, .long (0 : Int64)), (5, .int (0 : Int32))]) [1, 2, 3, 0] rfl ?_
  replace H := kbe H; obtain ⟨e7, c8, H⟩ := H
  refine x_app (sl_X12_rightBy_l58 v0 r1 KF ((0 : Int64), (0 : Int32), e4) e7 (m6.full hn) c8) fun pc2 ls2 st2 h2 hg m9 => ?_
  obtain ⟨rfl, rfl, rfl, rfl⟩ := hg
  refine x_lload_n (q := 145) dX12_rightBy_144 rfl rfl ?_
  cases H
  exact x_end ⟨dX12_rightBy_145, rfl, rfl⟩
theorem s_X12_rightBy {Z : Nat → (Nat → Nat) → State → Prop} (h : KH) (v0 : Nat) (v1 : Int32) {t : Int64 × KH} (hn : h.1 = 243) (H : f_X12_rightBy h v0 v1 = some t) : KM Z yX12_rightBy cX12_rightBy 7 (some .long) 2 [.ref v0, .int v1] h (some (.long t.1)) t.2 :=
  kx_l (own := RX12) (ini := false) (by decide +kernel) (by decide +kernel) rfl (Nat.le_of_ble_eq_true rfl) (s0_X12_rightBy h v0 v1 hn H)
theorem dX12_harmOf_0 : decode cX12_harmOf 0 = .ok (.iconst 0, 1) := by decide +kernel
theorem dX12_harmOf_1 : decode cX12_harmOf 1 = .ok (.istore_n 2, 1) := by decide +kernel
theorem dX12_harmOf_2 : decode cX12_harmOf 2 = .ok (.iconst 0, 1) := by decide +kernel
theorem dX12_harmOf_3 : decode cX12_harmOf 3 = .ok (.istore_n 3, 1) := by decide +kernel
theorem dX12_harmOf_4 : decode cX12_harmOf 4 = .ok (.iload_n 3, 1) := by decide +kernel
theorem dX12_harmOf_5 : decode cX12_harmOf 5 = .ok (.aload_n 0, 1) := by decide +kernel
theorem dX12_harmOf_6 : decode cX12_harmOf 6 = .ok (.invokevirtual 367, 3) := by decide +kernel
theorem dX12_harmOf_9 : decode cX12_harmOf 9 = .ok (.if_icmp .ge 30, 3) := by decide +kernel
theorem dX12_harmOf_12 : decode cX12_harmOf 12 = .ok (.iload_n 1, 1) := by decide +kernel
theorem dX12_harmOf_13 : decode cX12_harmOf 13 = .ok (.iload_n 3, 1) := by decide +kernel
theorem dX12_harmOf_14 : decode cX12_harmOf 14 = .ok (.ishr, 1) := by decide +kernel
theorem dX12_harmOf_15 : decode cX12_harmOf 15 = .ok (.iconst 1, 1) := by decide +kernel
theorem dX12_harmOf_16 : decode cX12_harmOf 16 = .ok (.iand, 1) := by decide +kernel
theorem dX12_harmOf_17 : decode cX12_harmOf 17 = .ok (.iconst 1, 1) := by decide +kernel
theorem dX12_harmOf_18 : decode cX12_harmOf 18 = .ok (.if_icmp .ne 15, 3) := by decide +kernel
theorem dX12_harmOf_21 : decode cX12_harmOf 21 = .ok (.iload_n 2, 1) := by decide +kernel
theorem dX12_harmOf_22 : decode cX12_harmOf 22 = .ok (.aload_n 0, 1) := by decide +kernel
theorem dX12_harmOf_23 : decode cX12_harmOf 23 = .ok (.getfield 97, 3) := by decide +kernel
theorem dX12_harmOf_26 : decode cX12_harmOf 26 = .ok (.bipush 6, 2) := by decide +kernel
theorem dX12_harmOf_28 : decode cX12_harmOf 28 = .ok (.iload_n 3, 1) := by decide +kernel
theorem dX12_harmOf_29 : decode cX12_harmOf 29 = .ok (.iadd, 1) := by decide +kernel
theorem dX12_harmOf_30 : decode cX12_harmOf 30 = .ok (.iaload, 1) := by decide +kernel
theorem dX12_harmOf_31 : decode cX12_harmOf 31 = .ok (.iadd, 1) := by decide +kernel
theorem dX12_harmOf_32 : decode cX12_harmOf 32 = .ok (.istore_n 2, 1) := by decide +kernel
theorem dX12_harmOf_33 : decode cX12_harmOf 33 = .ok (.iinc 3 1, 3) := by decide +kernel
theorem dX12_harmOf_36 : decode cX12_harmOf 36 = .ok (.goto (-32), 3) := by decide +kernel
theorem dX12_harmOf_39 : decode cX12_harmOf 39 = .ok (.iload_n 2, 1) := by decide +kernel
theorem dX12_harmOf_40 : decode cX12_harmOf 40 = .ok (.ireturn, 1) := by decide +kernel
def E_X12_harmOf_l4 (h : KH) (v0 : Nat) (v1 : Int32) : Int32 → Nat → List (Nat × Value) → List Value → KH → Prop := fun (e : Int32) pc ls st hh => pc = 39 ∧ ls = [(2, .int e)] ∧ st = [] ∧ h = hh
def B_X12_harmOf_l4 (h : KH) (v0 : Nat) (v1 : Int32) : ((Int32 × Int32) ⊕ (Int32)) → Nat → List (Nat × Value) → List Value → KH → Prop := Sum.elim (fun (s : Int32 × Int32) pc ls st hh => pc = 4 ∧ ls = [(0, .ref v0), (1, .int v1), (2, .int s.1), (3, .int s.2)] ∧ st = [] ∧ hh = h) (E_X12_harmOf_l4 h v0 v1)
def f_X12_harmOf_b33 (h : KH) (v0 : Nat) (v1 : Int32) (v2 : Int32) (v3 : Int32) : Option ((Int32 × Int32) ⊕ (Int32)) :=
  kl (v3 + (1 : Int32)) fun x1 =>
  some (.inl (v2, x1))
set_option maxHeartbeats 4000000 in
set_option maxRecDepth 100000 in
theorem s_X12_harmOf_b33 {Z : Nat → (Nat → Nat) → State → Prop} (h : KH) (v0 : Nat) (v1 : Int32) (v2 : Int32) (v3 : Int32) {t : (Int32 × Int32) ⊕ (Int32)} (hn : h.1 = 243) (H : f_X12_harmOf_b33 h v0 v1 v2 v3 = some t) : KX Z RX12 cX12_harmOf 4 false 2 (B_X12_harmOf_l4 h v0 v1 t) 33 [(0, .ref v0), (1, .int v1), (2, .int v2), (3, .int v3)] [] h := by
  unfold f_X12_harmOf_b33 at H
  replace H := kle H; obtain ⟨x1, q2, H⟩ := H
  refine x_iinc (q := 36) (i := 3) (ls2 := [(3, .int x1), (0, .ref v0), (1, .int v1), (2, .int v2)]) dX12_harmOf_33 rfl rfl (by decide) (by rw [q2]; rfl) ?_
  refine x_goto dX12_harmOf_36 (q := 4) (by decide) ?_
  cases H
  refine x_sub (ls2 := [(0, .ref v0), (1, .int v1), (2, .int v2), (3, .int x1)]) [1, 2, 3, 0] rfl ?_
  exact x_end (x_cfg rfl)
def f_X12_harmOf_l4 (h : KH) (v0 : Nat) (v1 : Int32) (s : Int32 × Int32) : Option ((Int32 × Int32) ⊕ (Int32)) :=
  if kkind v0 = 12 then kb (f_X12_testMany h v0) fun r2 =>
  if r2 ≤ s.2 then
  some (.inr s.1)
  else
  if ((v1 >>> (s.2 &&& 31)) &&& (1 : Int32)) = (1 : Int32) then
  if (kR h v0 36) < 999999 then if kkind (kR h v0 36) = 20 then if (((6 : Int32) + s.2) < 0 ∨ klen (kR h v0 36) ≤ (((6 : Int32) + s.2)).toNatClampNeg) then none else kl (s.1 + (kI h (kR h v0 36) ((((6 : Int32) + s.2)).toNatClampNeg))) fun x10 =>
  f_X12_harmOf_b33 h v0 v1 x10 s.2 else none else none
  else
  f_X12_harmOf_b33 h v0 v1 s.1 s.2 else none
set_option maxHeartbeats 4000000 in
set_option maxRecDepth 100000 in
theorem s_X12_harmOf_l4 {Z : Nat → (Nat → Nat) → State → Prop} (h : KH) (v0 : Nat) (v1 : Int32) (s : Int32 × Int32) (t : (Int32 × Int32) ⊕ (Int32)) (hn : (h).1 = 243) (H : f_X12_harmOf_l4 h v0 v1 s = some t) : KX Z RX12 cX12_harmOf 4 false 2 (B_X12_harmOf_l4 h v0 v1 t) 4 [(0, .ref v0), (1, .int v1), (2, .int s.1), (3, .int s.2)] [] h := by
  unfold f_X12_harmOf_l4 at H
  refine x_iload_n (q := 5) dX12_harmOf_4 rfl rfl ?_
  refine x_aload_n (q := 6) dX12_harmOf_5 rfl rfl ?_
  replace H := kif H; obtain ⟨g1, H⟩ := H
  replace H := kbe H; obtain ⟨r2, c3, H⟩ := H
  have m4 := s_X12_testMany (Z := Z) h v0 hn c3
  refine x_callV (q := 9) (as := []) (rest := [.int s.2]) dX12_harmOf_6 rfl kc_RX12_367 kh_X12_testMany (by decide) (Nat.le_of_ble_eq_true rfl) m4 (ci := 12) (by exact ⟨rfl, by decide⟩) (k243 g1 (by decide) hn) ?_
  replace H := kite H; rcases H with ⟨g5, H⟩ | ⟨g5, H⟩
  · refine x_icmp_ge_t dX12_harmOf_9 (q := 39) (by decide) g5 ?_
    cases H
    refine x_sub (ls2 := [(2, .int s.1)]) [2] rfl ?_
    exact x_end (x_cfg rfl)
  · refine x_icmp_ge_f (q := 12) dX12_harmOf_9 (t := 39) (by decide) rfl g5 ?_
    refine x_iload_n (q := 13) dX12_harmOf_12 rfl rfl ?_
    refine x_iload_n (q := 14) dX12_harmOf_13 rfl rfl ?_
    refine x_ishr (q := 15) dX12_harmOf_14 rfl ?_
    refine x_iconst (q := 16) (v := (1 : Int32)) dX12_harmOf_15 rfl (by decide) ?_
    refine x_iand (q := 17) dX12_harmOf_16 rfl ?_
    refine x_iconst (q := 18) (v := (1 : Int32)) dX12_harmOf_17 rfl (by decide) ?_
    replace H := kite H; rcases H with ⟨g6, H⟩ | ⟨g6, H⟩
    · refine x_icmp_ne_f (q := 21) dX12_harmOf_18 (t := 33) (by decide) rfl g6 ?_
      refine x_iload_n (q := 22) dX12_harmOf_21 rfl rfl ?_
      refine x_aload_n (q := 23) dX12_harmOf_22 rfl rfl ?_
      replace H := kif H; obtain ⟨g7, H⟩ := H
      refine x_getR (q := 26) dX12_harmOf_23 rfl kl_RX12_97 rfl (k243 g1 (by decide) hn) g7 ?_
      refine x_bipush (q := 28) (v := (6 : Int32)) dX12_harmOf_26 rfl (by decide) ?_
      refine x_iload_n (q := 29) dX12_harmOf_28 rfl rfl ?_
      refine x_iadd (q := 30) dX12_harmOf_29 rfl ?_
      replace H := kif H; obtain ⟨g8, H⟩ := H
      replace H := kifn H; obtain ⟨g9, H⟩ := H
      refine x_iald (q := 31) dX12_harmOf_30 rfl (k243 g8 (by decide) hn) g9 ?_
      refine x_iadd (q := 32) dX12_harmOf_31 rfl ?_
      replace H := kle H; obtain ⟨x10, q11, H⟩ := H
      refine x_nmI q11 ?_
      refine x_istore_n (q := 33) (i := 2) (ls2 := [(2, .int x10), (0, .ref v0), (1, .int v1), (3, .int s.2)]) dX12_harmOf_32 rfl rfl (by decide) rfl ?_
      refine x_sub (ls2 := [(0, .ref v0), (1, .int v1), (2, .int x10), (3, .int s.2)]) [1, 2, 0, 3] rfl ?_
      exact s_X12_harmOf_b33 h v0 v1 x10 s.2 hn H
    · refine x_icmp_ne_t dX12_harmOf_18 (q := 33) (by decide) g6 ?_
      refine x_sub (ls2 := [(0, .ref v0), (1, .int v1), (2, .int s.1), (3, .int s.2)]) [0, 1, 2, 3] rfl ?_
      exact s_X12_harmOf_b33 h v0 v1 s.1 s.2 hn H
theorem sl_X12_harmOf_l4 {Z : Nat → (Nat → Nat) → State → Prop} (h : KH) (v0 : Nat) (v1 : Int32) (n : Nat) (s : Int32 × Int32) (r : Int32) (hn : (h).1 = 243) (H : kloop (f_X12_harmOf_l4 h v0 v1) n s = some r) : KX Z RX12 cX12_harmOf 4 false 2 (E_X12_harmOf_l4 h v0 v1 r) 4 [(0, .ref v0), (1, .int v1), (2, .int s.1), (3, .int s.2)] [] h :=
  k_loop (ls := (fun (s : Int32 × Int32) => ([(0, .ref v0), (1, .int v1), (2, .int s.1), (3, .int s.2)] : List (Nat × Value)))) (hp := (fun (s : Int32 × Int32) => (h : KH))) (G := E_X12_harmOf_l4 h v0 v1) (fun s t hn H => s_X12_harmOf_l4 h v0 v1 s t hn H) n s r hn H
def f_X12_harmOf (h : KH) (v0 : Nat) (v1 : Int32) : Option (Int32) :=
  kb (kloop (f_X12_harmOf_l4 h v0 v1) KF ((0 : Int32), (0 : Int32))) fun e1 =>
  some e1
set_option maxHeartbeats 4000000 in
set_option maxRecDepth 100000 in
theorem s0_X12_harmOf {Z : Nat → (Nat → Nat) → State → Prop} (h : KH) (v0 : Nat) (v1 : Int32) {t : Int32} (hn : h.1 = 243) (H : f_X12_harmOf h v0 v1 = some t) : KX Z RX12 cX12_harmOf 4 false 2 (KRi cX12_harmOf t h) 0 [(0, .ref v0), (1, .int v1)] [] h := by
  unfold f_X12_harmOf at H
  refine x_iconst (q := 1) (v := (0 : Int32)) dX12_harmOf_0 rfl (by decide) ?_
  refine x_istore_n (q := 2) (i := 2) (ls2 := [(2, .int (0 : Int32)), (0, .ref v0), (1, .int v1)]) dX12_harmOf_1 rfl rfl (by decide) rfl ?_
  refine x_iconst (q := 3) (v := (0 : Int32)) dX12_harmOf_2 rfl (by decide) ?_
  refine x_istore_n (q := 4) (i := 3) (ls2 := [(3, .int (0 : Int32)), (2, .int (0 : Int32)), (0, .ref v0), (1, .int v1)]) dX12_harmOf_3 rfl rfl (by decide) rfl ?_
  refine x_sub (ls2 := [(0, .ref v0), (1, .int v1), (2, .int (0 : Int32)), (3, .int (0 : Int32))]) [2, 3, 1, 0] rfl ?_
  replace H := kbe H; obtain ⟨e1, c2, H⟩ := H
  refine x_app (sl_X12_harmOf_l4 h v0 v1 KF ((0 : Int32), (0 : Int32)) e1 hn c2) fun pc2 ls2 st2 h2 hg m3 => ?_
  obtain ⟨rfl, rfl, rfl, rfl⟩ := hg
  refine x_iload_n (q := 40) dX12_harmOf_39 rfl rfl ?_
  cases H
  exact x_end ⟨dX12_harmOf_40, rfl, rfl⟩
theorem s_X12_harmOf {Z : Nat → (Nat → Nat) → State → Prop} (h : KH) (v0 : Nat) (v1 : Int32) {t : Int32} (hn : h.1 = 243) (H : f_X12_harmOf h v0 v1 = some t) : KM Z yX12_harmOf cX12_harmOf 4 (some .int) 2 [.ref v0, .int v1] h (some (.int t)) h :=
  kx_i (own := RX12) (ini := false) (by decide +kernel) (by decide +kernel) rfl (Nat.le_of_ble_eq_true rfl) (s0_X12_harmOf h v0 v1 hn H)
theorem dX12_meritOf_0 : decode cX12_meritOf 0 = .ok (.aload_n 0, 1) := by decide +kernel
theorem dX12_meritOf_1 : decode cX12_meritOf 1 = .ok (.aload_n 0, 1) := by decide +kernel
theorem dX12_meritOf_2 : decode cX12_meritOf 2 = .ok (.iload_n 1, 1) := by decide +kernel
theorem dX12_meritOf_3 : decode cX12_meritOf 3 = .ok (.invokevirtual 438, 3) := by decide +kernel
theorem dX12_meritOf_6 : decode cX12_meritOf 6 = .ok (.invokevirtual 442, 3) := by decide +kernel
theorem dX12_meritOf_9 : decode cX12_meritOf 9 = .ok (.i2l, 1) := by decide +kernel
theorem dX12_meritOf_10 : decode cX12_meritOf 10 = .ok (.aload_n 0, 1) := by decide +kernel
theorem dX12_meritOf_11 : decode cX12_meritOf 11 = .ok (.iload_n 1, 1) := by decide +kernel
theorem dX12_meritOf_12 : decode cX12_meritOf 12 = .ok (.invokevirtual 446, 3) := by decide +kernel
theorem dX12_meritOf_15 : decode cX12_meritOf 15 = .ok (.i2l, 1) := by decide +kernel
theorem dX12_meritOf_16 : decode cX12_meritOf 16 = .ok (.aload_n 0, 1) := by decide +kernel
theorem dX12_meritOf_17 : decode cX12_meritOf 17 = .ok (.getfield 103, 3) := by decide +kernel
theorem dX12_meritOf_20 : decode cX12_meritOf 20 = .ok (.iconst 3, 1) := by decide +kernel
theorem dX12_meritOf_21 : decode cX12_meritOf 21 = .ok (.iaload, 1) := by decide +kernel
theorem dX12_meritOf_22 : decode cX12_meritOf 22 = .ok (.i2l, 1) := by decide +kernel
theorem dX12_meritOf_23 : decode cX12_meritOf 23 = .ok (.lmul, 1) := by decide +kernel
theorem dX12_meritOf_24 : decode cX12_meritOf 24 = .ok (.lsub, 1) := by decide +kernel
theorem dX12_meritOf_25 : decode cX12_meritOf 25 = .ok (.lreturn, 1) := by decide +kernel
theorem kc_RX12_438 : Cond.methodLink RX12 438 yX12_rightBy ∈ ktG ∧ (Cond.instanceMethod yX12_rightBy ∈ ktG ∧ Cond.selects yX12_rightBy.cls yX12_rightBy yX12_rightBy ∈ ktG) ∧ Cond.initialized yX12_rightBy.cls ∈ ktG ∧ Cond.code yX12_rightBy cX12_rightBy 7 (some .long) ∈ ktG := ⟨(kwm 1834 (by decide +kernel) (by decide +kernel)), ⟨(kwm 1836 (by decide +kernel) (by decide +kernel)), (kwm 97 (by decide +kernel) (by decide +kernel))⟩, (kwm 139 (by decide +kernel) (by decide +kernel)), kwm 1837 (by decide +kernel) (by decide +kernel)⟩
theorem kh_X12_rightBy : yX12_rightBy.cls ≠ "java/lang/invoke/MethodHandle" ∧ yX12_rightBy.cls ≠ "java/lang/invoke/VarHandle" ∧ (parseMethodDescriptor yX12_rightBy.desc).map (fun d => d.parameters.length) = some 1 := by decide +kernel
theorem kc_RX12_442 : Cond.methodLink RX12 442 yX12_millionths ∈ ktG ∧ (Cond.instanceMethod yX12_millionths ∈ ktG ∧ Cond.selects yX12_millionths.cls yX12_millionths yX12_millionths ∈ ktG) ∧ Cond.initialized yX12_millionths.cls ∈ ktG ∧ Cond.code yX12_millionths cX12_millionths 7 (some .int) ∈ ktG := ⟨(kwm 1809 (by decide +kernel) (by decide +kernel)), ⟨(kwm 1811 (by decide +kernel) (by decide +kernel)), (kwm 94 (by decide +kernel) (by decide +kernel))⟩, (kwm 139 (by decide +kernel) (by decide +kernel)), kwm 1812 (by decide +kernel) (by decide +kernel)⟩
theorem kh_X12_millionths : yX12_millionths.cls ≠ "java/lang/invoke/MethodHandle" ∧ yX12_millionths.cls ≠ "java/lang/invoke/VarHandle" ∧ (parseMethodDescriptor yX12_millionths.desc).map (fun d => d.parameters.length) = some 1 := by decide +kernel
theorem kc_RX12_446 : Cond.methodLink RX12 446 yX12_harmOf ∈ ktG ∧ (Cond.instanceMethod yX12_harmOf ∈ ktG ∧ Cond.selects yX12_harmOf.cls yX12_harmOf yX12_harmOf ∈ ktG) ∧ Cond.initialized yX12_harmOf.cls ∈ ktG ∧ Cond.code yX12_harmOf cX12_harmOf 4 (some .int) ∈ ktG := ⟨(kwm 1841 (by decide +kernel) (by decide +kernel)), ⟨(kwm 1843 (by decide +kernel) (by decide +kernel)), (kwm 98 (by decide +kernel) (by decide +kernel))⟩, (kwm 139 (by decide +kernel) (by decide +kernel)), kwm 1844 (by decide +kernel) (by decide +kernel)⟩
theorem kh_X12_harmOf : yX12_harmOf.cls ≠ "java/lang/invoke/MethodHandle" ∧ yX12_harmOf.cls ≠ "java/lang/invoke/VarHandle" ∧ (parseMethodDescriptor yX12_harmOf.desc).map (fun d => d.parameters.length) = some 1 := by decide +kernel
def f_X12_meritOf (h : KH) (v0 : Nat) (v1 : Int32) : Option (Int64 × KH) :=
  if kkind v0 = 12 then kb (f_X12_rightBy h v0 v1) fun r2 =>
  kb (f_X12_millionths r2.2 v0 r2.1) fun r6 =>
  kb (f_X12_harmOf r2.2 v0 v1) fun r9 =>
  if (kR r2.2 v0 38) < 999999 then if kkind (kR r2.2 v0 38) = 20 then if klen (kR r2.2 v0 38) ≤ 3 then none else some ((((r6).toInt64) - (((r9).toInt64) * (((kI r2.2 (kR r2.2 v0 38) 3)).toInt64))), r2.2) else none else none else none
set_option maxHeartbeats 4000000 in
set_option maxRecDepth 100000 in
theorem s0_X12_meritOf {Z : Nat → (Nat → Nat) → State → Prop} (h : KH) (v0 : Nat) (v1 : Int32) {t : Int64 × KH} (hn : h.1 = 243) (H : f_X12_meritOf h v0 v1 = some t) : KX Z RX12 cX12_meritOf 2 false 3 (KRl cX12_meritOf t.1 t.2) 0 [(0, .ref v0), (1, .int v1)] [] h := by
  unfold f_X12_meritOf at H
  refine x_aload_n (q := 1) dX12_meritOf_0 rfl rfl ?_
  refine x_aload_n (q := 2) dX12_meritOf_1 rfl rfl ?_
  refine x_iload_n (q := 3) dX12_meritOf_2 rfl rfl ?_
  replace H := kif H; obtain ⟨g1, H⟩ := H
  replace H := kbe H; obtain ⟨r2, c3, H⟩ := H
  have m4 := s_X12_rightBy (Z := Z) h v0 v1 hn c3
  refine x_callV (q := 6) (as := [.int v1]) (rest := [.ref v0]) dX12_meritOf_3 rfl kc_RX12_438 kh_X12_rightBy (by decide) (Nat.le_of_ble_eq_true rfl) m4 (ci := 12) (by exact ⟨rfl, by decide⟩) (k243 g1 (by decide) hn) ?_
  have n5 : (r2.2).1 = 243 := m4.1.full hn
  replace H := kbe H; obtain ⟨r6, c7, H⟩ := H
  have m8 := s_X12_millionths (Z := Z) r2.2 v0 r2.1 n5 c7
  refine x_callV (q := 9) (as := [.long r2.1]) (rest := []) dX12_meritOf_6 rfl kc_RX12_442 kh_X12_millionths (by decide) (Nat.le_of_ble_eq_true rfl) m8 (ci := 12) (by exact ⟨rfl, by decide⟩) (k243 g1 (by decide) n5) ?_
  refine x_i2l (q := 10) dX12_meritOf_9 rfl ?_
  refine x_aload_n (q := 11) dX12_meritOf_10 rfl rfl ?_
  refine x_iload_n (q := 12) dX12_meritOf_11 rfl rfl ?_
  replace H := kbe H; obtain ⟨r9, c10, H⟩ := H
  have m11 := s_X12_harmOf (Z := Z) r2.2 v0 v1 n5 c10
  refine x_callV (q := 15) (as := [.int v1]) (rest := [.long ((r6).toInt64)]) dX12_meritOf_12 rfl kc_RX12_446 kh_X12_harmOf (by decide) (Nat.le_of_ble_eq_true rfl) m11 (ci := 12) (by exact ⟨rfl, by decide⟩) (k243 g1 (by decide) n5) ?_
  refine x_i2l (q := 16) dX12_meritOf_15 rfl ?_
  refine x_aload_n (q := 17) dX12_meritOf_16 rfl rfl ?_
  replace H := kif H; obtain ⟨g12, H⟩ := H
  refine x_getR (q := 20) dX12_meritOf_17 rfl kl_RX12_103 rfl (k243 g1 (by decide) n5) g12 ?_
  refine x_iconst (q := 21) (v := (3 : Int32)) dX12_meritOf_20 rfl (by decide) ?_
  replace H := kif H; obtain ⟨g13, H⟩ := H
  replace H := kifn H; obtain ⟨g14, H⟩ := H
  refine x_iald (q := 22) dX12_meritOf_21 rfl (k243 g13 (by decide) n5) (fun z => z.elim (by decide) g14) ?_
  refine x_i2l (q := 23) dX12_meritOf_22 rfl ?_
  refine x_lmul (q := 24) dX12_meritOf_23 rfl ?_
  refine x_lsub (q := 25) dX12_meritOf_24 rfl ?_
  cases H
  exact x_end ⟨dX12_meritOf_25, rfl, rfl⟩
theorem s_X12_meritOf {Z : Nat → (Nat → Nat) → State → Prop} (h : KH) (v0 : Nat) (v1 : Int32) {t : Int64 × KH} (hn : h.1 = 243) (H : f_X12_meritOf h v0 v1 = some t) : KM Z yX12_meritOf cX12_meritOf 2 (some .long) 3 [.ref v0, .int v1] h (some (.long t.1)) t.2 :=
  kx_l (own := RX12) (ini := false) (by decide +kernel) (by decide +kernel) rfl (Nat.le_of_ble_eq_true rfl) (s0_X12_meritOf h v0 v1 hn H)
theorem dX12_bits_0 : decode cX12_bits 0 = .ok (.iconst 0, 1) := by decide +kernel
theorem dX12_bits_1 : decode cX12_bits 1 = .ok (.istore_n 1, 1) := by decide +kernel
theorem dX12_bits_2 : decode cX12_bits 2 = .ok (.iload_n 0, 1) := by decide +kernel
theorem dX12_bits_3 : decode cX12_bits 3 = .ok (.istore_n 2, 1) := by decide +kernel
theorem dX12_bits_4 : decode cX12_bits 4 = .ok (.iload_n 2, 1) := by decide +kernel
theorem dX12_bits_5 : decode cX12_bits 5 = .ok (.ifCond .eq 15, 3) := by decide +kernel
theorem dX12_bits_8 : decode cX12_bits 8 = .ok (.iinc 1 1, 3) := by decide +kernel
theorem dX12_bits_11 : decode cX12_bits 11 = .ok (.iload_n 2, 1) := by decide +kernel
theorem dX12_bits_12 : decode cX12_bits 12 = .ok (.iload_n 2, 1) := by decide +kernel
theorem dX12_bits_13 : decode cX12_bits 13 = .ok (.iconst 1, 1) := by decide +kernel
theorem dX12_bits_14 : decode cX12_bits 14 = .ok (.isub, 1) := by decide +kernel
theorem dX12_bits_15 : decode cX12_bits 15 = .ok (.iand, 1) := by decide +kernel
theorem dX12_bits_16 : decode cX12_bits 16 = .ok (.istore_n 2, 1) := by decide +kernel
theorem dX12_bits_17 : decode cX12_bits 17 = .ok (.goto (-13), 3) := by decide +kernel
theorem dX12_bits_20 : decode cX12_bits 20 = .ok (.iload_n 1, 1) := by decide +kernel
theorem dX12_bits_21 : decode cX12_bits 21 = .ok (.ireturn, 1) := by decide +kernel
def E_X12_bits_l4 (h : KH) : Int32 → Nat → List (Nat × Value) → List Value → KH → Prop := fun (e : Int32) pc ls st hh => pc = 20 ∧ ls = [(1, .int e)] ∧ st = [] ∧ h = hh
def B_X12_bits_l4 (h : KH) : ((Int32 × Int32) ⊕ (Int32)) → Nat → List (Nat × Value) → List Value → KH → Prop := Sum.elim (fun (s : Int32 × Int32) pc ls st hh => pc = 4 ∧ ls = [(1, .int s.1), (2, .int s.2)] ∧ st = [] ∧ hh = h) (E_X12_bits_l4 h)
def f_X12_bits_l4 (h : KH) (s : Int32 × Int32) : Option ((Int32 × Int32) ⊕ (Int32)) :=
  if s.2 = 0 then
  some (.inr s.1)
  else
  kl (s.1 + (1 : Int32)) fun x2 =>
  kl (s.2 &&& (s.2 - (1 : Int32))) fun x4 =>
  some (.inl (x2, x4))
set_option maxHeartbeats 4000000 in
set_option maxRecDepth 100000 in
theorem s_X12_bits_l4 {Z : Nat → (Nat → Nat) → State → Prop} (h : KH) (s : Int32 × Int32) (t : (Int32 × Int32) ⊕ (Int32)) (hn : (h).1 = 243) (H : f_X12_bits_l4 h s = some t) : KX Z RX12 cX12_bits 3 false 1 (B_X12_bits_l4 h t) 4 [(1, .int s.1), (2, .int s.2)] [] h := by
  unfold f_X12_bits_l4 at H
  refine x_iload_n (q := 5) dX12_bits_4 rfl rfl ?_
  replace H := kite H; rcases H with ⟨g1, H⟩ | ⟨g1, H⟩
  · refine x_if_eq_t dX12_bits_5 (q := 20) (by decide) g1 ?_
    cases H
    refine x_sub (ls2 := [(1, .int s.1)]) [0] rfl ?_
    exact x_end (x_cfg rfl)
  · refine x_if_eq_f (q := 8) dX12_bits_5 (t := 20) (by decide) rfl g1 ?_
    replace H := kle H; obtain ⟨x2, q3, H⟩ := H
    refine x_iinc (q := 11) (i := 1) (ls2 := [(1, .int x2), (2, .int s.2)]) dX12_bits_8 rfl rfl (by decide) (by rw [q3]; rfl) ?_
    refine x_iload_n (q := 12) dX12_bits_11 rfl rfl ?_
    refine x_iload_n (q := 13) dX12_bits_12 rfl rfl ?_
    refine x_iconst (q := 14) (v := (1 : Int32)) dX12_bits_13 rfl (by decide) ?_
    refine x_isub (q := 15) dX12_bits_14 rfl ?_
    refine x_iand (q := 16) dX12_bits_15 rfl ?_
    replace H := kle H; obtain ⟨x4, q5, H⟩ := H
    refine x_nmI q5 ?_
    refine x_istore_n (q := 17) (i := 2) (ls2 := [(2, .int x4), (1, .int x2)]) dX12_bits_16 rfl rfl (by decide) rfl ?_
    refine x_goto dX12_bits_17 (q := 4) (by decide) ?_
    cases H
    refine x_sub (ls2 := [(1, .int x2), (2, .int x4)]) [1, 0] rfl ?_
    exact x_end (x_cfg rfl)
theorem sl_X12_bits_l4 {Z : Nat → (Nat → Nat) → State → Prop} (h : KH) (n : Nat) (s : Int32 × Int32) (r : Int32) (hn : (h).1 = 243) (H : kloop (f_X12_bits_l4 h) n s = some r) : KX Z RX12 cX12_bits 3 false 1 (E_X12_bits_l4 h r) 4 [(1, .int s.1), (2, .int s.2)] [] h :=
  k_loop (ls := (fun (s : Int32 × Int32) => ([(1, .int s.1), (2, .int s.2)] : List (Nat × Value)))) (hp := (fun (s : Int32 × Int32) => (h : KH))) (G := E_X12_bits_l4 h) (fun s t hn H => s_X12_bits_l4 h s t hn H) n s r hn H
def f_X12_bits (h : KH) (v0 : Int32) : Option (Int32) :=
  kb (kloop (f_X12_bits_l4 h) KF ((0 : Int32), v0)) fun e1 =>
  some e1
set_option maxHeartbeats 4000000 in
set_option maxRecDepth 100000 in
theorem s0_X12_bits {Z : Nat → (Nat → Nat) → State → Prop} (h : KH) (v0 : Int32) {t : Int32} (hn : h.1 = 243) (H : f_X12_bits h v0 = some t) : KX Z RX12 cX12_bits 3 false 1 (KRi cX12_bits t h) 0 [(0, .int v0)] [] h := by
  unfold f_X12_bits at H
  refine x_iconst (q := 1) (v := (0 : Int32)) dX12_bits_0 rfl (by decide) ?_
  refine x_istore_n (q := 2) (i := 1) (ls2 := [(1, .int (0 : Int32)), (0, .int v0)]) dX12_bits_1 rfl rfl (by decide) rfl ?_
  refine x_iload_n (q := 3) dX12_bits_2 rfl rfl ?_
  refine x_istore_n (q := 4) (i := 2) (ls2 := [(2, .int v0), (1, .int (0 : Int32)), (0, .int v0)]) dX12_bits_3 rfl rfl (by decide) rfl ?_
  refine x_sub (ls2 := [(1, .int (0 : Int32)), (2, .int v0)]) [1, 0] rfl ?_
  replace H := kbe H; obtain ⟨e1, c2, H⟩ := H
  refine x_app (sl_X12_bits_l4 h KF ((0 : Int32), v0) e1 hn c2) fun pc2 ls2 st2 h2 hg m3 => ?_
  obtain ⟨rfl, rfl, rfl, rfl⟩ := hg
  refine x_iload_n (q := 21) dX12_bits_20 rfl rfl ?_
  cases H
  exact x_end ⟨dX12_bits_21, rfl, rfl⟩
theorem s_X12_bits {Z : Nat → (Nat → Nat) → State → Prop} (h : KH) (v0 : Int32) {t : Int32} (hn : h.1 = 243) (H : f_X12_bits h v0 = some t) : KM Z yX12_bits cX12_bits 3 (some .int) 1 [.int v0] h (some (.int t)) h :=
  kx_i (own := RX12) (ini := false) (by decide +kernel) (by decide +kernel) rfl (Nat.le_of_ble_eq_true rfl) (s0_X12_bits h v0 hn H)
theorem dX12_bestSet_0 : decode cX12_bestSet 0 = .ok (.iconst 0, 1) := by decide +kernel
theorem dX12_bestSet_1 : decode cX12_bestSet 1 = .ok (.istore_n 2, 1) := by decide +kernel
theorem dX12_bestSet_2 : decode cX12_bestSet 2 = .ok (.aload_n 0, 1) := by decide +kernel
theorem dX12_bestSet_3 : decode cX12_bestSet 3 = .ok (.iconst 0, 1) := by decide +kernel
theorem dX12_bestSet_4 : decode cX12_bestSet 4 = .ok (.invokevirtual 449, 3) := by decide +kernel
theorem dX12_bestSet_7 : decode cX12_bestSet 7 = .ok (.lstore_n 3, 1) := by decide +kernel
theorem dX12_bestSet_8 : decode cX12_bestSet 8 = .ok (.iconst 1, 1) := by decide +kernel
theorem dX12_bestSet_9 : decode cX12_bestSet 9 = .ok (.istore 5, 2) := by decide +kernel
theorem dX12_bestSet_11 : decode cX12_bestSet 11 = .ok (.iload 5, 2) := by decide +kernel
theorem dX12_bestSet_13 : decode cX12_bestSet 13 = .ok (.iload_n 1, 1) := by decide +kernel
theorem dX12_bestSet_14 : decode cX12_bestSet 14 = .ok (.if_icmp .gt 64, 3) := by decide +kernel
theorem dX12_bestSet_17 : decode cX12_bestSet 17 = .ok (.iload 5, 2) := by decide +kernel
theorem dX12_bestSet_19 : decode cX12_bestSet 19 = .ok (.iload_n 1, 1) := by decide +kernel
theorem dX12_bestSet_20 : decode cX12_bestSet 20 = .ok (.iconst (-1), 1) := by decide +kernel
theorem dX12_bestSet_21 : decode cX12_bestSet 21 = .ok (.ixor, 1) := by decide +kernel
theorem dX12_bestSet_22 : decode cX12_bestSet 22 = .ok (.iand, 1) := by decide +kernel
theorem dX12_bestSet_23 : decode cX12_bestSet 23 = .ok (.ifCond .eq 6, 3) := by decide +kernel
theorem dX12_bestSet_26 : decode cX12_bestSet 26 = .ok (.goto 46, 3) := by decide +kernel
theorem dX12_bestSet_29 : decode cX12_bestSet 29 = .ok (.aload_n 0, 1) := by decide +kernel
theorem dX12_bestSet_30 : decode cX12_bestSet 30 = .ok (.iload 5, 2) := by decide +kernel
theorem dX12_bestSet_32 : decode cX12_bestSet 32 = .ok (.invokevirtual 449, 3) := by decide +kernel
theorem dX12_bestSet_35 : decode cX12_bestSet 35 = .ok (.lstore 6, 2) := by decide +kernel
theorem dX12_bestSet_37 : decode cX12_bestSet 37 = .ok (.lload 6, 2) := by decide +kernel
theorem dX12_bestSet_39 : decode cX12_bestSet 39 = .ok (.lload_n 3, 1) := by decide +kernel
theorem dX12_bestSet_40 : decode cX12_bestSet 40 = .ok (.lcmp, 1) := by decide +kernel
theorem dX12_bestSet_41 : decode cX12_bestSet 41 = .ok (.ifCond .lt 31, 3) := by decide +kernel
theorem dX12_bestSet_44 : decode cX12_bestSet 44 = .ok (.lload 6, 2) := by decide +kernel
theorem dX12_bestSet_46 : decode cX12_bestSet 46 = .ok (.lload_n 3, 1) := by decide +kernel
theorem dX12_bestSet_47 : decode cX12_bestSet 47 = .ok (.lcmp, 1) := by decide +kernel
theorem dX12_bestSet_48 : decode cX12_bestSet 48 = .ok (.ifCond .ne 18, 3) := by decide +kernel
theorem dX12_bestSet_51 : decode cX12_bestSet 51 = .ok (.iload 5, 2) := by decide +kernel
theorem dX12_bestSet_53 : decode cX12_bestSet 53 = .ok (.invokestatic 452, 3) := by decide +kernel
theorem dX12_bestSet_56 : decode cX12_bestSet 56 = .ok (.iload_n 2, 1) := by decide +kernel
theorem dX12_bestSet_57 : decode cX12_bestSet 57 = .ok (.invokestatic 452, 3) := by decide +kernel
theorem dX12_bestSet_60 : decode cX12_bestSet 60 = .ok (.if_icmp .lt 6, 3) := by decide +kernel
theorem dX12_bestSet_63 : decode cX12_bestSet 63 = .ok (.goto 9, 3) := by decide +kernel
theorem dX12_bestSet_66 : decode cX12_bestSet 66 = .ok (.iload 5, 2) := by decide +kernel
theorem dX12_bestSet_68 : decode cX12_bestSet 68 = .ok (.istore_n 2, 1) := by decide +kernel
theorem dX12_bestSet_69 : decode cX12_bestSet 69 = .ok (.lload 6, 2) := by decide +kernel
theorem dX12_bestSet_71 : decode cX12_bestSet 71 = .ok (.lstore_n 3, 1) := by decide +kernel
theorem dX12_bestSet_72 : decode cX12_bestSet 72 = .ok (.iinc 5 1, 3) := by decide +kernel
theorem dX12_bestSet_75 : decode cX12_bestSet 75 = .ok (.goto (-64), 3) := by decide +kernel
theorem dX12_bestSet_78 : decode cX12_bestSet 78 = .ok (.iload_n 2, 1) := by decide +kernel
theorem dX12_bestSet_79 : decode cX12_bestSet 79 = .ok (.ireturn, 1) := by decide +kernel
theorem kc_RX12_449 : Cond.methodLink RX12 449 yX12_meritOf ∈ ktG ∧ (Cond.instanceMethod yX12_meritOf ∈ ktG ∧ Cond.selects yX12_meritOf.cls yX12_meritOf yX12_meritOf ∈ ktG) ∧ Cond.initialized yX12_meritOf.cls ∈ ktG ∧ Cond.code yX12_meritOf cX12_meritOf 2 (some .long) ∈ ktG := ⟨(kwm 1830 (by decide +kernel) (by decide +kernel)), ⟨(kwm 1832 (by decide +kernel) (by decide +kernel)), (kwm 96 (by decide +kernel) (by decide +kernel))⟩, (kwm 139 (by decide +kernel) (by decide +kernel)), kwm 1833 (by decide +kernel) (by decide +kernel)⟩
theorem kh_X12_meritOf : yX12_meritOf.cls ≠ "java/lang/invoke/MethodHandle" ∧ yX12_meritOf.cls ≠ "java/lang/invoke/VarHandle" ∧ (parseMethodDescriptor yX12_meritOf.desc).map (fun d => d.parameters.length) = some 1 := by decide +kernel
theorem kc_RX12_452 : Cond.methodLink RX12 452 yX12_bits ∈ ktG ∧ Cond.static yX12_bits ∈ ktG ∧ Cond.initialized yX12_bits.cls ∈ ktG ∧ Cond.code yX12_bits cX12_bits 3 (some .int) ∈ ktG := ⟨(kwm 1692 (by decide +kernel) (by decide +kernel)), (kwm 1693 (by decide +kernel) (by decide +kernel)), (kwm 139 (by decide +kernel) (by decide +kernel)), kwm 1694 (by decide +kernel) (by decide +kernel)⟩
theorem kh_X12_bits : yX12_bits.cls ≠ "java/lang/invoke/MethodHandle" ∧ yX12_bits.cls ≠ "java/lang/invoke/VarHandle" ∧ (parseMethodDescriptor yX12_bits.desc).map (fun d => d.parameters.length) = some 1 := by decide +kernel
def E_X12_bestSet_l11 (v0 : Nat) (v1 : Int32) : Int32 × KH → Nat → List (Nat × Value) → List Value → KH → Prop := fun (e : Int32 × KH) pc ls st hh => pc = 78 ∧ ls = [(2, .int e.1)] ∧ st = [] ∧ e.2 = hh
def B_X12_bestSet_l11 (v0 : Nat) (v1 : Int32) : ((Int32 × Int64 × Int32 × KH) ⊕ (Int32 × KH)) → Nat → List (Nat × Value) → List Value → KH → Prop := Sum.elim (fun (s : Int32 × Int64 × Int32 × KH) pc ls st hh => pc = 11 ∧ ls = [(0, .ref v0), (1, .int v1), (2, .int s.1), (3, .long s.2.1), (5, .int s.2.2.1)] ∧ st = [] ∧ hh = s.2.2.2) (E_X12_bestSet_l11 v0 v1)
def f_X12_bestSet_b72 (h : KH) (v0 : Nat) (v1 : Int32) (v2 : Int32) (v3 : Int64) (v5 : Int32) : Option ((Int32 × Int64 × Int32 × KH) ⊕ (Int32 × KH)) :=
  kl (v5 + (1 : Int32)) fun x1 =>
  some (.inl (v2, v3, x1, h))
set_option maxHeartbeats 4000000 in
set_option maxRecDepth 100000 in
theorem s_X12_bestSet_b72 {Z : Nat → (Nat → Nat) → State → Prop} (h : KH) (v0 : Nat) (v1 : Int32) (v2 : Int32) (v3 : Int64) (v5 : Int32) {t : (Int32 × Int64 × Int32 × KH) ⊕ (Int32 × KH)} (hn : h.1 = 243) (H : f_X12_bestSet_b72 h v0 v1 v2 v3 v5 = some t) : KX Z RX12 cX12_bestSet 8 false 4 (B_X12_bestSet_l11 v0 v1 t) 72 [(0, .ref v0), (1, .int v1), (2, .int v2), (3, .long v3), (5, .int v5)] [] h := by
  unfold f_X12_bestSet_b72 at H
  replace H := kle H; obtain ⟨x1, q2, H⟩ := H
  refine x_iinc (q := 75) (i := 5) (ls2 := [(5, .int x1), (0, .ref v0), (1, .int v1), (2, .int v2), (3, .long v3)]) dX12_bestSet_72 rfl rfl (by decide) (by rw [q2]; rfl) ?_
  refine x_goto dX12_bestSet_75 (q := 11) (by decide) ?_
  cases H
  refine x_sub (ls2 := [(0, .ref v0), (1, .int v1), (2, .int v2), (3, .long v3), (5, .int x1)]) [1, 2, 3, 4, 0] rfl ?_
  exact x_end (x_cfg rfl)
def f_X12_bestSet_b66 (h : KH) (v0 : Nat) (v1 : Int32) (v5 : Int32) (v6 : Int64) : Option ((Int32 × Int64 × Int32 × KH) ⊕ (Int32 × KH)) :=
  f_X12_bestSet_b72 h v0 v1 v5 v6 v5
set_option maxHeartbeats 4000000 in
set_option maxRecDepth 100000 in
theorem s_X12_bestSet_b66 {Z : Nat → (Nat → Nat) → State → Prop} (h : KH) (v0 : Nat) (v1 : Int32) (v5 : Int32) (v6 : Int64) {t : (Int32 × Int64 × Int32 × KH) ⊕ (Int32 × KH)} (hn : h.1 = 243) (H : f_X12_bestSet_b66 h v0 v1 v5 v6 = some t) : KX Z RX12 cX12_bestSet 8 false 4 (B_X12_bestSet_l11 v0 v1 t) 66 [(0, .ref v0), (1, .int v1), (5, .int v5), (6, .long v6)] [] h := by
  unfold f_X12_bestSet_b66 at H
  refine x_iload (q := 68) dX12_bestSet_66 rfl rfl ?_
  refine x_istore_n (q := 69) (i := 2) (ls2 := [(2, .int v5), (0, .ref v0), (1, .int v1), (5, .int v5), (6, .long v6)]) dX12_bestSet_68 rfl rfl (by decide) rfl ?_
  refine x_lload (q := 71) dX12_bestSet_69 rfl rfl ?_
  refine x_lstore_n (q := 72) (i := 3) (ls2 := [(3, .long v6), (2, .int v5), (0, .ref v0), (1, .int v1), (5, .int v5), (6, .long v6)]) dX12_bestSet_71 rfl rfl (by decide) rfl ?_
  refine x_sub (ls2 := [(0, .ref v0), (1, .int v1), (2, .int v5), (3, .long v6), (5, .int v5)]) [2, 3, 1, 0, 4] rfl ?_
  exact s_X12_bestSet_b72 h v0 v1 v5 v6 v5 hn H
def f_X12_bestSet_l11 (v0 : Nat) (v1 : Int32) (s : Int32 × Int64 × Int32 × KH) : Option ((Int32 × Int64 × Int32 × KH) ⊕ (Int32 × KH)) :=
  if v1 < s.2.2.1 then
  some (.inr (s.1, s.2.2.2))
  else
  if (s.2.2.1 &&& (v1 ^^^ (-1 : Int32))) = 0 then
  if kkind v0 = 12 then kb (f_X12_meritOf s.2.2.2 v0 s.2.2.1) fun r4 =>
  if (lg_cmp r4.1 s.2.1) < 0 then
  f_X12_bestSet_b72 r4.2 v0 v1 s.1 s.2.1 s.2.2.1
  else
  if (lg_cmp r4.1 s.2.1) = 0 then
  kb (f_X12_bits r4.2 s.2.2.1) fun r10 =>
  kb (f_X12_bits r4.2 s.1) fun r13 =>
  if r10 < r13 then
  f_X12_bestSet_b66 r4.2 v0 v1 s.2.2.1 r4.1
  else
  f_X12_bestSet_b72 r4.2 v0 v1 s.1 s.2.1 s.2.2.1
  else
  f_X12_bestSet_b66 r4.2 v0 v1 s.2.2.1 r4.1 else none
  else
  f_X12_bestSet_b72 s.2.2.2 v0 v1 s.1 s.2.1 s.2.2.1
set_option maxHeartbeats 4000000 in
set_option maxRecDepth 100000 in
theorem s_X12_bestSet_l11 {Z : Nat → (Nat → Nat) → State → Prop} (v0 : Nat) (v1 : Int32) (s : Int32 × Int64 × Int32 × KH) (t : (Int32 × Int64 × Int32 × KH) ⊕ (Int32 × KH)) (hn : (s.2.2.2).1 = 243) (H : f_X12_bestSet_l11 v0 v1 s = some t) : KX Z RX12 cX12_bestSet 8 false 4 (B_X12_bestSet_l11 v0 v1 t) 11 [(0, .ref v0), (1, .int v1), (2, .int s.1), (3, .long s.2.1), (5, .int s.2.2.1)] [] s.2.2.2 := by
  unfold f_X12_bestSet_l11 at H
  refine x_iload (q := 13) dX12_bestSet_11 rfl rfl ?_
  refine x_iload_n (q := 14) dX12_bestSet_13 rfl rfl ?_
  replace H := kite H; rcases H with ⟨g1, H⟩ | ⟨g1, H⟩
  · refine x_icmp_gt_t dX12_bestSet_14 (q := 78) (by decide) g1 ?_
    cases H
    refine x_sub (ls2 := [(2, .int s.1)]) [2] rfl ?_
    exact x_end (x_cfg rfl)
  · refine x_icmp_gt_f (q := 17) dX12_bestSet_14 (t := 78) (by decide) rfl g1 ?_
    refine x_iload (q := 19) dX12_bestSet_17 rfl rfl ?_
    refine x_iload_n (q := 20) dX12_bestSet_19 rfl rfl ?_
    refine x_iconst (q := 21) (v := (-1 : Int32)) dX12_bestSet_20 rfl (by decide) ?_
    refine x_ixor (q := 22) dX12_bestSet_21 rfl ?_
    refine x_iand (q := 23) dX12_bestSet_22 rfl ?_
    replace H := kite H; rcases H with ⟨g2, H⟩ | ⟨g2, H⟩
    · refine x_if_eq_t dX12_bestSet_23 (q := 29) (by decide) g2 ?_
      refine x_aload_n (q := 30) dX12_bestSet_29 rfl rfl ?_
      refine x_iload (q := 32) dX12_bestSet_30 rfl rfl ?_
      replace H := kif H; obtain ⟨g3, H⟩ := H
      replace H := kbe H; obtain ⟨r4, c5, H⟩ := H
      have m6 := s_X12_meritOf (Z := Z) s.2.2.2 v0 s.2.2.1 hn c5
      refine x_callV (q := 35) (as := [.int s.2.2.1]) (rest := []) dX12_bestSet_32 rfl kc_RX12_449 kh_X12_meritOf (by decide) (Nat.le_of_ble_eq_true rfl) m6 (ci := 12) (by exact ⟨rfl, by decide⟩) (k243 g3 (by decide) hn) ?_
      have n7 : (r4.2).1 = 243 := m6.1.full hn
      refine x_lstore (q := 37) (i := 6) (ls2 := [(6, .long r4.1), (0, .ref v0), (1, .int v1), (2, .int s.1), (3, .long s.2.1), (5, .int s.2.2.1)]) dX12_bestSet_35 rfl (by decide) rfl ?_
      refine x_lload (q := 39) dX12_bestSet_37 rfl rfl ?_
      refine x_lload_n (q := 40) dX12_bestSet_39 rfl rfl ?_
      refine x_lcmp (q := 41) dX12_bestSet_40 rfl ?_
      replace H := kite H; rcases H with ⟨g8, H⟩ | ⟨g8, H⟩
      · refine x_if_lt_t dX12_bestSet_41 (q := 72) (by decide) g8 ?_
        refine x_sub (ls2 := [(0, .ref v0), (1, .int v1), (2, .int s.1), (3, .long s.2.1), (5, .int s.2.2.1)]) [1, 2, 3, 4, 5] rfl ?_
        exact s_X12_bestSet_b72 r4.2 v0 v1 s.1 s.2.1 s.2.2.1 n7 H
      · refine x_if_lt_f (q := 44) dX12_bestSet_41 (t := 72) (by decide) rfl g8 ?_
        refine x_lload (q := 46) dX12_bestSet_44 rfl rfl ?_
        refine x_lload_n (q := 47) dX12_bestSet_46 rfl rfl ?_
        refine x_lcmp (q := 48) dX12_bestSet_47 rfl ?_
        replace H := kite H; rcases H with ⟨g9, H⟩ | ⟨g9, H⟩
        · refine x_if_ne_f (q := 51) dX12_bestSet_48 (t := 66) (by decide) rfl g9 ?_
          refine x_iload (q := 53) dX12_bestSet_51 rfl rfl ?_
          replace H := kbe H; obtain ⟨r10, c11, H⟩ := H
          have m12 := s_X12_bits (Z := Z) r4.2 s.2.2.1 n7 c11
          refine x_callS (q := 56) (as := [.int s.2.2.1]) (rest := []) dX12_bestSet_53 rfl kc_RX12_452 kh_X12_bits (by decide) (Nat.le_of_ble_eq_true rfl) m12 ?_
          refine x_iload_n (q := 57) dX12_bestSet_56 rfl rfl ?_
          replace H := kbe H; obtain ⟨r13, c14, H⟩ := H
          have m15 := s_X12_bits (Z := Z) r4.2 s.1 n7 c14
          refine x_callS (q := 60) (as := [.int s.1]) (rest := [.int r10]) dX12_bestSet_57 rfl kc_RX12_452 kh_X12_bits (by decide) (Nat.le_of_ble_eq_true rfl) m15 ?_
          replace H := kite H; rcases H with ⟨g16, H⟩ | ⟨g16, H⟩
          · refine x_icmp_lt_t dX12_bestSet_60 (q := 66) (by decide) g16 ?_
            refine x_sub (ls2 := [(0, .ref v0), (1, .int v1), (5, .int s.2.2.1), (6, .long r4.1)]) [1, 2, 5, 0] rfl ?_
            exact s_X12_bestSet_b66 r4.2 v0 v1 s.2.2.1 r4.1 n7 H
          · refine x_icmp_lt_f (q := 63) dX12_bestSet_60 (t := 66) (by decide) rfl g16 ?_
            refine x_goto dX12_bestSet_63 (q := 72) (by decide) ?_
            refine x_sub (ls2 := [(0, .ref v0), (1, .int v1), (2, .int s.1), (3, .long s.2.1), (5, .int s.2.2.1)]) [1, 2, 3, 4, 5] rfl ?_
            exact s_X12_bestSet_b72 r4.2 v0 v1 s.1 s.2.1 s.2.2.1 n7 H
        · refine x_if_ne_t dX12_bestSet_48 (q := 66) (by decide) g9 ?_
          refine x_sub (ls2 := [(0, .ref v0), (1, .int v1), (5, .int s.2.2.1), (6, .long r4.1)]) [1, 2, 5, 0] rfl ?_
          exact s_X12_bestSet_b66 r4.2 v0 v1 s.2.2.1 r4.1 n7 H
    · refine x_if_eq_f (q := 26) dX12_bestSet_23 (t := 29) (by decide) rfl g2 ?_
      refine x_goto dX12_bestSet_26 (q := 72) (by decide) ?_
      refine x_sub (ls2 := [(0, .ref v0), (1, .int v1), (2, .int s.1), (3, .long s.2.1), (5, .int s.2.2.1)]) [0, 1, 2, 3, 4] rfl ?_
      exact s_X12_bestSet_b72 s.2.2.2 v0 v1 s.1 s.2.1 s.2.2.1 hn H
theorem sl_X12_bestSet_l11 {Z : Nat → (Nat → Nat) → State → Prop} (v0 : Nat) (v1 : Int32) (n : Nat) (s : Int32 × Int64 × Int32 × KH) (r : Int32 × KH) (hn : (s.2.2.2).1 = 243) (H : kloop (f_X12_bestSet_l11 v0 v1) n s = some r) : KX Z RX12 cX12_bestSet 8 false 4 (E_X12_bestSet_l11 v0 v1 r) 11 [(0, .ref v0), (1, .int v1), (2, .int s.1), (3, .long s.2.1), (5, .int s.2.2.1)] [] s.2.2.2 :=
  k_loop (ls := (fun (s : Int32 × Int64 × Int32 × KH) => ([(0, .ref v0), (1, .int v1), (2, .int s.1), (3, .long s.2.1), (5, .int s.2.2.1)] : List (Nat × Value)))) (hp := (fun (s : Int32 × Int64 × Int32 × KH) => (s.2.2.2 : KH))) (G := E_X12_bestSet_l11 v0 v1) (fun s t hn H => s_X12_bestSet_l11 v0 v1 s t hn H) n s r hn H
def f_X12_bestSet (h : KH) (v0 : Nat) (v1 : Int32) : Option (Int32 × KH) :=
  if kkind v0 = 12 then kb (f_X12_meritOf h v0 (0 : Int32)) fun r2 =>
  kb (kloop (f_X12_bestSet_l11 v0 v1) KF ((0 : Int32), r2.1, (1 : Int32), r2.2)) fun e6 =>
  some (e6.1, e6.2) else none
set_option maxHeartbeats 4000000 in
set_option maxRecDepth 100000 in
theorem s0_X12_bestSet {Z : Nat → (Nat → Nat) → State → Prop} (h : KH) (v0 : Nat) (v1 : Int32) {t : Int32 × KH} (hn : h.1 = 243) (H : f_X12_bestSet h v0 v1 = some t) : KX Z RX12 cX12_bestSet 8 false 4 (KRi cX12_bestSet t.1 t.2) 0 [(0, .ref v0), (1, .int v1)] [] h := by
  unfold f_X12_bestSet at H
  refine x_iconst (q := 1) (v := (0 : Int32)) dX12_bestSet_0 rfl (by decide) ?_
  refine x_istore_n (q := 2) (i := 2) (ls2 := [(2, .int (0 : Int32)), (0, .ref v0), (1, .int v1)]) dX12_bestSet_1 rfl rfl (by decide) rfl ?_
  refine x_aload_n (q := 3) dX12_bestSet_2 rfl rfl ?_
  refine x_iconst (q := 4) (v := (0 : Int32)) dX12_bestSet_3 rfl (by decide) ?_
  replace H := kif H; obtain ⟨g1, H⟩ := H
  replace H := kbe H; obtain ⟨r2, c3, H⟩ := H
  have m4 := s_X12_meritOf (Z := Z) h v0 (0 : Int32) hn c3
  refine x_callV (q := 7) (as := [.int (0 : Int32)]) (rest := []) dX12_bestSet_4 rfl kc_RX12_449 kh_X12_meritOf (by decide) (Nat.le_of_ble_eq_true rfl) m4 (ci := 12) (by exact ⟨rfl, by decide⟩) (k243 g1 (by decide) hn) ?_
  have n5 : (r2.2).1 = 243 := m4.1.full hn
  refine x_lstore_n (q := 8) (i := 3) (ls2 := [(3, .long r2.1), (2, .int (0 : Int32)), (0, .ref v0), (1, .int v1)]) dX12_bestSet_7 rfl rfl (by decide) rfl ?_
  refine x_iconst (q := 9) (v := (1 : Int32)) dX12_bestSet_8 rfl (by decide) ?_
  refine x_istore (q := 11) (i := 5) (ls2 := [(5, .int (1 : Int32)), (3, .long r2.1), (2, .int (0 : Int32)), (0, .ref v0), (1, .int v1)]) dX12_bestSet_9 rfl (by decide) rfl ?_
  refine x_sub (ls2 := [(0, .ref v0), (1, .int v1), (2, .int (0 : Int32)), (3, .long r2.1), (5, .int (1 : Int32))]) [3, 4, 2, 1, 0] rfl ?_
  replace H := kbe H; obtain ⟨e6, c7, H⟩ := H
  refine x_app (sl_X12_bestSet_l11 v0 v1 KF ((0 : Int32), r2.1, (1 : Int32), r2.2) e6 n5 c7) fun pc2 ls2 st2 h2 hg m8 => ?_
  obtain ⟨rfl, rfl, rfl, rfl⟩ := hg
  refine x_iload_n (q := 79) dX12_bestSet_78 rfl rfl ?_
  cases H
  exact x_end ⟨dX12_bestSet_79, rfl, rfl⟩
theorem s_X12_bestSet {Z : Nat → (Nat → Nat) → State → Prop} (h : KH) (v0 : Nat) (v1 : Int32) {t : Int32 × KH} (hn : h.1 = 243) (H : f_X12_bestSet h v0 v1 = some t) : KM Z yX12_bestSet cX12_bestSet 8 (some .int) 4 [.ref v0, .int v1] h (some (.int t.1)) t.2 :=
  kx_i (own := RX12) (ini := false) (by decide +kernel) (by decide +kernel) rfl (Nat.le_of_ble_eq_true rfl) (s0_X12_bestSet h v0 v1 hn H)
theorem dX12_freeTests_0 : decode cX12_freeTests 0 = .ok (.iconst 0, 1) := by decide +kernel
theorem dX12_freeTests_1 : decode cX12_freeTests 1 = .ok (.istore_n 1, 1) := by decide +kernel
theorem dX12_freeTests_2 : decode cX12_freeTests 2 = .ok (.iconst 0, 1) := by decide +kernel
theorem dX12_freeTests_3 : decode cX12_freeTests 3 = .ok (.istore_n 2, 1) := by decide +kernel
theorem dX12_freeTests_4 : decode cX12_freeTests 4 = .ok (.iload_n 2, 1) := by decide +kernel
theorem dX12_freeTests_5 : decode cX12_freeTests 5 = .ok (.aload_n 0, 1) := by decide +kernel
theorem dX12_freeTests_6 : decode cX12_freeTests 6 = .ok (.invokevirtual 367, 3) := by decide +kernel
theorem dX12_freeTests_9 : decode cX12_freeTests 9 = .ok (.if_icmp .ge 23, 3) := by decide +kernel
theorem dX12_freeTests_12 : decode cX12_freeTests 12 = .ok (.aload_n 0, 1) := by decide +kernel
theorem dX12_freeTests_13 : decode cX12_freeTests 13 = .ok (.iload_n 2, 1) := by decide +kernel
theorem dX12_freeTests_14 : decode cX12_freeTests 14 = .ok (.invokevirtual 400, 3) := by decide +kernel
theorem dX12_freeTests_17 : decode cX12_freeTests 17 = .ok (.ifCond .ne 9, 3) := by decide +kernel
theorem dX12_freeTests_20 : decode cX12_freeTests 20 = .ok (.iload_n 1, 1) := by decide +kernel
theorem dX12_freeTests_21 : decode cX12_freeTests 21 = .ok (.iconst 1, 1) := by decide +kernel
theorem dX12_freeTests_22 : decode cX12_freeTests 22 = .ok (.iload_n 2, 1) := by decide +kernel
theorem dX12_freeTests_23 : decode cX12_freeTests 23 = .ok (.ishl, 1) := by decide +kernel
theorem dX12_freeTests_24 : decode cX12_freeTests 24 = .ok (.ior, 1) := by decide +kernel
theorem dX12_freeTests_25 : decode cX12_freeTests 25 = .ok (.istore_n 1, 1) := by decide +kernel
theorem dX12_freeTests_26 : decode cX12_freeTests 26 = .ok (.iinc 2 1, 3) := by decide +kernel
theorem dX12_freeTests_29 : decode cX12_freeTests 29 = .ok (.goto (-25), 3) := by decide +kernel
theorem dX12_freeTests_32 : decode cX12_freeTests 32 = .ok (.iload_n 1, 1) := by decide +kernel
theorem dX12_freeTests_33 : decode cX12_freeTests 33 = .ok (.ireturn, 1) := by decide +kernel
def E_X12_freeTests_l4 (h : KH) (v0 : Nat) : Int32 → Nat → List (Nat × Value) → List Value → KH → Prop := fun (e : Int32) pc ls st hh => pc = 32 ∧ ls = [(1, .int e)] ∧ st = [] ∧ h = hh
def B_X12_freeTests_l4 (h : KH) (v0 : Nat) : ((Int32 × Int32) ⊕ (Int32)) → Nat → List (Nat × Value) → List Value → KH → Prop := Sum.elim (fun (s : Int32 × Int32) pc ls st hh => pc = 4 ∧ ls = [(0, .ref v0), (1, .int s.1), (2, .int s.2)] ∧ st = [] ∧ hh = h) (E_X12_freeTests_l4 h v0)
def f_X12_freeTests_b26 (h : KH) (v0 : Nat) (v1 : Int32) (v2 : Int32) : Option ((Int32 × Int32) ⊕ (Int32)) :=
  kl (v2 + (1 : Int32)) fun x1 =>
  some (.inl (v1, x1))
set_option maxHeartbeats 4000000 in
set_option maxRecDepth 100000 in
theorem s_X12_freeTests_b26 {Z : Nat → (Nat → Nat) → State → Prop} (h : KH) (v0 : Nat) (v1 : Int32) (v2 : Int32) {t : (Int32 × Int32) ⊕ (Int32)} (hn : h.1 = 243) (H : f_X12_freeTests_b26 h v0 v1 v2 = some t) : KX Z RX12 cX12_freeTests 3 false 2 (B_X12_freeTests_l4 h v0 t) 26 [(0, .ref v0), (1, .int v1), (2, .int v2)] [] h := by
  unfold f_X12_freeTests_b26 at H
  replace H := kle H; obtain ⟨x1, q2, H⟩ := H
  refine x_iinc (q := 29) (i := 2) (ls2 := [(2, .int x1), (0, .ref v0), (1, .int v1)]) dX12_freeTests_26 rfl rfl (by decide) (by rw [q2]; rfl) ?_
  refine x_goto dX12_freeTests_29 (q := 4) (by decide) ?_
  cases H
  refine x_sub (ls2 := [(0, .ref v0), (1, .int v1), (2, .int x1)]) [1, 2, 0] rfl ?_
  exact x_end (x_cfg rfl)
def f_X12_freeTests_l4 (h : KH) (v0 : Nat) (s : Int32 × Int32) : Option ((Int32 × Int32) ⊕ (Int32)) :=
  if kkind v0 = 12 then kb (f_X12_testMany h v0) fun r2 =>
  if r2 ≤ s.2 then
  some (.inr s.1)
  else
  kb (f_X12_stateOf h v0 s.2) fun r6 =>
  if r6 = 0 then
  kl (s.1 ||| ((1 : Int32) <<< (s.2 &&& 31))) fun x10 =>
  f_X12_freeTests_b26 h v0 x10 s.2
  else
  f_X12_freeTests_b26 h v0 s.1 s.2 else none
set_option maxHeartbeats 4000000 in
set_option maxRecDepth 100000 in
theorem s_X12_freeTests_l4 {Z : Nat → (Nat → Nat) → State → Prop} (h : KH) (v0 : Nat) (s : Int32 × Int32) (t : (Int32 × Int32) ⊕ (Int32)) (hn : (h).1 = 243) (H : f_X12_freeTests_l4 h v0 s = some t) : KX Z RX12 cX12_freeTests 3 false 2 (B_X12_freeTests_l4 h v0 t) 4 [(0, .ref v0), (1, .int s.1), (2, .int s.2)] [] h := by
  unfold f_X12_freeTests_l4 at H
  refine x_iload_n (q := 5) dX12_freeTests_4 rfl rfl ?_
  refine x_aload_n (q := 6) dX12_freeTests_5 rfl rfl ?_
  replace H := kif H; obtain ⟨g1, H⟩ := H
  replace H := kbe H; obtain ⟨r2, c3, H⟩ := H
  have m4 := s_X12_testMany (Z := Z) h v0 hn c3
  refine x_callV (q := 9) (as := []) (rest := [.int s.2]) dX12_freeTests_6 rfl kc_RX12_367 kh_X12_testMany (by decide) (Nat.le_of_ble_eq_true rfl) m4 (ci := 12) (by exact ⟨rfl, by decide⟩) (k243 g1 (by decide) hn) ?_
  replace H := kite H; rcases H with ⟨g5, H⟩ | ⟨g5, H⟩
  · refine x_icmp_ge_t dX12_freeTests_9 (q := 32) (by decide) g5 ?_
    cases H
    refine x_sub (ls2 := [(1, .int s.1)]) [1] rfl ?_
    exact x_end (x_cfg rfl)
  · refine x_icmp_ge_f (q := 12) dX12_freeTests_9 (t := 32) (by decide) rfl g5 ?_
    refine x_aload_n (q := 13) dX12_freeTests_12 rfl rfl ?_
    refine x_iload_n (q := 14) dX12_freeTests_13 rfl rfl ?_
    replace H := kbe H; obtain ⟨r6, c7, H⟩ := H
    have m8 := s_X12_stateOf (Z := Z) h v0 s.2 hn c7
    refine x_callV (q := 17) (as := [.int s.2]) (rest := []) dX12_freeTests_14 rfl kc_RX12_400 kh_X12_stateOf (by decide) (Nat.le_of_ble_eq_true rfl) m8 (ci := 12) (by exact ⟨rfl, by decide⟩) (k243 g1 (by decide) hn) ?_
    replace H := kite H; rcases H with ⟨g9, H⟩ | ⟨g9, H⟩
    · refine x_if_ne_f (q := 20) dX12_freeTests_17 (t := 26) (by decide) rfl g9 ?_
      refine x_iload_n (q := 21) dX12_freeTests_20 rfl rfl ?_
      refine x_iconst (q := 22) (v := (1 : Int32)) dX12_freeTests_21 rfl (by decide) ?_
      refine x_iload_n (q := 23) dX12_freeTests_22 rfl rfl ?_
      refine x_ishl (q := 24) dX12_freeTests_23 rfl ?_
      refine x_ior (q := 25) dX12_freeTests_24 rfl ?_
      replace H := kle H; obtain ⟨x10, q11, H⟩ := H
      refine x_nmI q11 ?_
      refine x_istore_n (q := 26) (i := 1) (ls2 := [(1, .int x10), (0, .ref v0), (2, .int s.2)]) dX12_freeTests_25 rfl rfl (by decide) rfl ?_
      refine x_sub (ls2 := [(0, .ref v0), (1, .int x10), (2, .int s.2)]) [1, 0, 2] rfl ?_
      exact s_X12_freeTests_b26 h v0 x10 s.2 hn H
    · refine x_if_ne_t dX12_freeTests_17 (q := 26) (by decide) g9 ?_
      refine x_sub (ls2 := [(0, .ref v0), (1, .int s.1), (2, .int s.2)]) [0, 1, 2] rfl ?_
      exact s_X12_freeTests_b26 h v0 s.1 s.2 hn H
theorem sl_X12_freeTests_l4 {Z : Nat → (Nat → Nat) → State → Prop} (h : KH) (v0 : Nat) (n : Nat) (s : Int32 × Int32) (r : Int32) (hn : (h).1 = 243) (H : kloop (f_X12_freeTests_l4 h v0) n s = some r) : KX Z RX12 cX12_freeTests 3 false 2 (E_X12_freeTests_l4 h v0 r) 4 [(0, .ref v0), (1, .int s.1), (2, .int s.2)] [] h :=
  k_loop (ls := (fun (s : Int32 × Int32) => ([(0, .ref v0), (1, .int s.1), (2, .int s.2)] : List (Nat × Value)))) (hp := (fun (s : Int32 × Int32) => (h : KH))) (G := E_X12_freeTests_l4 h v0) (fun s t hn H => s_X12_freeTests_l4 h v0 s t hn H) n s r hn H
def f_X12_freeTests (h : KH) (v0 : Nat) : Option (Int32) :=
  kb (kloop (f_X12_freeTests_l4 h v0) KF ((0 : Int32), (0 : Int32))) fun e1 =>
  some e1
set_option maxHeartbeats 4000000 in
set_option maxRecDepth 100000 in
theorem s0_X12_freeTests {Z : Nat → (Nat → Nat) → State → Prop} (h : KH) (v0 : Nat) {t : Int32} (hn : h.1 = 243) (H : f_X12_freeTests h v0 = some t) : KX Z RX12 cX12_freeTests 3 false 2 (KRi cX12_freeTests t h) 0 [(0, .ref v0)] [] h := by
  unfold f_X12_freeTests at H
  refine x_iconst (q := 1) (v := (0 : Int32)) dX12_freeTests_0 rfl (by decide) ?_
  refine x_istore_n (q := 2) (i := 1) (ls2 := [(1, .int (0 : Int32)), (0, .ref v0)]) dX12_freeTests_1 rfl rfl (by decide) rfl ?_
  refine x_iconst (q := 3) (v := (0 : Int32)) dX12_freeTests_2 rfl (by decide) ?_
  refine x_istore_n (q := 4) (i := 2) (ls2 := [(2, .int (0 : Int32)), (1, .int (0 : Int32)), (0, .ref v0)]) dX12_freeTests_3 rfl rfl (by decide) rfl ?_
  refine x_sub (ls2 := [(0, .ref v0), (1, .int (0 : Int32)), (2, .int (0 : Int32))]) [2, 1, 0] rfl ?_
  replace H := kbe H; obtain ⟨e1, c2, H⟩ := H
  refine x_app (sl_X12_freeTests_l4 h v0 KF ((0 : Int32), (0 : Int32)) e1 hn c2) fun pc2 ls2 st2 h2 hg m3 => ?_
  obtain ⟨rfl, rfl, rfl, rfl⟩ := hg
  refine x_iload_n (q := 33) dX12_freeTests_32 rfl rfl ?_
  cases H
  exact x_end ⟨dX12_freeTests_33, rfl, rfl⟩
theorem s_X12_freeTests {Z : Nat → (Nat → Nat) → State → Prop} (h : KH) (v0 : Nat) {t : Int32} (hn : h.1 = 243) (H : f_X12_freeTests h v0 = some t) : KM Z yX12_freeTests cX12_freeTests 3 (some .int) 2 [.ref v0] h (some (.int t)) h :=
  kx_i (own := RX12) (ini := false) (by decide +kernel) (by decide +kernel) rfl (Nat.le_of_ble_eq_true rfl) (s0_X12_freeTests h v0 hn H)
theorem dX12_allTests_0 : decode cX12_allTests 0 = .ok (.iconst 1, 1) := by decide +kernel
theorem dX12_allTests_1 : decode cX12_allTests 1 = .ok (.aload_n 0, 1) := by decide +kernel
theorem dX12_allTests_2 : decode cX12_allTests 2 = .ok (.invokevirtual 367, 3) := by decide +kernel
theorem dX12_allTests_5 : decode cX12_allTests 5 = .ok (.ishl, 1) := by decide +kernel
theorem dX12_allTests_6 : decode cX12_allTests 6 = .ok (.iconst 1, 1) := by decide +kernel
theorem dX12_allTests_7 : decode cX12_allTests 7 = .ok (.isub, 1) := by decide +kernel
theorem dX12_allTests_8 : decode cX12_allTests 8 = .ok (.ireturn, 1) := by decide +kernel
def f_X12_allTests (h : KH) (v0 : Nat) : Option (Int32) :=
  if kkind v0 = 12 then kb (f_X12_testMany h v0) fun r2 =>
  some (((1 : Int32) <<< (r2 &&& 31)) - (1 : Int32)) else none
set_option maxHeartbeats 4000000 in
set_option maxRecDepth 100000 in
theorem s0_X12_allTests {Z : Nat → (Nat → Nat) → State → Prop} (h : KH) (v0 : Nat) {t : Int32} (hn : h.1 = 243) (H : f_X12_allTests h v0 = some t) : KX Z RX12 cX12_allTests 1 false 2 (KRi cX12_allTests t h) 0 [(0, .ref v0)] [] h := by
  unfold f_X12_allTests at H
  refine x_iconst (q := 1) (v := (1 : Int32)) dX12_allTests_0 rfl (by decide) ?_
  refine x_aload_n (q := 2) dX12_allTests_1 rfl rfl ?_
  replace H := kif H; obtain ⟨g1, H⟩ := H
  replace H := kbe H; obtain ⟨r2, c3, H⟩ := H
  have m4 := s_X12_testMany (Z := Z) h v0 hn c3
  refine x_callV (q := 5) (as := []) (rest := [.int (1 : Int32)]) dX12_allTests_2 rfl kc_RX12_367 kh_X12_testMany (by decide) (Nat.le_of_ble_eq_true rfl) m4 (ci := 12) (by exact ⟨rfl, by decide⟩) (k243 g1 (by decide) hn) ?_
  refine x_ishl (q := 6) dX12_allTests_5 rfl ?_
  refine x_iconst (q := 7) (v := (1 : Int32)) dX12_allTests_6 rfl (by decide) ?_
  refine x_isub (q := 8) dX12_allTests_7 rfl ?_
  cases H
  exact x_end ⟨dX12_allTests_8, rfl, rfl⟩
theorem s_X12_allTests {Z : Nat → (Nat → Nat) → State → Prop} (h : KH) (v0 : Nat) {t : Int32} (hn : h.1 = 243) (H : f_X12_allTests h v0 = some t) : KM Z yX12_allTests cX12_allTests 1 (some .int) 2 [.ref v0] h (some (.int t)) h :=
  kx_i (own := RX12) (ini := false) (by decide +kernel) (by decide +kernel) rfl (Nat.le_of_ble_eq_true rfl) (s0_X12_allTests h v0 hn H)
theorem dX12_heardNow_0 : decode cX12_heardNow 0 = .ok (.aload_n 0, 1) := by decide +kernel
theorem dX12_heardNow_1 : decode cX12_heardNow 1 = .ok (.invokevirtual 367, 3) := by decide +kernel
theorem dX12_heardNow_4 : decode cX12_heardNow 4 = .ok (.aload_n 0, 1) := by decide +kernel
theorem dX12_heardNow_5 : decode cX12_heardNow 5 = .ok (.invokevirtual 455, 3) := by decide +kernel
theorem dX12_heardNow_8 : decode cX12_heardNow 8 = .ok (.invokestatic 452, 3) := by decide +kernel
theorem dX12_heardNow_11 : decode cX12_heardNow 11 = .ok (.isub, 1) := by decide +kernel
theorem dX12_heardNow_12 : decode cX12_heardNow 12 = .ok (.ireturn, 1) := by decide +kernel
theorem kc_RX12_455 : Cond.methodLink RX12 455 yX12_freeTests ∈ ktG ∧ (Cond.instanceMethod yX12_freeTests ∈ ktG ∧ Cond.selects yX12_freeTests.cls yX12_freeTests yX12_freeTests ∈ ktG) ∧ Cond.initialized yX12_freeTests.cls ∈ ktG ∧ Cond.code yX12_freeTests cX12_freeTests 3 (some .int) ∈ ktG := ⟨(kwm 1684 (by decide +kernel) (by decide +kernel)), ⟨(kwm 1686 (by decide +kernel) (by decide +kernel)), (kwm 76 (by decide +kernel) (by decide +kernel))⟩, (kwm 139 (by decide +kernel) (by decide +kernel)), kwm 1687 (by decide +kernel) (by decide +kernel)⟩
theorem kh_X12_freeTests : yX12_freeTests.cls ≠ "java/lang/invoke/MethodHandle" ∧ yX12_freeTests.cls ≠ "java/lang/invoke/VarHandle" ∧ (parseMethodDescriptor yX12_freeTests.desc).map (fun d => d.parameters.length) = some 0 := by decide +kernel
def f_X12_heardNow (h : KH) (v0 : Nat) : Option (Int32) :=
  if kkind v0 = 12 then kb (f_X12_testMany h v0) fun r2 =>
  kb (f_X12_freeTests h v0) fun r5 =>
  kb (f_X12_bits h r5) fun r8 =>
  some (r2 - r8) else none
set_option maxHeartbeats 4000000 in
set_option maxRecDepth 100000 in
theorem s0_X12_heardNow {Z : Nat → (Nat → Nat) → State → Prop} (h : KH) (v0 : Nat) {t : Int32} (hn : h.1 = 243) (H : f_X12_heardNow h v0 = some t) : KX Z RX12 cX12_heardNow 1 false 3 (KRi cX12_heardNow t h) 0 [(0, .ref v0)] [] h := by
  unfold f_X12_heardNow at H
  refine x_aload_n (q := 1) dX12_heardNow_0 rfl rfl ?_
  replace H := kif H; obtain ⟨g1, H⟩ := H
  replace H := kbe H; obtain ⟨r2, c3, H⟩ := H
  have m4 := s_X12_testMany (Z := Z) h v0 hn c3
  refine x_callV (q := 4) (as := []) (rest := []) dX12_heardNow_1 rfl kc_RX12_367 kh_X12_testMany (by decide) (Nat.le_of_ble_eq_true rfl) m4 (ci := 12) (by exact ⟨rfl, by decide⟩) (k243 g1 (by decide) hn) ?_
  refine x_aload_n (q := 5) dX12_heardNow_4 rfl rfl ?_
  replace H := kbe H; obtain ⟨r5, c6, H⟩ := H
  have m7 := s_X12_freeTests (Z := Z) h v0 hn c6
  refine x_callV (q := 8) (as := []) (rest := [.int r2]) dX12_heardNow_5 rfl kc_RX12_455 kh_X12_freeTests (by decide) (Nat.le_of_ble_eq_true rfl) m7 (ci := 12) (by exact ⟨rfl, by decide⟩) (k243 g1 (by decide) hn) ?_
  replace H := kbe H; obtain ⟨r8, c9, H⟩ := H
  have m10 := s_X12_bits (Z := Z) h r5 hn c9
  refine x_callS (q := 11) (as := [.int r5]) (rest := [.int r2]) dX12_heardNow_8 rfl kc_RX12_452 kh_X12_bits (by decide) (Nat.le_of_ble_eq_true rfl) m10 ?_
  refine x_isub (q := 12) dX12_heardNow_11 rfl ?_
  cases H
  exact x_end ⟨dX12_heardNow_12, rfl, rfl⟩
theorem s_X12_heardNow {Z : Nat → (Nat → Nat) → State → Prop} (h : KH) (v0 : Nat) {t : Int32} (hn : h.1 = 243) (H : f_X12_heardNow h v0 = some t) : KM Z yX12_heardNow cX12_heardNow 1 (some .int) 3 [.ref v0] h (some (.int t)) h :=
  kx_i (own := RX12) (ini := false) (by decide +kernel) (by decide +kernel) rfl (Nat.le_of_ble_eq_true rfl) (s0_X12_heardNow h v0 hn H)
theorem dX12_lookedNow_0 : decode cX12_lookedNow 0 = .ok (.iconst 0, 1) := by decide +kernel
theorem dX12_lookedNow_1 : decode cX12_lookedNow 1 = .ok (.istore_n 1, 1) := by decide +kernel
theorem dX12_lookedNow_2 : decode cX12_lookedNow 2 = .ok (.iconst 0, 1) := by decide +kernel
theorem dX12_lookedNow_3 : decode cX12_lookedNow 3 = .ok (.istore_n 2, 1) := by decide +kernel
theorem dX12_lookedNow_4 : decode cX12_lookedNow 4 = .ok (.iload_n 2, 1) := by decide +kernel
theorem dX12_lookedNow_5 : decode cX12_lookedNow 5 = .ok (.iconst 2, 1) := by decide +kernel
theorem dX12_lookedNow_6 : decode cX12_lookedNow 6 = .ok (.aload_n 0, 1) := by decide +kernel
theorem dX12_lookedNow_7 : decode cX12_lookedNow 7 = .ok (.invokevirtual 403, 3) := by decide +kernel
theorem dX12_lookedNow_10 : decode cX12_lookedNow 10 = .ok (.imul, 1) := by decide +kernel
theorem dX12_lookedNow_11 : decode cX12_lookedNow 11 = .ok (.if_icmp .ge 24, 3) := by decide +kernel
theorem dX12_lookedNow_14 : decode cX12_lookedNow 14 = .ok (.aload_n 0, 1) := by decide +kernel
theorem dX12_lookedNow_15 : decode cX12_lookedNow 15 = .ok (.getfield 115, 3) := by decide +kernel
theorem dX12_lookedNow_18 : decode cX12_lookedNow 18 = .ok (.bipush 14, 2) := by decide +kernel
theorem dX12_lookedNow_20 : decode cX12_lookedNow 20 = .ok (.iload_n 2, 1) := by decide +kernel
theorem dX12_lookedNow_21 : decode cX12_lookedNow 21 = .ok (.iadd, 1) := by decide +kernel
theorem dX12_lookedNow_22 : decode cX12_lookedNow 22 = .ok (.iaload, 1) := by decide +kernel
theorem dX12_lookedNow_23 : decode cX12_lookedNow 23 = .ok (.ifCond .eq 6, 3) := by decide +kernel
theorem dX12_lookedNow_26 : decode cX12_lookedNow 26 = .ok (.iinc 1 1, 3) := by decide +kernel
theorem dX12_lookedNow_29 : decode cX12_lookedNow 29 = .ok (.iinc 2 1, 3) := by decide +kernel
theorem dX12_lookedNow_32 : decode cX12_lookedNow 32 = .ok (.goto (-28), 3) := by decide +kernel
theorem dX12_lookedNow_35 : decode cX12_lookedNow 35 = .ok (.iload_n 1, 1) := by decide +kernel
theorem dX12_lookedNow_36 : decode cX12_lookedNow 36 = .ok (.ireturn, 1) := by decide +kernel
def E_X12_lookedNow_l4 (h : KH) (v0 : Nat) : Int32 → Nat → List (Nat × Value) → List Value → KH → Prop := fun (e : Int32) pc ls st hh => pc = 35 ∧ ls = [(1, .int e)] ∧ st = [] ∧ h = hh
def B_X12_lookedNow_l4 (h : KH) (v0 : Nat) : ((Int32 × Int32) ⊕ (Int32)) → Nat → List (Nat × Value) → List Value → KH → Prop := Sum.elim (fun (s : Int32 × Int32) pc ls st hh => pc = 4 ∧ ls = [(0, .ref v0), (1, .int s.1), (2, .int s.2)] ∧ st = [] ∧ hh = h) (E_X12_lookedNow_l4 h v0)
def f_X12_lookedNow_b29 (h : KH) (v0 : Nat) (v1 : Int32) (v2 : Int32) : Option ((Int32 × Int32) ⊕ (Int32)) :=
  kl (v2 + (1 : Int32)) fun x1 =>
  some (.inl (v1, x1))
set_option maxHeartbeats 4000000 in
set_option maxRecDepth 100000 in
theorem s_X12_lookedNow_b29 {Z : Nat → (Nat → Nat) → State → Prop} (h : KH) (v0 : Nat) (v1 : Int32) (v2 : Int32) {t : (Int32 × Int32) ⊕ (Int32)} (hn : h.1 = 243) (H : f_X12_lookedNow_b29 h v0 v1 v2 = some t) : KX Z RX12 cX12_lookedNow 3 false 2 (B_X12_lookedNow_l4 h v0 t) 29 [(0, .ref v0), (1, .int v1), (2, .int v2)] [] h := by
  unfold f_X12_lookedNow_b29 at H
  replace H := kle H; obtain ⟨x1, q2, H⟩ := H
  refine x_iinc (q := 32) (i := 2) (ls2 := [(2, .int x1), (0, .ref v0), (1, .int v1)]) dX12_lookedNow_29 rfl rfl (by decide) (by rw [q2]; rfl) ?_
  refine x_goto dX12_lookedNow_32 (q := 4) (by decide) ?_
  cases H
  refine x_sub (ls2 := [(0, .ref v0), (1, .int v1), (2, .int x1)]) [1, 2, 0] rfl ?_
  exact x_end (x_cfg rfl)
def f_X12_lookedNow_l4 (h : KH) (v0 : Nat) (s : Int32 × Int32) : Option ((Int32 × Int32) ⊕ (Int32)) :=
  if kkind v0 = 12 then kb (f_X12_markMany h v0) fun r2 =>
  if ((2 : Int32) * r2) ≤ s.2 then
  some (.inr s.1)
  else
  if (kR h v0 45) < 999999 then if kkind (kR h v0 45) = 20 then if (((14 : Int32) + s.2) < 0 ∨ klen (kR h v0 45) ≤ (((14 : Int32) + s.2)).toNatClampNeg) then none else if (kI h (kR h v0 45) ((((14 : Int32) + s.2)).toNatClampNeg)) = 0 then
  f_X12_lookedNow_b29 h v0 s.1 s.2
  else
  kl (s.1 + (1 : Int32)) fun x10 =>
  f_X12_lookedNow_b29 h v0 x10 s.2 else none else none else none
set_option maxHeartbeats 4000000 in
set_option maxRecDepth 100000 in
theorem s_X12_lookedNow_l4 {Z : Nat → (Nat → Nat) → State → Prop} (h : KH) (v0 : Nat) (s : Int32 × Int32) (t : (Int32 × Int32) ⊕ (Int32)) (hn : (h).1 = 243) (H : f_X12_lookedNow_l4 h v0 s = some t) : KX Z RX12 cX12_lookedNow 3 false 2 (B_X12_lookedNow_l4 h v0 t) 4 [(0, .ref v0), (1, .int s.1), (2, .int s.2)] [] h := by
  unfold f_X12_lookedNow_l4 at H
  refine x_iload_n (q := 5) dX12_lookedNow_4 rfl rfl ?_
  refine x_iconst (q := 6) (v := (2 : Int32)) dX12_lookedNow_5 rfl (by decide) ?_
  refine x_aload_n (q := 7) dX12_lookedNow_6 rfl rfl ?_
  replace H := kif H; obtain ⟨g1, H⟩ := H
  replace H := kbe H; obtain ⟨r2, c3, H⟩ := H
  have m4 := s_X12_markMany (Z := Z) h v0 hn c3
  refine x_callV (q := 10) (as := []) (rest := [.int (2 : Int32), .int s.2]) dX12_lookedNow_7 rfl kc_RX12_403 kh_X12_markMany (by decide) (Nat.le_of_ble_eq_true rfl) m4 (ci := 12) (by exact ⟨rfl, by decide⟩) (k243 g1 (by decide) hn) ?_
  refine x_imul (q := 11) dX12_lookedNow_10 rfl ?_
  replace H := kite H; rcases H with ⟨g5, H⟩ | ⟨g5, H⟩
  · refine x_icmp_ge_t dX12_lookedNow_11 (q := 35) (by decide) g5 ?_
    cases H
    refine x_sub (ls2 := [(1, .int s.1)]) [1] rfl ?_
    exact x_end (x_cfg rfl)
  · refine x_icmp_ge_f (q := 14) dX12_lookedNow_11 (t := 35) (by decide) rfl g5 ?_
    refine x_aload_n (q := 15) dX12_lookedNow_14 rfl rfl ?_
    replace H := kif H; obtain ⟨g6, H⟩ := H
    refine x_getR (q := 18) dX12_lookedNow_15 rfl kl_RX12_115 rfl (k243 g1 (by decide) hn) g6 ?_
    refine x_bipush (q := 20) (v := (14 : Int32)) dX12_lookedNow_18 rfl (by decide) ?_
    refine x_iload_n (q := 21) dX12_lookedNow_20 rfl rfl ?_
    refine x_iadd (q := 22) dX12_lookedNow_21 rfl ?_
    replace H := kif H; obtain ⟨g7, H⟩ := H
    replace H := kifn H; obtain ⟨g8, H⟩ := H
    refine x_iald (q := 23) dX12_lookedNow_22 rfl (k243 g7 (by decide) hn) g8 ?_
    replace H := kite H; rcases H with ⟨g9, H⟩ | ⟨g9, H⟩
    · refine x_if_eq_t dX12_lookedNow_23 (q := 29) (by decide) g9 ?_
      refine x_sub (ls2 := [(0, .ref v0), (1, .int s.1), (2, .int s.2)]) [0, 1, 2] rfl ?_
      exact s_X12_lookedNow_b29 h v0 s.1 s.2 hn H
    · refine x_if_eq_f (q := 26) dX12_lookedNow_23 (t := 29) (by decide) rfl g9 ?_
      replace H := kle H; obtain ⟨x10, q11, H⟩ := H
      refine x_iinc (q := 29) (i := 1) (ls2 := [(1, .int x10), (0, .ref v0), (2, .int s.2)]) dX12_lookedNow_26 rfl rfl (by decide) (by rw [q11]; rfl) ?_
      refine x_sub (ls2 := [(0, .ref v0), (1, .int x10), (2, .int s.2)]) [1, 0, 2] rfl ?_
      exact s_X12_lookedNow_b29 h v0 x10 s.2 hn H
theorem sl_X12_lookedNow_l4 {Z : Nat → (Nat → Nat) → State → Prop} (h : KH) (v0 : Nat) (n : Nat) (s : Int32 × Int32) (r : Int32) (hn : (h).1 = 243) (H : kloop (f_X12_lookedNow_l4 h v0) n s = some r) : KX Z RX12 cX12_lookedNow 3 false 2 (E_X12_lookedNow_l4 h v0 r) 4 [(0, .ref v0), (1, .int s.1), (2, .int s.2)] [] h :=
  k_loop (ls := (fun (s : Int32 × Int32) => ([(0, .ref v0), (1, .int s.1), (2, .int s.2)] : List (Nat × Value)))) (hp := (fun (s : Int32 × Int32) => (h : KH))) (G := E_X12_lookedNow_l4 h v0) (fun s t hn H => s_X12_lookedNow_l4 h v0 s t hn H) n s r hn H
def f_X12_lookedNow (h : KH) (v0 : Nat) : Option (Int32) :=
  kb (kloop (f_X12_lookedNow_l4 h v0) KF ((0 : Int32), (0 : Int32))) fun e1 =>
  some e1
set_option maxHeartbeats 4000000 in
set_option maxRecDepth 100000 in
theorem s0_X12_lookedNow {Z : Nat → (Nat → Nat) → State → Prop} (h : KH) (v0 : Nat) {t : Int32} (hn : h.1 = 243) (H : f_X12_lookedNow h v0 = some t) : KX Z RX12 cX12_lookedNow 3 false 2 (KRi cX12_lookedNow t h) 0 [(0, .ref v0)] [] h := by
  unfold f_X12_lookedNow at H
  refine x_iconst (q := 1) (v := (0 : Int32)) dX12_lookedNow_0 rfl (by decide) ?_
  refine x_istore_n (q := 2) (i := 1) (ls2 := [(1, .int (0 : Int32)), (0, .ref v0)]) dX12_lookedNow_1 rfl rfl (by decide) rfl ?_
  refine x_iconst (q := 3) (v := (0 : Int32)) dX12_lookedNow_2 rfl (by decide) ?_
  refine x_istore_n (q := 4) (i := 2) (ls2 := [(2, .int (0 : Int32)), (1, .int (0 : Int32)), (0, .ref v0)]) dX12_lookedNow_3 rfl rfl (by decide) rfl ?_
  refine x_sub (ls2 := [(0, .ref v0), (1, .int (0 : Int32)), (2, .int (0 : Int32))]) [2, 1, 0] rfl ?_
  replace H := kbe H; obtain ⟨e1, c2, H⟩ := H
  refine x_app (sl_X12_lookedNow_l4 h v0 KF ((0 : Int32), (0 : Int32)) e1 hn c2) fun pc2 ls2 st2 h2 hg m3 => ?_
  obtain ⟨rfl, rfl, rfl, rfl⟩ := hg
  refine x_iload_n (q := 36) dX12_lookedNow_35 rfl rfl ?_
  cases H
  exact x_end ⟨dX12_lookedNow_36, rfl, rfl⟩
theorem s_X12_lookedNow {Z : Nat → (Nat → Nat) → State → Prop} (h : KH) (v0 : Nat) {t : Int32} (hn : h.1 = 243) (H : f_X12_lookedNow h v0 = some t) : KM Z yX12_lookedNow cX12_lookedNow 3 (some .int) 2 [.ref v0] h (some (.int t)) h :=
  kx_i (own := RX12) (ini := false) (by decide +kernel) (by decide +kernel) rfl (Nat.le_of_ble_eq_true rfl) (s0_X12_lookedNow h v0 hn H)
theorem dX12_has_0 : decode cX12_has 0 = .ok (.iload_n 1, 1) := by decide +kernel
theorem dX12_has_1 : decode cX12_has 1 = .ok (.tableswitch 112 0 10 #[59, 59, 59, 68, 75, 75, 84, 89, 94, 102, 107], 59) := by decide +kernel
theorem dX12_has_60 : decode cX12_has 60 = .ok (.aload_n 0, 1) := by decide +kernel
theorem dX12_has_61 : decode cX12_has 61 = .ok (.getfield 87, 3) := by decide +kernel
theorem dX12_has_64 : decode cX12_has 64 = .ok (.iconst 3, 1) := by decide +kernel
theorem dX12_has_65 : decode cX12_has 65 = .ok (.iload_n 1, 1) := by decide +kernel
theorem dX12_has_66 : decode cX12_has 66 = .ok (.iadd, 1) := by decide +kernel
theorem dX12_has_67 : decode cX12_has 67 = .ok (.iaload, 1) := by decide +kernel
theorem dX12_has_68 : decode cX12_has 68 = .ok (.ireturn, 1) := by decide +kernel
theorem dX12_has_69 : decode cX12_has 69 = .ok (.aload_n 0, 1) := by decide +kernel
theorem dX12_has_70 : decode cX12_has 70 = .ok (.getfield 103, 3) := by decide +kernel
theorem dX12_has_73 : decode cX12_has 73 = .ok (.iconst 2, 1) := by decide +kernel
theorem dX12_has_74 : decode cX12_has 74 = .ok (.iaload, 1) := by decide +kernel
theorem dX12_has_75 : decode cX12_has 75 = .ok (.ireturn, 1) := by decide +kernel
theorem dX12_has_76 : decode cX12_has 76 = .ok (.aload_n 0, 1) := by decide +kernel
theorem dX12_has_77 : decode cX12_has 77 = .ok (.getfield 115, 3) := by decide +kernel
theorem dX12_has_80 : decode cX12_has 80 = .ok (.iload_n 1, 1) := by decide +kernel
theorem dX12_has_81 : decode cX12_has 81 = .ok (.iconst 4, 1) := by decide +kernel
theorem dX12_has_82 : decode cX12_has 82 = .ok (.isub, 1) := by decide +kernel
theorem dX12_has_83 : decode cX12_has 83 = .ok (.iaload, 1) := by decide +kernel
theorem dX12_has_84 : decode cX12_has 84 = .ok (.ireturn, 1) := by decide +kernel
theorem dX12_has_85 : decode cX12_has 85 = .ok (.aload_n 0, 1) := by decide +kernel
theorem dX12_has_86 : decode cX12_has 86 = .ok (.invokevirtual 458, 3) := by decide +kernel
theorem dX12_has_89 : decode cX12_has 89 = .ok (.ireturn, 1) := by decide +kernel
theorem dX12_has_90 : decode cX12_has 90 = .ok (.aload_n 0, 1) := by decide +kernel
theorem dX12_has_91 : decode cX12_has 91 = .ok (.invokevirtual 461, 3) := by decide +kernel
theorem dX12_has_94 : decode cX12_has 94 = .ok (.ireturn, 1) := by decide +kernel
theorem dX12_has_95 : decode cX12_has 95 = .ok (.aload_n 0, 1) := by decide +kernel
theorem dX12_has_96 : decode cX12_has 96 = .ok (.getfield 115, 3) := by decide +kernel
theorem dX12_has_99 : decode cX12_has 99 = .ok (.bipush 24, 2) := by decide +kernel
theorem dX12_has_101 : decode cX12_has 101 = .ok (.iaload, 1) := by decide +kernel
theorem dX12_has_102 : decode cX12_has 102 = .ok (.ireturn, 1) := by decide +kernel
theorem dX12_has_103 : decode cX12_has 103 = .ok (.aload_n 0, 1) := by decide +kernel
theorem dX12_has_104 : decode cX12_has 104 = .ok (.getfield 361, 3) := by decide +kernel
theorem dX12_has_107 : decode cX12_has 107 = .ok (.ireturn, 1) := by decide +kernel
theorem dX12_has_108 : decode cX12_has 108 = .ok (.aload_n 0, 1) := by decide +kernel
theorem dX12_has_109 : decode cX12_has 109 = .ok (.getfield 358, 3) := by decide +kernel
theorem dX12_has_112 : decode cX12_has 112 = .ok (.ireturn, 1) := by decide +kernel
theorem dX12_has_113 : decode cX12_has 113 = .ok (.iconst (-1), 1) := by decide +kernel
theorem dX12_has_114 : decode cX12_has 114 = .ok (.ireturn, 1) := by decide +kernel
theorem kc_RX12_458 : Cond.methodLink RX12 458 yX12_heardNow ∈ ktG ∧ (Cond.instanceMethod yX12_heardNow ∈ ktG ∧ Cond.selects yX12_heardNow.cls yX12_heardNow yX12_heardNow ∈ ktG) ∧ Cond.initialized yX12_heardNow.cls ∈ ktG ∧ Cond.code yX12_heardNow cX12_heardNow 1 (some .int) ∈ ktG := ⟨(kwm 1676 (by decide +kernel) (by decide +kernel)), ⟨(kwm 1678 (by decide +kernel) (by decide +kernel)), (kwm 74 (by decide +kernel) (by decide +kernel))⟩, (kwm 139 (by decide +kernel) (by decide +kernel)), kwm 1679 (by decide +kernel) (by decide +kernel)⟩
theorem kh_X12_heardNow : yX12_heardNow.cls ≠ "java/lang/invoke/MethodHandle" ∧ yX12_heardNow.cls ≠ "java/lang/invoke/VarHandle" ∧ (parseMethodDescriptor yX12_heardNow.desc).map (fun d => d.parameters.length) = some 0 := by decide +kernel
theorem kc_RX12_461 : Cond.methodLink RX12 461 yX12_lookedNow ∈ ktG ∧ (Cond.instanceMethod yX12_lookedNow ∈ ktG ∧ Cond.selects yX12_lookedNow.cls yX12_lookedNow yX12_lookedNow ∈ ktG) ∧ Cond.initialized yX12_lookedNow.cls ∈ ktG ∧ Cond.code yX12_lookedNow cX12_lookedNow 3 (some .int) ∈ ktG := ⟨(kwm 1695 (by decide +kernel) (by decide +kernel)), ⟨(kwm 1697 (by decide +kernel) (by decide +kernel)), (kwm 78 (by decide +kernel) (by decide +kernel))⟩, (kwm 139 (by decide +kernel) (by decide +kernel)), kwm 1698 (by decide +kernel) (by decide +kernel)⟩
theorem kh_X12_lookedNow : yX12_lookedNow.cls ≠ "java/lang/invoke/MethodHandle" ∧ yX12_lookedNow.cls ≠ "java/lang/invoke/VarHandle" ∧ (parseMethodDescriptor yX12_lookedNow.desc).map (fun d => d.parameters.length) = some 0 := by decide +kernel
def f_X12_has (h : KH) (v0 : Nat) (v1 : Int32) : Option (Int32) :=
  if v1 = (0 : Int32) then
  if kkind v0 = 12 then if (kR h v0 33) < 999999 then if kkind (kR h v0 33) = 20 then if (((3 : Int32) + v1) < 0 ∨ klen (kR h v0 33) ≤ (((3 : Int32) + v1)).toNatClampNeg) then none else some (kI h (kR h v0 33) ((((3 : Int32) + v1)).toNatClampNeg)) else none else none else none
  else if v1 = (1 : Int32) then
  if kkind v0 = 12 then if (kR h v0 33) < 999999 then if kkind (kR h v0 33) = 20 then if (((3 : Int32) + v1) < 0 ∨ klen (kR h v0 33) ≤ (((3 : Int32) + v1)).toNatClampNeg) then none else some (kI h (kR h v0 33) ((((3 : Int32) + v1)).toNatClampNeg)) else none else none else none
  else if v1 = (2 : Int32) then
  if kkind v0 = 12 then if (kR h v0 33) < 999999 then if kkind (kR h v0 33) = 20 then if (((3 : Int32) + v1) < 0 ∨ klen (kR h v0 33) ≤ (((3 : Int32) + v1)).toNatClampNeg) then none else some (kI h (kR h v0 33) ((((3 : Int32) + v1)).toNatClampNeg)) else none else none else none
  else if v1 = (3 : Int32) then
  if kkind v0 = 12 then if (kR h v0 38) < 999999 then if kkind (kR h v0 38) = 20 then if klen (kR h v0 38) ≤ 2 then none else some (kI h (kR h v0 38) 2) else none else none else none
  else if v1 = (4 : Int32) then
  if kkind v0 = 12 then if (kR h v0 45) < 999999 then if kkind (kR h v0 45) = 20 then if ((v1 - (4 : Int32)) < 0 ∨ klen (kR h v0 45) ≤ ((v1 - (4 : Int32))).toNatClampNeg) then none else some (kI h (kR h v0 45) (((v1 - (4 : Int32))).toNatClampNeg)) else none else none else none
  else if v1 = (5 : Int32) then
  if kkind v0 = 12 then if (kR h v0 45) < 999999 then if kkind (kR h v0 45) = 20 then if ((v1 - (4 : Int32)) < 0 ∨ klen (kR h v0 45) ≤ ((v1 - (4 : Int32))).toNatClampNeg) then none else some (kI h (kR h v0 45) (((v1 - (4 : Int32))).toNatClampNeg)) else none else none else none
  else if v1 = (6 : Int32) then
  if kkind v0 = 12 then kb (f_X12_heardNow h v0) fun r33 =>
  some r33 else none
  else if v1 = (7 : Int32) then
  if kkind v0 = 12 then kb (f_X12_lookedNow h v0) fun r38 =>
  some r38 else none
  else if v1 = (8 : Int32) then
  if kkind v0 = 12 then if (kR h v0 45) < 999999 then if kkind (kR h v0 45) = 20 then if klen (kR h v0 45) ≤ 24 then none else some (kI h (kR h v0 45) 24) else none else none else none
  else if v1 = (9 : Int32) then
  if kkind v0 = 12 then some (kI h v0 58) else none
  else if v1 = (10 : Int32) then
  if kkind v0 = 12 then some (kI h v0 61) else none
  else 
  some (-1 : Int32)
set_option maxHeartbeats 4000000 in
set_option maxRecDepth 100000 in
theorem s0_X12_has {Z : Nat → (Nat → Nat) → State → Prop} (h : KH) (v0 : Nat) (v1 : Int32) {t : Int32} (hn : h.1 = 243) (H : f_X12_has h v0 v1 = some t) : KX Z RX12 cX12_has 2 false 4 (KRi cX12_has t h) 0 [(0, .ref v0), (1, .int v1)] [] h := by
  unfold f_X12_has at H
  refine x_iload_n (q := 1) dX12_has_0 rfl rfl ?_
  replace H := kite H; rcases H with ⟨g1, H⟩ | ⟨g1, H⟩
  · refine x_tableIn (v := (0 : Int32)) (off := 59) dX12_has_1 g1 (by decide) (q := 60) (by decide) ?_
    refine x_aload_n (q := 61) dX12_has_60 rfl rfl ?_
    replace H := kif H; obtain ⟨g2, H⟩ := H
    replace H := kif H; obtain ⟨g3, H⟩ := H
    refine x_getR (q := 64) dX12_has_61 rfl kl_RX12_87 rfl (k243 g2 (by decide) hn) g3 ?_
    refine x_iconst (q := 65) (v := (3 : Int32)) dX12_has_64 rfl (by decide) ?_
    refine x_iload_n (q := 66) dX12_has_65 rfl rfl ?_
    refine x_iadd (q := 67) dX12_has_66 rfl ?_
    replace H := kif H; obtain ⟨g4, H⟩ := H
    replace H := kifn H; obtain ⟨g5, H⟩ := H
    refine x_iald (q := 68) dX12_has_67 rfl (k243 g4 (by decide) hn) g5 ?_
    cases H
    exact x_end ⟨dX12_has_68, rfl, rfl⟩
  replace H := kite H; rcases H with ⟨g6, H⟩ | ⟨g6, H⟩
  · refine x_tableIn (v := (1 : Int32)) (off := 59) dX12_has_1 g6 (by decide) (q := 60) (by decide) ?_
    refine x_aload_n (q := 61) dX12_has_60 rfl rfl ?_
    replace H := kif H; obtain ⟨g7, H⟩ := H
    replace H := kif H; obtain ⟨g8, H⟩ := H
    refine x_getR (q := 64) dX12_has_61 rfl kl_RX12_87 rfl (k243 g7 (by decide) hn) g8 ?_
    refine x_iconst (q := 65) (v := (3 : Int32)) dX12_has_64 rfl (by decide) ?_
    refine x_iload_n (q := 66) dX12_has_65 rfl rfl ?_
    refine x_iadd (q := 67) dX12_has_66 rfl ?_
    replace H := kif H; obtain ⟨g9, H⟩ := H
    replace H := kifn H; obtain ⟨g10, H⟩ := H
    refine x_iald (q := 68) dX12_has_67 rfl (k243 g9 (by decide) hn) g10 ?_
    cases H
    exact x_end ⟨dX12_has_68, rfl, rfl⟩
  replace H := kite H; rcases H with ⟨g11, H⟩ | ⟨g11, H⟩
  · refine x_tableIn (v := (2 : Int32)) (off := 59) dX12_has_1 g11 (by decide) (q := 60) (by decide) ?_
    refine x_aload_n (q := 61) dX12_has_60 rfl rfl ?_
    replace H := kif H; obtain ⟨g12, H⟩ := H
    replace H := kif H; obtain ⟨g13, H⟩ := H
    refine x_getR (q := 64) dX12_has_61 rfl kl_RX12_87 rfl (k243 g12 (by decide) hn) g13 ?_
    refine x_iconst (q := 65) (v := (3 : Int32)) dX12_has_64 rfl (by decide) ?_
    refine x_iload_n (q := 66) dX12_has_65 rfl rfl ?_
    refine x_iadd (q := 67) dX12_has_66 rfl ?_
    replace H := kif H; obtain ⟨g14, H⟩ := H
    replace H := kifn H; obtain ⟨g15, H⟩ := H
    refine x_iald (q := 68) dX12_has_67 rfl (k243 g14 (by decide) hn) g15 ?_
    cases H
    exact x_end ⟨dX12_has_68, rfl, rfl⟩
  replace H := kite H; rcases H with ⟨g16, H⟩ | ⟨g16, H⟩
  · refine x_tableIn (v := (3 : Int32)) (off := 68) dX12_has_1 g16 (by decide) (q := 69) (by decide) ?_
    refine x_aload_n (q := 70) dX12_has_69 rfl rfl ?_
    replace H := kif H; obtain ⟨g17, H⟩ := H
    replace H := kif H; obtain ⟨g18, H⟩ := H
    refine x_getR (q := 73) dX12_has_70 rfl kl_RX12_103 rfl (k243 g17 (by decide) hn) g18 ?_
    refine x_iconst (q := 74) (v := (2 : Int32)) dX12_has_73 rfl (by decide) ?_
    replace H := kif H; obtain ⟨g19, H⟩ := H
    replace H := kifn H; obtain ⟨g20, H⟩ := H
    refine x_iald (q := 75) dX12_has_74 rfl (k243 g19 (by decide) hn) (fun z => z.elim (by decide) g20) ?_
    cases H
    exact x_end ⟨dX12_has_75, rfl, rfl⟩
  replace H := kite H; rcases H with ⟨g21, H⟩ | ⟨g21, H⟩
  · refine x_tableIn (v := (4 : Int32)) (off := 75) dX12_has_1 g21 (by decide) (q := 76) (by decide) ?_
    refine x_aload_n (q := 77) dX12_has_76 rfl rfl ?_
    replace H := kif H; obtain ⟨g22, H⟩ := H
    replace H := kif H; obtain ⟨g23, H⟩ := H
    refine x_getR (q := 80) dX12_has_77 rfl kl_RX12_115 rfl (k243 g22 (by decide) hn) g23 ?_
    refine x_iload_n (q := 81) dX12_has_80 rfl rfl ?_
    refine x_iconst (q := 82) (v := (4 : Int32)) dX12_has_81 rfl (by decide) ?_
    refine x_isub (q := 83) dX12_has_82 rfl ?_
    replace H := kif H; obtain ⟨g24, H⟩ := H
    replace H := kifn H; obtain ⟨g25, H⟩ := H
    refine x_iald (q := 84) dX12_has_83 rfl (k243 g24 (by decide) hn) g25 ?_
    cases H
    exact x_end ⟨dX12_has_84, rfl, rfl⟩
  replace H := kite H; rcases H with ⟨g26, H⟩ | ⟨g26, H⟩
  · refine x_tableIn (v := (5 : Int32)) (off := 75) dX12_has_1 g26 (by decide) (q := 76) (by decide) ?_
    refine x_aload_n (q := 77) dX12_has_76 rfl rfl ?_
    replace H := kif H; obtain ⟨g27, H⟩ := H
    replace H := kif H; obtain ⟨g28, H⟩ := H
    refine x_getR (q := 80) dX12_has_77 rfl kl_RX12_115 rfl (k243 g27 (by decide) hn) g28 ?_
    refine x_iload_n (q := 81) dX12_has_80 rfl rfl ?_
    refine x_iconst (q := 82) (v := (4 : Int32)) dX12_has_81 rfl (by decide) ?_
    refine x_isub (q := 83) dX12_has_82 rfl ?_
    replace H := kif H; obtain ⟨g29, H⟩ := H
    replace H := kifn H; obtain ⟨g30, H⟩ := H
    refine x_iald (q := 84) dX12_has_83 rfl (k243 g29 (by decide) hn) g30 ?_
    cases H
    exact x_end ⟨dX12_has_84, rfl, rfl⟩
  replace H := kite H; rcases H with ⟨g31, H⟩ | ⟨g31, H⟩
  · refine x_tableIn (v := (6 : Int32)) (off := 84) dX12_has_1 g31 (by decide) (q := 85) (by decide) ?_
    refine x_aload_n (q := 86) dX12_has_85 rfl rfl ?_
    replace H := kif H; obtain ⟨g32, H⟩ := H
    replace H := kbe H; obtain ⟨r33, c34, H⟩ := H
    have m35 := s_X12_heardNow (Z := Z) h v0 hn c34
    refine x_callV (q := 89) (as := []) (rest := []) dX12_has_86 rfl kc_RX12_458 kh_X12_heardNow (by decide) (Nat.le_of_ble_eq_true rfl) m35 (ci := 12) (by exact ⟨rfl, by decide⟩) (k243 g32 (by decide) hn) ?_
    cases H
    exact x_end ⟨dX12_has_89, rfl, rfl⟩
  replace H := kite H; rcases H with ⟨g36, H⟩ | ⟨g36, H⟩
  · refine x_tableIn (v := (7 : Int32)) (off := 89) dX12_has_1 g36 (by decide) (q := 90) (by decide) ?_
    refine x_aload_n (q := 91) dX12_has_90 rfl rfl ?_
    replace H := kif H; obtain ⟨g37, H⟩ := H
    replace H := kbe H; obtain ⟨r38, c39, H⟩ := H
    have m40 := s_X12_lookedNow (Z := Z) h v0 hn c39
    refine x_callV (q := 94) (as := []) (rest := []) dX12_has_91 rfl kc_RX12_461 kh_X12_lookedNow (by decide) (Nat.le_of_ble_eq_true rfl) m40 (ci := 12) (by exact ⟨rfl, by decide⟩) (k243 g37 (by decide) hn) ?_
    cases H
    exact x_end ⟨dX12_has_94, rfl, rfl⟩
  replace H := kite H; rcases H with ⟨g41, H⟩ | ⟨g41, H⟩
  · refine x_tableIn (v := (8 : Int32)) (off := 94) dX12_has_1 g41 (by decide) (q := 95) (by decide) ?_
    refine x_aload_n (q := 96) dX12_has_95 rfl rfl ?_
    replace H := kif H; obtain ⟨g42, H⟩ := H
    replace H := kif H; obtain ⟨g43, H⟩ := H
    refine x_getR (q := 99) dX12_has_96 rfl kl_RX12_115 rfl (k243 g42 (by decide) hn) g43 ?_
    refine x_bipush (q := 101) (v := (24 : Int32)) dX12_has_99 rfl (by decide) ?_
    replace H := kif H; obtain ⟨g44, H⟩ := H
    replace H := kifn H; obtain ⟨g45, H⟩ := H
    refine x_iald (q := 102) dX12_has_101 rfl (k243 g44 (by decide) hn) (fun z => z.elim (by decide) g45) ?_
    cases H
    exact x_end ⟨dX12_has_102, rfl, rfl⟩
  replace H := kite H; rcases H with ⟨g46, H⟩ | ⟨g46, H⟩
  · refine x_tableIn (v := (9 : Int32)) (off := 102) dX12_has_1 g46 (by decide) (q := 103) (by decide) ?_
    refine x_aload_n (q := 104) dX12_has_103 rfl rfl ?_
    replace H := kif H; obtain ⟨g47, H⟩ := H
    refine x_getI (q := 107) dX12_has_104 rfl kl_RX12_361 (Or.inl rfl) (k243 g47 (by decide) hn) ?_
    cases H
    exact x_end ⟨dX12_has_107, rfl, rfl⟩
  replace H := kite H; rcases H with ⟨g48, H⟩ | ⟨g48, H⟩
  · refine x_tableIn (v := (10 : Int32)) (off := 107) dX12_has_1 g48 (by decide) (q := 108) (by decide) ?_
    refine x_aload_n (q := 109) dX12_has_108 rfl rfl ?_
    replace H := kif H; obtain ⟨g49, H⟩ := H
    refine x_getI (q := 112) dX12_has_109 rfl kl_RX12_358 (Or.inl rfl) (k243 g49 (by decide) hn) ?_
    cases H
    exact x_end ⟨dX12_has_112, rfl, rfl⟩
  refine x_tableOut dX12_has_1 (q := 113) (by decide) (by have z0 : v1.toInt ≠ 0 := kne g1 (by decide); have z1 : v1.toInt ≠ 1 := kne g6 (by decide); have z2 : v1.toInt ≠ 2 := kne g11 (by decide); have z3 : v1.toInt ≠ 3 := kne g16 (by decide); have z4 : v1.toInt ≠ 4 := kne g21 (by decide); have z5 : v1.toInt ≠ 5 := kne g26 (by decide); have z6 : v1.toInt ≠ 6 := kne g31 (by decide); have z7 : v1.toInt ≠ 7 := kne g36 (by decide); have z8 : v1.toInt ≠ 8 := kne g41 (by decide); have z9 : v1.toInt ≠ 9 := kne g46 (by decide); have z10 : v1.toInt ≠ 10 := kne g48 (by decide); omega) ?_
  refine x_iconst (q := 114) (v := (-1 : Int32)) dX12_has_113 rfl (by decide) ?_
  cases H
  exact x_end ⟨dX12_has_114, rfl, rfl⟩
theorem s_X12_has {Z : Nat → (Nat → Nat) → State → Prop} (h : KH) (v0 : Nat) (v1 : Int32) {t : Int32} (hn : h.1 = 243) (H : f_X12_has h v0 v1 = some t) : KM Z yX12_has cX12_has 2 (some .int) 4 [.ref v0, .int v1] h (some (.int t)) h :=
  kx_i (own := RX12) (ini := false) (by decide +kernel) (by decide +kernel) rfl (Nat.le_of_ble_eq_true rfl) (s0_X12_has h v0 v1 hn H)
theorem dX12_letter_0 : decode cX12_letter 0 = .ok (.iload_n 1, 1) := by decide +kernel
theorem dX12_letter_1 : decode cX12_letter 1 = .ok (.i2l, 1) := by decide +kernel
theorem dX12_letter_2 : decode cX12_letter 2 = .ok (.lconst 0, 1) := by decide +kernel
theorem dX12_letter_3 : decode cX12_letter 3 = .ok (.ldc2_w 464, 3) := by decide +kernel
theorem dX12_letter_6 : decode cX12_letter 6 = .ok (.invokestatic 270, 3) := by decide +kernel
theorem dX12_letter_9 : decode cX12_letter 9 = .ok (.ifCond .eq 35, 3) := by decide +kernel
theorem dX12_letter_12 : decode cX12_letter 12 = .ok (.iload_n 2, 1) := by decide +kernel
theorem dX12_letter_13 : decode cX12_letter 13 = .ok (.i2l, 1) := by decide +kernel
theorem dX12_letter_14 : decode cX12_letter 14 = .ok (.lconst 0, 1) := by decide +kernel
theorem dX12_letter_15 : decode cX12_letter 15 = .ok (.aload_n 0, 1) := by decide +kernel
theorem dX12_letter_16 : decode cX12_letter 16 = .ok (.getfield 87, 3) := by decide +kernel
theorem dX12_letter_19 : decode cX12_letter 19 = .ok (.iconst 3, 1) := by decide +kernel
theorem dX12_letter_20 : decode cX12_letter 20 = .ok (.iload_n 1, 1) := by decide +kernel
theorem dX12_letter_21 : decode cX12_letter 21 = .ok (.iadd, 1) := by decide +kernel
theorem dX12_letter_22 : decode cX12_letter 22 = .ok (.iaload, 1) := by decide +kernel
theorem dX12_letter_23 : decode cX12_letter 23 = .ok (.iconst 1, 1) := by decide +kernel
theorem dX12_letter_24 : decode cX12_letter 24 = .ok (.isub, 1) := by decide +kernel
theorem dX12_letter_25 : decode cX12_letter 25 = .ok (.i2l, 1) := by decide +kernel
theorem dX12_letter_26 : decode cX12_letter 26 = .ok (.invokestatic 270, 3) := by decide +kernel
theorem dX12_letter_29 : decode cX12_letter 29 = .ok (.ifCond .eq 15, 3) := by decide +kernel
theorem dX12_letter_32 : decode cX12_letter 32 = .ok (.iload_n 3, 1) := by decide +kernel
theorem dX12_letter_33 : decode cX12_letter 33 = .ok (.i2l, 1) := by decide +kernel
theorem dX12_letter_34 : decode cX12_letter 34 = .ok (.lconst 0, 1) := by decide +kernel
theorem dX12_letter_35 : decode cX12_letter 35 = .ok (.ldc2_w 466, 3) := by decide +kernel
theorem dX12_letter_38 : decode cX12_letter 38 = .ok (.invokestatic 270, 3) := by decide +kernel
theorem dX12_letter_41 : decode cX12_letter 41 = .ok (.ifCond .ne 5, 3) := by decide +kernel
theorem dX12_letter_44 : decode cX12_letter 44 = .ok (.iconst (-1), 1) := by decide +kernel
theorem dX12_letter_45 : decode cX12_letter 45 = .ok (.ireturn, 1) := by decide +kernel
theorem dX12_letter_46 : decode cX12_letter 46 = .ok (.aload_n 0, 1) := by decide +kernel
theorem dX12_letter_47 : decode cX12_letter 47 = .ok (.getfield 90, 3) := by decide +kernel
theorem dX12_letter_50 : decode cX12_letter 50 = .ok (.bipush 18, 2) := by decide +kernel
theorem dX12_letter_52 : decode cX12_letter 52 = .ok (.bipush 6, 2) := by decide +kernel
theorem dX12_letter_54 : decode cX12_letter 54 = .ok (.iload_n 1, 1) := by decide +kernel
theorem dX12_letter_55 : decode cX12_letter 55 = .ok (.imul, 1) := by decide +kernel
theorem dX12_letter_56 : decode cX12_letter 56 = .ok (.iadd, 1) := by decide +kernel
theorem dX12_letter_57 : decode cX12_letter 57 = .ok (.iload_n 2, 1) := by decide +kernel
theorem dX12_letter_58 : decode cX12_letter 58 = .ok (.iadd, 1) := by decide +kernel
theorem dX12_letter_59 : decode cX12_letter 59 = .ok (.laload, 1) := by decide +kernel
theorem dX12_letter_60 : decode cX12_letter 60 = .ok (.lstore 4, 2) := by decide +kernel
theorem dX12_letter_62 : decode cX12_letter 62 = .ok (.iconst 0, 1) := by decide +kernel
theorem dX12_letter_63 : decode cX12_letter 63 = .ok (.istore 6, 2) := by decide +kernel
theorem dX12_letter_65 : decode cX12_letter 65 = .ok (.lload 4, 2) := by decide +kernel
theorem dX12_letter_67 : decode cX12_letter 67 = .ok (.lstore 7, 2) := by decide +kernel
theorem dX12_letter_69 : decode cX12_letter 69 = .ok (.lload 7, 2) := by decide +kernel
theorem dX12_letter_71 : decode cX12_letter 71 = .ok (.lconst 0, 1) := by decide +kernel
theorem dX12_letter_72 : decode cX12_letter 72 = .ok (.lcmp, 1) := by decide +kernel
theorem dX12_letter_73 : decode cX12_letter 73 = .ok (.ifCond .le 17, 3) := by decide +kernel
theorem dX12_letter_76 : decode cX12_letter 76 = .ok (.iinc 6 1, 3) := by decide +kernel
theorem dX12_letter_79 : decode cX12_letter 79 = .ok (.lload 7, 2) := by decide +kernel
theorem dX12_letter_81 : decode cX12_letter 81 = .ok (.ldc2_w 281, 3) := by decide +kernel
theorem dX12_letter_84 : decode cX12_letter 84 = .ok (.ldiv, 1) := by decide +kernel
theorem dX12_letter_85 : decode cX12_letter 85 = .ok (.lstore 7, 2) := by decide +kernel
theorem dX12_letter_87 : decode cX12_letter 87 = .ok (.goto (-18), 3) := by decide +kernel
theorem dX12_letter_90 : decode cX12_letter 90 = .ok (.iload_n 3, 1) := by decide +kernel
theorem dX12_letter_91 : decode cX12_letter 91 = .ok (.iload 6, 2) := by decide +kernel
theorem dX12_letter_93 : decode cX12_letter 93 = .ok (.if_icmp .lt 5, 3) := by decide +kernel
theorem dX12_letter_96 : decode cX12_letter 96 = .ok (.iconst 0, 1) := by decide +kernel
theorem dX12_letter_97 : decode cX12_letter 97 = .ok (.ireturn, 1) := by decide +kernel
theorem dX12_letter_98 : decode cX12_letter 98 = .ok (.iload 6, 2) := by decide +kernel
theorem dX12_letter_100 : decode cX12_letter 100 = .ok (.iconst 1, 1) := by decide +kernel
theorem dX12_letter_101 : decode cX12_letter 101 = .ok (.isub, 1) := by decide +kernel
theorem dX12_letter_102 : decode cX12_letter 102 = .ok (.istore 7, 2) := by decide +kernel
theorem dX12_letter_104 : decode cX12_letter 104 = .ok (.iload 7, 2) := by decide +kernel
theorem dX12_letter_106 : decode cX12_letter 106 = .ok (.iload_n 3, 1) := by decide +kernel
theorem dX12_letter_107 : decode cX12_letter 107 = .ok (.if_icmp .le 17, 3) := by decide +kernel
theorem dX12_letter_110 : decode cX12_letter 110 = .ok (.lload 4, 2) := by decide +kernel
theorem dX12_letter_112 : decode cX12_letter 112 = .ok (.ldc2_w 281, 3) := by decide +kernel
theorem dX12_letter_115 : decode cX12_letter 115 = .ok (.ldiv, 1) := by decide +kernel
theorem dX12_letter_116 : decode cX12_letter 116 = .ok (.lstore 4, 2) := by decide +kernel
theorem dX12_letter_118 : decode cX12_letter 118 = .ok (.iinc 7 (-1), 3) := by decide +kernel
theorem dX12_letter_121 : decode cX12_letter 121 = .ok (.goto (-17), 3) := by decide +kernel
theorem dX12_letter_124 : decode cX12_letter 124 = .ok (.lload 4, 2) := by decide +kernel
theorem dX12_letter_126 : decode cX12_letter 126 = .ok (.ldc2_w 281, 3) := by decide +kernel
theorem dX12_letter_129 : decode cX12_letter 129 = .ok (.lrem, 1) := by decide +kernel
theorem dX12_letter_130 : decode cX12_letter 130 = .ok (.l2i, 1) := by decide +kernel
theorem dX12_letter_131 : decode cX12_letter 131 = .ok (.ireturn, 1) := by decide +kernel
theorem kk_RX12_464 : Jvm.Cond.constantLong RX12 464 (2 : Int64) ∈ ktG := kwm 1707 (by decide +kernel) (by decide +kernel)
theorem kk_RX12_466 : Jvm.Cond.constantLong RX12 466 (5 : Int64) ∈ ktG := kwm 1708 (by decide +kernel) (by decide +kernel)
def E_X12_letter_l69 (h : KH) (v3 : Int32) (v4 : Int64) : Int32 → Nat → List (Nat × Value) → List Value → KH → Prop := fun (e : Int32) pc ls st hh => pc = 90 ∧ ls = [(3, .int v3), (4, .long v4), (6, .int e)] ∧ st = [] ∧ h = hh
def B_X12_letter_l69 (h : KH) (v3 : Int32) (v4 : Int64) : ((Int32 × Int64) ⊕ (Int32)) → Nat → List (Nat × Value) → List Value → KH → Prop := Sum.elim (fun (s : Int32 × Int64) pc ls st hh => pc = 69 ∧ ls = [(3, .int v3), (4, .long v4), (6, .int s.1), (7, .long s.2)] ∧ st = [] ∧ hh = h) (E_X12_letter_l69 h v3 v4)
def f_X12_letter_l69 (h : KH) (v3 : Int32) (v4 : Int64) (s : Int32 × Int64) : Option ((Int32 × Int64) ⊕ (Int32)) :=
  if (lg_cmp s.2 (0 : Int64)) ≤ 0 then
  some (.inr s.1)
  else
  kl (s.1 + (1 : Int32)) fun x2 =>
  kl (s.2 / (27 : Int64)) fun x4 =>
  some (.inl (x2, x4))
set_option maxHeartbeats 4000000 in
set_option maxRecDepth 100000 in
theorem s_X12_letter_l69 {Z : Nat → (Nat → Nat) → State → Prop} (h : KH) (v3 : Int32) (v4 : Int64) (s : Int32 × Int64) (t : (Int32 × Int64) ⊕ (Int32)) (hn : (h).1 = 243) (H : f_X12_letter_l69 h v3 v4 s = some t) : KX Z RX12 cX12_letter 9 false 2 (B_X12_letter_l69 h v3 v4 t) 69 [(3, .int v3), (4, .long v4), (6, .int s.1), (7, .long s.2)] [] h := by
  unfold f_X12_letter_l69 at H
  refine x_lload (q := 71) dX12_letter_69 rfl rfl ?_
  refine x_lconst (q := 72) (v := (0 : Int64)) dX12_letter_71 rfl (by decide) ?_
  refine x_lcmp (q := 73) dX12_letter_72 rfl ?_
  replace H := kite H; rcases H with ⟨g1, H⟩ | ⟨g1, H⟩
  · refine x_if_le_t dX12_letter_73 (q := 90) (by decide) g1 ?_
    cases H
    refine x_sub (ls2 := [(3, .int v3), (4, .long v4), (6, .int s.1)]) [0, 1, 2] rfl ?_
    exact x_end (x_cfg rfl)
  · refine x_if_le_f (q := 76) dX12_letter_73 (t := 90) (by decide) rfl g1 ?_
    replace H := kle H; obtain ⟨x2, q3, H⟩ := H
    refine x_iinc (q := 79) (i := 6) (ls2 := [(6, .int x2), (3, .int v3), (4, .long v4), (7, .long s.2)]) dX12_letter_76 rfl rfl (by decide) (by rw [q3]; rfl) ?_
    refine x_lload (q := 81) dX12_letter_79 rfl rfl ?_
    refine x_ldc2 (q := 84) (v := (27 : Int64)) dX12_letter_81 rfl kk_RX12_281 ?_
    refine x_ldiv (q := 85) dX12_letter_84 rfl (by decide) ?_
    replace H := kle H; obtain ⟨x4, q5, H⟩ := H
    refine x_nmL q5 ?_
    refine x_lstore (q := 87) (i := 7) (ls2 := [(7, .long x4), (6, .int x2), (3, .int v3), (4, .long v4)]) dX12_letter_85 rfl (by decide) rfl ?_
    refine x_goto dX12_letter_87 (q := 69) (by decide) ?_
    cases H
    refine x_sub (ls2 := [(3, .int v3), (4, .long v4), (6, .int x2), (7, .long x4)]) [2, 3, 1, 0] rfl ?_
    exact x_end (x_cfg rfl)
theorem sl_X12_letter_l69 {Z : Nat → (Nat → Nat) → State → Prop} (h : KH) (v3 : Int32) (v4 : Int64) (n : Nat) (s : Int32 × Int64) (r : Int32) (hn : (h).1 = 243) (H : kloop (f_X12_letter_l69 h v3 v4) n s = some r) : KX Z RX12 cX12_letter 9 false 2 (E_X12_letter_l69 h v3 v4 r) 69 [(3, .int v3), (4, .long v4), (6, .int s.1), (7, .long s.2)] [] h :=
  k_loop (ls := (fun (s : Int32 × Int64) => ([(3, .int v3), (4, .long v4), (6, .int s.1), (7, .long s.2)] : List (Nat × Value)))) (hp := (fun (s : Int32 × Int64) => (h : KH))) (G := E_X12_letter_l69 h v3 v4) (fun s t hn H => s_X12_letter_l69 h v3 v4 s t hn H) n s r hn H
def E_X12_letter_l104 (h : KH) (v3 : Int32) : Int64 → Nat → List (Nat × Value) → List Value → KH → Prop := fun (e : Int64) pc ls st hh => pc = 124 ∧ ls = [(4, .long e)] ∧ st = [] ∧ h = hh
def B_X12_letter_l104 (h : KH) (v3 : Int32) : ((Int64 × Int32) ⊕ (Int64)) → Nat → List (Nat × Value) → List Value → KH → Prop := Sum.elim (fun (s : Int64 × Int32) pc ls st hh => pc = 104 ∧ ls = [(3, .int v3), (4, .long s.1), (7, .int s.2)] ∧ st = [] ∧ hh = h) (E_X12_letter_l104 h v3)
def f_X12_letter_l104 (h : KH) (v3 : Int32) (s : Int64 × Int32) : Option ((Int64 × Int32) ⊕ (Int64)) :=
  if s.2 ≤ v3 then
  some (.inr s.1)
  else
  kl (s.1 / (27 : Int64)) fun x2 =>
  kl (s.2 + (-1 : Int32)) fun x4 =>
  some (.inl (x2, x4))
set_option maxHeartbeats 4000000 in
set_option maxRecDepth 100000 in
theorem s_X12_letter_l104 {Z : Nat → (Nat → Nat) → State → Prop} (h : KH) (v3 : Int32) (s : Int64 × Int32) (t : (Int64 × Int32) ⊕ (Int64)) (hn : (h).1 = 243) (H : f_X12_letter_l104 h v3 s = some t) : KX Z RX12 cX12_letter 9 false 2 (B_X12_letter_l104 h v3 t) 104 [(3, .int v3), (4, .long s.1), (7, .int s.2)] [] h := by
  unfold f_X12_letter_l104 at H
  refine x_iload (q := 106) dX12_letter_104 rfl rfl ?_
  refine x_iload_n (q := 107) dX12_letter_106 rfl rfl ?_
  replace H := kite H; rcases H with ⟨g1, H⟩ | ⟨g1, H⟩
  · refine x_icmp_le_t dX12_letter_107 (q := 124) (by decide) g1 ?_
    cases H
    refine x_sub (ls2 := [(4, .long s.1)]) [1] rfl ?_
    exact x_end (x_cfg rfl)
  · refine x_icmp_le_f (q := 110) dX12_letter_107 (t := 124) (by decide) rfl g1 ?_
    refine x_lload (q := 112) dX12_letter_110 rfl rfl ?_
    refine x_ldc2 (q := 115) (v := (27 : Int64)) dX12_letter_112 rfl kk_RX12_281 ?_
    refine x_ldiv (q := 116) dX12_letter_115 rfl (by decide) ?_
    replace H := kle H; obtain ⟨x2, q3, H⟩ := H
    refine x_nmL q3 ?_
    refine x_lstore (q := 118) (i := 4) (ls2 := [(4, .long x2), (3, .int v3), (7, .int s.2)]) dX12_letter_116 rfl (by decide) rfl ?_
    replace H := kle H; obtain ⟨x4, q5, H⟩ := H
    refine x_iinc (q := 121) (i := 7) (ls2 := [(7, .int x4), (4, .long x2), (3, .int v3)]) dX12_letter_118 rfl rfl (by decide) (by rw [q5]; rfl) ?_
    refine x_goto dX12_letter_121 (q := 104) (by decide) ?_
    cases H
    refine x_sub (ls2 := [(3, .int v3), (4, .long x2), (7, .int x4)]) [2, 1, 0] rfl ?_
    exact x_end (x_cfg rfl)
theorem sl_X12_letter_l104 {Z : Nat → (Nat → Nat) → State → Prop} (h : KH) (v3 : Int32) (n : Nat) (s : Int64 × Int32) (r : Int64) (hn : (h).1 = 243) (H : kloop (f_X12_letter_l104 h v3) n s = some r) : KX Z RX12 cX12_letter 9 false 2 (E_X12_letter_l104 h v3 r) 104 [(3, .int v3), (4, .long s.1), (7, .int s.2)] [] h :=
  k_loop (ls := (fun (s : Int64 × Int32) => ([(3, .int v3), (4, .long s.1), (7, .int s.2)] : List (Nat × Value)))) (hp := (fun (s : Int64 × Int32) => (h : KH))) (G := E_X12_letter_l104 h v3) (fun s t hn H => s_X12_letter_l104 h v3 s t hn H) n s r hn H
def f_X12_letter (h : KH) (v0 : Nat) (v1 : Int32) (v2 : Int32) (v3 : Int32) : Option (Int32) :=
  kb (f_X12_isIn h ((v1).toInt64) (0 : Int64) (2 : Int64)) fun r1 =>
  if r1 = 0 then
  some (-1 : Int32)
  else
  if kkind v0 = 12 then if (kR h v0 33) < 999999 then if kkind (kR h v0 33) = 20 then if (((3 : Int32) + v1) < 0 ∨ klen (kR h v0 33) ≤ (((3 : Int32) + v1)).toNatClampNeg) then none else kb (f_X12_isIn h ((v2).toInt64) (0 : Int64) ((((kI h (kR h v0 33) ((((3 : Int32) + v1)).toNatClampNeg)) - (1 : Int32))).toInt64)) fun r9 =>
  if r9 = 0 then
  some (-1 : Int32)
  else
  kb (f_X12_isIn h ((v3).toInt64) (0 : Int64) (5 : Int64)) fun r13 =>
  if r13 = 0 then
  some (-1 : Int32)
  else
  if (kR h v0 34) < 999999 then if kkind (kR h v0 34) = 21 then if ((((18 : Int32) + ((6 : Int32) * v1)) + v2) < 0 ∨ klen (kR h v0 34) ≤ ((((18 : Int32) + ((6 : Int32) * v1)) + v2)).toNatClampNeg) then none else kl (kL h (kR h v0 34) (((((18 : Int32) + ((6 : Int32) * v1)) + v2)).toNatClampNeg)) fun x20 =>
  kb (kloop (f_X12_letter_l69 h v3 x20) KF ((0 : Int32), x20)) fun e22 =>
  if v3 < e22 then
  kl (e22 - (1 : Int32)) fun x26 =>
  kb (kloop (f_X12_letter_l104 h v3) KF (x20, x26)) fun e28 =>
  some (((e28 - e28 / (27 : Int64) * (27 : Int64))).toInt32)
  else
  some (0 : Int32) else none else none else none else none else none
set_option maxHeartbeats 4000000 in
set_option maxRecDepth 100000 in
theorem s0_X12_letter {Z : Nat → (Nat → Nat) → State → Prop} (h : KH) (v0 : Nat) (v1 : Int32) (v2 : Int32) (v3 : Int32) {t : Int32} (hn : h.1 = 243) (H : f_X12_letter h v0 v1 v2 v3 = some t) : KX Z RX12 cX12_letter 9 false 2 (KRi cX12_letter t h) 0 [(0, .ref v0), (1, .int v1), (2, .int v2), (3, .int v3)] [] h := by
  unfold f_X12_letter at H
  refine x_iload_n (q := 1) dX12_letter_0 rfl rfl ?_
  refine x_i2l (q := 2) dX12_letter_1 rfl ?_
  refine x_lconst (q := 3) (v := (0 : Int64)) dX12_letter_2 rfl (by decide) ?_
  refine x_ldc2 (q := 6) (v := (2 : Int64)) dX12_letter_3 rfl kk_RX12_464 ?_
  replace H := kbe H; obtain ⟨r1, c2, H⟩ := H
  have m3 := s_X12_isIn (Z := Z) h ((v1).toInt64) (0 : Int64) (2 : Int64) hn c2
  refine x_callS (q := 9) (as := [.long ((v1).toInt64), .long (0 : Int64), .long (2 : Int64)]) (rest := []) dX12_letter_6 rfl kc_RX12_270 kh_X12_isIn (by decide) (Nat.le_of_ble_eq_true rfl) m3 ?_
  replace H := kite H; rcases H with ⟨g4, H⟩ | ⟨g4, H⟩
  · refine x_if_eq_t dX12_letter_9 (q := 44) (by decide) g4 ?_
    refine x_iconst (q := 45) (v := (-1 : Int32)) dX12_letter_44 rfl (by decide) ?_
    cases H
    exact x_end ⟨dX12_letter_45, rfl, rfl⟩
  · refine x_if_eq_f (q := 12) dX12_letter_9 (t := 44) (by decide) rfl g4 ?_
    refine x_iload_n (q := 13) dX12_letter_12 rfl rfl ?_
    refine x_i2l (q := 14) dX12_letter_13 rfl ?_
    refine x_lconst (q := 15) (v := (0 : Int64)) dX12_letter_14 rfl (by decide) ?_
    refine x_aload_n (q := 16) dX12_letter_15 rfl rfl ?_
    replace H := kif H; obtain ⟨g5, H⟩ := H
    replace H := kif H; obtain ⟨g6, H⟩ := H
    refine x_getR (q := 19) dX12_letter_16 rfl kl_RX12_87 rfl (k243 g5 (by decide) hn) g6 ?_
    refine x_iconst (q := 20) (v := (3 : Int32)) dX12_letter_19 rfl (by decide) ?_
    refine x_iload_n (q := 21) dX12_letter_20 rfl rfl ?_
    refine x_iadd (q := 22) dX12_letter_21 rfl ?_
    replace H := kif H; obtain ⟨g7, H⟩ := H
    replace H := kifn H; obtain ⟨g8, H⟩ := H
    refine x_iald (q := 23) dX12_letter_22 rfl (k243 g7 (by decide) hn) g8 ?_
    refine x_iconst (q := 24) (v := (1 : Int32)) dX12_letter_23 rfl (by decide) ?_
    refine x_isub (q := 25) dX12_letter_24 rfl ?_
    refine x_i2l (q := 26) dX12_letter_25 rfl ?_
    replace H := kbe H; obtain ⟨r9, c10, H⟩ := H
    have m11 := s_X12_isIn (Z := Z) h ((v2).toInt64) (0 : Int64) ((((kI h (kR h v0 33) ((((3 : Int32) + v1)).toNatClampNeg)) - (1 : Int32))).toInt64) hn c10
    refine x_callS (q := 29) (as := [.long ((v2).toInt64), .long (0 : Int64), .long ((((kI h (kR h v0 33) ((((3 : Int32) + v1)).toNatClampNeg)) - (1 : Int32))).toInt64)]) (rest := []) dX12_letter_26 rfl kc_RX12_270 kh_X12_isIn (by decide) (Nat.le_of_ble_eq_true rfl) m11 ?_
    replace H := kite H; rcases H with ⟨g12, H⟩ | ⟨g12, H⟩
    · refine x_if_eq_t dX12_letter_29 (q := 44) (by decide) g12 ?_
      refine x_iconst (q := 45) (v := (-1 : Int32)) dX12_letter_44 rfl (by decide) ?_
      cases H
      exact x_end ⟨dX12_letter_45, rfl, rfl⟩
    · refine x_if_eq_f (q := 32) dX12_letter_29 (t := 44) (by decide) rfl g12 ?_
      refine x_iload_n (q := 33) dX12_letter_32 rfl rfl ?_
      refine x_i2l (q := 34) dX12_letter_33 rfl ?_
      refine x_lconst (q := 35) (v := (0 : Int64)) dX12_letter_34 rfl (by decide) ?_
      refine x_ldc2 (q := 38) (v := (5 : Int64)) dX12_letter_35 rfl kk_RX12_466 ?_
      replace H := kbe H; obtain ⟨r13, c14, H⟩ := H
      have m15 := s_X12_isIn (Z := Z) h ((v3).toInt64) (0 : Int64) (5 : Int64) hn c14
      refine x_callS (q := 41) (as := [.long ((v3).toInt64), .long (0 : Int64), .long (5 : Int64)]) (rest := []) dX12_letter_38 rfl kc_RX12_270 kh_X12_isIn (by decide) (Nat.le_of_ble_eq_true rfl) m15 ?_
      replace H := kite H; rcases H with ⟨g16, H⟩ | ⟨g16, H⟩
      · refine x_if_ne_f (q := 44) dX12_letter_41 (t := 46) (by decide) rfl g16 ?_
        refine x_iconst (q := 45) (v := (-1 : Int32)) dX12_letter_44 rfl (by decide) ?_
        cases H
        exact x_end ⟨dX12_letter_45, rfl, rfl⟩
      · refine x_if_ne_t dX12_letter_41 (q := 46) (by decide) g16 ?_
        refine x_aload_n (q := 47) dX12_letter_46 rfl rfl ?_
        replace H := kif H; obtain ⟨g17, H⟩ := H
        refine x_getR (q := 50) dX12_letter_47 rfl kl_RX12_90 rfl (k243 g5 (by decide) hn) g17 ?_
        refine x_bipush (q := 52) (v := (18 : Int32)) dX12_letter_50 rfl (by decide) ?_
        refine x_bipush (q := 54) (v := (6 : Int32)) dX12_letter_52 rfl (by decide) ?_
        refine x_iload_n (q := 55) dX12_letter_54 rfl rfl ?_
        refine x_imul (q := 56) dX12_letter_55 rfl ?_
        refine x_iadd (q := 57) dX12_letter_56 rfl ?_
        refine x_iload_n (q := 58) dX12_letter_57 rfl rfl ?_
        refine x_iadd (q := 59) dX12_letter_58 rfl ?_
        replace H := kif H; obtain ⟨g18, H⟩ := H
        replace H := kifn H; obtain ⟨g19, H⟩ := H
        refine x_lald (q := 60) dX12_letter_59 rfl (k243 g18 (by decide) hn) g19 ?_
        replace H := kle H; obtain ⟨x20, q21, H⟩ := H
        refine x_nmL q21 ?_
        refine x_lstore (q := 62) (i := 4) (ls2 := [(4, .long x20), (0, .ref v0), (1, .int v1), (2, .int v2), (3, .int v3)]) dX12_letter_60 rfl (by decide) rfl ?_
        refine x_iconst (q := 63) (v := (0 : Int32)) dX12_letter_62 rfl (by decide) ?_
        refine x_istore (q := 65) (i := 6) (ls2 := [(6, .int (0 : Int32)), (4, .long x20), (0, .ref v0), (1, .int v1), (2, .int v2), (3, .int v3)]) dX12_letter_63 rfl (by decide) rfl ?_
        refine x_lload (q := 67) dX12_letter_65 rfl rfl ?_
        refine x_lstore (q := 69) (i := 7) (ls2 := [(7, .long x20), (6, .int (0 : Int32)), (4, .long x20), (0, .ref v0), (1, .int v1), (2, .int v2), (3, .int v3)]) dX12_letter_67 rfl (by decide) rfl ?_
        refine x_sub (ls2 := [(3, .int v3), (4, .long x20), (6, .int (0 : Int32)), (7, .long x20)]) [6, 2, 1, 0] rfl ?_
        replace H := kbe H; obtain ⟨e22, c23, H⟩ := H
        refine x_app (sl_X12_letter_l69 h v3 x20 KF ((0 : Int32), x20) e22 hn c23) fun pc2 ls2 st2 h2 hg m24 => ?_
        obtain ⟨rfl, rfl, rfl, rfl⟩ := hg
        refine x_iload_n (q := 91) dX12_letter_90 rfl rfl ?_
        refine x_iload (q := 93) dX12_letter_91 rfl rfl ?_
        replace H := kite H; rcases H with ⟨g25, H⟩ | ⟨g25, H⟩
        · refine x_icmp_lt_t dX12_letter_93 (q := 98) (by decide) g25 ?_
          refine x_iload (q := 100) dX12_letter_98 rfl rfl ?_
          refine x_iconst (q := 101) (v := (1 : Int32)) dX12_letter_100 rfl (by decide) ?_
          refine x_isub (q := 102) dX12_letter_101 rfl ?_
          replace H := kle H; obtain ⟨x26, q27, H⟩ := H
          refine x_nmI q27 ?_
          refine x_istore (q := 104) (i := 7) (ls2 := [(7, .int x26), (3, .int v3), (4, .long x20), (6, .int e22)]) dX12_letter_102 rfl (by decide) rfl ?_
          refine x_sub (ls2 := [(3, .int v3), (4, .long x20), (7, .int x26)]) [1, 2, 0] rfl ?_
          replace H := kbe H; obtain ⟨e28, c29, H⟩ := H
          refine x_app (sl_X12_letter_l104 h v3 KF (x20, x26) e28 hn c29) fun pc2 ls2 st2 h2 hg m30 => ?_
          obtain ⟨rfl, rfl, rfl, rfl⟩ := hg
          refine x_lload (q := 126) dX12_letter_124 rfl rfl ?_
          refine x_ldc2 (q := 129) (v := (27 : Int64)) dX12_letter_126 rfl kk_RX12_281 ?_
          refine x_lrem (q := 130) dX12_letter_129 rfl (by decide) ?_
          refine x_l2i (q := 131) dX12_letter_130 rfl ?_
          cases H
          exact x_end ⟨dX12_letter_131, rfl, rfl⟩
        · refine x_icmp_lt_f (q := 96) dX12_letter_93 (t := 98) (by decide) rfl g25 ?_
          refine x_iconst (q := 97) (v := (0 : Int32)) dX12_letter_96 rfl (by decide) ?_
          cases H
          exact x_end ⟨dX12_letter_97, rfl, rfl⟩
theorem s_X12_letter {Z : Nat → (Nat → Nat) → State → Prop} (h : KH) (v0 : Nat) (v1 : Int32) (v2 : Int32) (v3 : Int32) {t : Int32} (hn : h.1 = 243) (H : f_X12_letter h v0 v1 v2 v3 = some t) : KM Z yX12_letter cX12_letter 9 (some .int) 2 [.ref v0, .int v1, .int v2, .int v3] h (some (.int t)) h :=
  kx_i (own := RX12) (ini := false) (by decide +kernel) (by decide +kernel) rfl (Nat.le_of_ble_eq_true rfl) (s0_X12_letter h v0 v1 v2 v3 hn H)
theorem dX12_kind_0 : decode cX12_kind 0 = .ok (.aload_n 0, 1) := by decide +kernel
theorem dX12_kind_1 : decode cX12_kind 1 = .ok (.iload_n 1, 1) := by decide +kernel
theorem dX12_kind_2 : decode cX12_kind 2 = .ok (.invokevirtual 468, 3) := by decide +kernel
theorem dX12_kind_5 : decode cX12_kind 5 = .ok (.ifCond .eq 31, 3) := by decide +kernel
theorem dX12_kind_8 : decode cX12_kind 8 = .ok (.iload_n 2, 1) := by decide +kernel
theorem dX12_kind_9 : decode cX12_kind 9 = .ok (.i2l, 1) := by decide +kernel
theorem dX12_kind_10 : decode cX12_kind 10 = .ok (.lconst 0, 1) := by decide +kernel
theorem dX12_kind_11 : decode cX12_kind 11 = .ok (.ldc2_w 471, 3) := by decide +kernel
theorem dX12_kind_14 : decode cX12_kind 14 = .ok (.invokestatic 270, 3) := by decide +kernel
theorem dX12_kind_17 : decode cX12_kind 17 = .ok (.ifCond .eq 19, 3) := by decide +kernel
theorem dX12_kind_20 : decode cX12_kind 20 = .ok (.aload_n 0, 1) := by decide +kernel
theorem dX12_kind_21 : decode cX12_kind 21 = .ok (.getfield 94, 3) := by decide +kernel
theorem dX12_kind_24 : decode cX12_kind 24 = .ok (.bipush 24, 2) := by decide +kernel
theorem dX12_kind_26 : decode cX12_kind 26 = .ok (.iconst 4, 1) := by decide +kernel
theorem dX12_kind_27 : decode cX12_kind 27 = .ok (.iload_n 1, 1) := by decide +kernel
theorem dX12_kind_28 : decode cX12_kind 28 = .ok (.imul, 1) := by decide +kernel
theorem dX12_kind_29 : decode cX12_kind 29 = .ok (.iadd, 1) := by decide +kernel
theorem dX12_kind_30 : decode cX12_kind 30 = .ok (.iload_n 2, 1) := by decide +kernel
theorem dX12_kind_31 : decode cX12_kind 31 = .ok (.iadd, 1) := by decide +kernel
theorem dX12_kind_32 : decode cX12_kind 32 = .ok (.iaload, 1) := by decide +kernel
theorem dX12_kind_33 : decode cX12_kind 33 = .ok (.goto 4, 3) := by decide +kernel
theorem dX12_kind_36 : decode cX12_kind 36 = .ok (.iconst (-1), 1) := by decide +kernel
theorem dX12_kind_37 : decode cX12_kind 37 = .ok (.ireturn, 1) := by decide +kernel
theorem kc_RX12_468 : Cond.methodLink RX12 468 yX12_isKind ∈ ktG ∧ (Cond.instanceMethod yX12_isKind ∈ ktG ∧ Cond.selects yX12_isKind.cls yX12_isKind yX12_isKind ∈ ktG) ∧ Cond.initialized yX12_isKind.cls ∈ ktG ∧ Cond.code yX12_isKind cX12_isKind 2 (some .boolean) ∈ ktG := ⟨(kwm 1713 (by decide +kernel) (by decide +kernel)), ⟨(kwm 1715 (by decide +kernel) (by decide +kernel)), (kwm 80 (by decide +kernel) (by decide +kernel))⟩, (kwm 139 (by decide +kernel) (by decide +kernel)), kwm 1716 (by decide +kernel) (by decide +kernel)⟩
theorem kh_X12_isKind : yX12_isKind.cls ≠ "java/lang/invoke/MethodHandle" ∧ yX12_isKind.cls ≠ "java/lang/invoke/VarHandle" ∧ (parseMethodDescriptor yX12_isKind.desc).map (fun d => d.parameters.length) = some 1 := by decide +kernel
theorem kk_RX12_471 : Jvm.Cond.constantLong RX12 471 (3 : Int64) ∈ ktG := kwm 1721 (by decide +kernel) (by decide +kernel)
def f_X12_kind (h : KH) (v0 : Nat) (v1 : Int32) (v2 : Int32) : Option (Int32) :=
  if kkind v0 = 12 then kb (f_X12_isKind h v0 v1) fun r2 =>
  if r2 = 0 then
  some (-1 : Int32)
  else
  kb (f_X12_isIn h ((v2).toInt64) (0 : Int64) (3 : Int64)) fun r6 =>
  if r6 = 0 then
  some (-1 : Int32)
  else
  if (kR h v0 35) < 999999 then if kkind (kR h v0 35) = 20 then if ((((24 : Int32) + ((4 : Int32) * v1)) + v2) < 0 ∨ klen (kR h v0 35) ≤ ((((24 : Int32) + ((4 : Int32) * v1)) + v2)).toNatClampNeg) then none else some (kI h (kR h v0 35) (((((24 : Int32) + ((4 : Int32) * v1)) + v2)).toNatClampNeg)) else none else none else none
set_option maxHeartbeats 4000000 in
set_option maxRecDepth 100000 in
theorem s0_X12_kind {Z : Nat → (Nat → Nat) → State → Prop} (h : KH) (v0 : Nat) (v1 : Int32) (v2 : Int32) {t : Int32} (hn : h.1 = 243) (H : f_X12_kind h v0 v1 v2 = some t) : KX Z RX12 cX12_kind 3 false 3 (KRi cX12_kind t h) 0 [(0, .ref v0), (1, .int v1), (2, .int v2)] [] h := by
  unfold f_X12_kind at H
  refine x_aload_n (q := 1) dX12_kind_0 rfl rfl ?_
  refine x_iload_n (q := 2) dX12_kind_1 rfl rfl ?_
  replace H := kif H; obtain ⟨g1, H⟩ := H
  replace H := kbe H; obtain ⟨r2, c3, H⟩ := H
  have m4 := s_X12_isKind (Z := Z) h v0 v1 hn c3
  refine x_callV (q := 5) (as := [.int v1]) (rest := []) dX12_kind_2 rfl kc_RX12_468 kh_X12_isKind (by decide) (Nat.le_of_ble_eq_true rfl) m4 (ci := 12) (by exact ⟨rfl, by decide⟩) (k243 g1 (by decide) hn) ?_
  replace H := kite H; rcases H with ⟨g5, H⟩ | ⟨g5, H⟩
  · refine x_if_eq_t dX12_kind_5 (q := 36) (by decide) g5 ?_
    refine x_iconst (q := 37) (v := (-1 : Int32)) dX12_kind_36 rfl (by decide) ?_
    cases H
    exact x_end ⟨dX12_kind_37, rfl, rfl⟩
  · refine x_if_eq_f (q := 8) dX12_kind_5 (t := 36) (by decide) rfl g5 ?_
    refine x_iload_n (q := 9) dX12_kind_8 rfl rfl ?_
    refine x_i2l (q := 10) dX12_kind_9 rfl ?_
    refine x_lconst (q := 11) (v := (0 : Int64)) dX12_kind_10 rfl (by decide) ?_
    refine x_ldc2 (q := 14) (v := (3 : Int64)) dX12_kind_11 rfl kk_RX12_471 ?_
    replace H := kbe H; obtain ⟨r6, c7, H⟩ := H
    have m8 := s_X12_isIn (Z := Z) h ((v2).toInt64) (0 : Int64) (3 : Int64) hn c7
    refine x_callS (q := 17) (as := [.long ((v2).toInt64), .long (0 : Int64), .long (3 : Int64)]) (rest := []) dX12_kind_14 rfl kc_RX12_270 kh_X12_isIn (by decide) (Nat.le_of_ble_eq_true rfl) m8 ?_
    replace H := kite H; rcases H with ⟨g9, H⟩ | ⟨g9, H⟩
    · refine x_if_eq_t dX12_kind_17 (q := 36) (by decide) g9 ?_
      refine x_iconst (q := 37) (v := (-1 : Int32)) dX12_kind_36 rfl (by decide) ?_
      cases H
      exact x_end ⟨dX12_kind_37, rfl, rfl⟩
    · refine x_if_eq_f (q := 20) dX12_kind_17 (t := 36) (by decide) rfl g9 ?_
      refine x_aload_n (q := 21) dX12_kind_20 rfl rfl ?_
      replace H := kif H; obtain ⟨g10, H⟩ := H
      refine x_getR (q := 24) dX12_kind_21 rfl kl_RX12_94 rfl (k243 g1 (by decide) hn) g10 ?_
      refine x_bipush (q := 26) (v := (24 : Int32)) dX12_kind_24 rfl (by decide) ?_
      refine x_iconst (q := 27) (v := (4 : Int32)) dX12_kind_26 rfl (by decide) ?_
      refine x_iload_n (q := 28) dX12_kind_27 rfl rfl ?_
      refine x_imul (q := 29) dX12_kind_28 rfl ?_
      refine x_iadd (q := 30) dX12_kind_29 rfl ?_
      refine x_iload_n (q := 31) dX12_kind_30 rfl rfl ?_
      refine x_iadd (q := 32) dX12_kind_31 rfl ?_
      replace H := kif H; obtain ⟨g11, H⟩ := H
      replace H := kifn H; obtain ⟨g12, H⟩ := H
      refine x_iald (q := 33) dX12_kind_32 rfl (k243 g11 (by decide) hn) g12 ?_
      refine x_goto dX12_kind_33 (q := 37) (by decide) ?_
      cases H
      exact x_end ⟨dX12_kind_37, rfl, rfl⟩
theorem s_X12_kind {Z : Nat → (Nat → Nat) → State → Prop} (h : KH) (v0 : Nat) (v1 : Int32) (v2 : Int32) {t : Int32} (hn : h.1 = 243) (H : f_X12_kind h v0 v1 v2 = some t) : KM Z yX12_kind cX12_kind 3 (some .int) 3 [.ref v0, .int v1, .int v2] h (some (.int t)) h :=
  kx_i (own := RX12) (ini := false) (by decide +kernel) (by decide +kernel) rfl (Nat.le_of_ble_eq_true rfl) (s0_X12_kind h v0 v1 v2 hn H)
theorem dX12_test_0 : decode cX12_test 0 = .ok (.aload_n 0, 1) := by decide +kernel
theorem dX12_test_1 : decode cX12_test 1 = .ok (.iload_n 1, 1) := by decide +kernel
theorem dX12_test_2 : decode cX12_test 2 = .ok (.invokevirtual 473, 3) := by decide +kernel
theorem dX12_test_5 : decode cX12_test 5 = .ok (.ifCond .ne 5, 3) := by decide +kernel
theorem dX12_test_8 : decode cX12_test 8 = .ok (.iconst (-1), 1) := by decide +kernel
theorem dX12_test_9 : decode cX12_test 9 = .ok (.ireturn, 1) := by decide +kernel
theorem dX12_test_10 : decode cX12_test 10 = .ok (.iload_n 2, 1) := by decide +kernel
theorem dX12_test_11 : decode cX12_test 11 = .ok (.ifCond .ne 15, 3) := by decide +kernel
theorem dX12_test_14 : decode cX12_test 14 = .ok (.aload_n 0, 1) := by decide +kernel
theorem dX12_test_15 : decode cX12_test 15 = .ok (.getfield 97, 3) := by decide +kernel
theorem dX12_test_18 : decode cX12_test 18 = .ok (.bipush 6, 2) := by decide +kernel
theorem dX12_test_20 : decode cX12_test 20 = .ok (.iload_n 1, 1) := by decide +kernel
theorem dX12_test_21 : decode cX12_test 21 = .ok (.iadd, 1) := by decide +kernel
theorem dX12_test_22 : decode cX12_test 22 = .ok (.iaload, 1) := by decide +kernel
theorem dX12_test_23 : decode cX12_test 23 = .ok (.goto 30, 3) := by decide +kernel
theorem dX12_test_26 : decode cX12_test 26 = .ok (.iload_n 2, 1) := by decide +kernel
theorem dX12_test_27 : decode cX12_test 27 = .ok (.iconst 1, 1) := by decide +kernel
theorem dX12_test_28 : decode cX12_test 28 = .ok (.if_icmp .ne 11, 3) := by decide +kernel
theorem dX12_test_31 : decode cX12_test 31 = .ok (.aload_n 0, 1) := by decide +kernel
theorem dX12_test_32 : decode cX12_test 32 = .ok (.iload_n 1, 1) := by decide +kernel
theorem dX12_test_33 : decode cX12_test 33 = .ok (.invokevirtual 412, 3) := by decide +kernel
theorem dX12_test_36 : decode cX12_test 36 = .ok (.goto 17, 3) := by decide +kernel
theorem dX12_test_39 : decode cX12_test 39 = .ok (.iload_n 2, 1) := by decide +kernel
theorem dX12_test_40 : decode cX12_test 40 = .ok (.iconst 2, 1) := by decide +kernel
theorem dX12_test_41 : decode cX12_test 41 = .ok (.if_icmp .ne 11, 3) := by decide +kernel
theorem dX12_test_44 : decode cX12_test 44 = .ok (.aload_n 0, 1) := by decide +kernel
theorem dX12_test_45 : decode cX12_test 45 = .ok (.iload_n 1, 1) := by decide +kernel
theorem dX12_test_46 : decode cX12_test 46 = .ok (.invokevirtual 400, 3) := by decide +kernel
theorem dX12_test_49 : decode cX12_test 49 = .ok (.goto 4, 3) := by decide +kernel
theorem dX12_test_52 : decode cX12_test 52 = .ok (.iconst (-1), 1) := by decide +kernel
theorem dX12_test_53 : decode cX12_test 53 = .ok (.ireturn, 1) := by decide +kernel
theorem kc_RX12_473 : Cond.methodLink RX12 473 yX12_isTest ∈ ktG ∧ (Cond.instanceMethod yX12_isTest ∈ ktG ∧ Cond.selects yX12_isTest.cls yX12_isTest yX12_isTest ∈ ktG) ∧ Cond.initialized yX12_isTest.cls ∈ ktG ∧ Cond.code yX12_isTest cX12_isTest 2 (some .boolean) ∈ ktG := ⟨(kwm 1726 (by decide +kernel) (by decide +kernel)), ⟨(kwm 1728 (by decide +kernel) (by decide +kernel)), (kwm 82 (by decide +kernel) (by decide +kernel))⟩, (kwm 139 (by decide +kernel) (by decide +kernel)), kwm 1729 (by decide +kernel) (by decide +kernel)⟩
theorem kh_X12_isTest : yX12_isTest.cls ≠ "java/lang/invoke/MethodHandle" ∧ yX12_isTest.cls ≠ "java/lang/invoke/VarHandle" ∧ (parseMethodDescriptor yX12_isTest.desc).map (fun d => d.parameters.length) = some 1 := by decide +kernel
def f_X12_test (h : KH) (v0 : Nat) (v1 : Int32) (v2 : Int32) : Option (Int32) :=
  if kkind v0 = 12 then kb (f_X12_isTest h v0 v1) fun r2 =>
  if r2 = 0 then
  some (-1 : Int32)
  else
  if v2 = 0 then
  if (kR h v0 36) < 999999 then if kkind (kR h v0 36) = 20 then if (((6 : Int32) + v1) < 0 ∨ klen (kR h v0 36) ≤ (((6 : Int32) + v1)).toNatClampNeg) then none else some (kI h (kR h v0 36) ((((6 : Int32) + v1)).toNatClampNeg)) else none else none
  else
  if v2 = (1 : Int32) then
  kb (f_X12_heardOf h v0 v1) fun r12 =>
  some r12
  else
  if v2 = (2 : Int32) then
  kb (f_X12_stateOf h v0 v1) fun r9 =>
  some r9
  else
  some (-1 : Int32) else none
set_option maxHeartbeats 4000000 in
set_option maxRecDepth 100000 in
theorem s0_X12_test {Z : Nat → (Nat → Nat) → State → Prop} (h : KH) (v0 : Nat) (v1 : Int32) (v2 : Int32) {t : Int32} (hn : h.1 = 243) (H : f_X12_test h v0 v1 v2 = some t) : KX Z RX12 cX12_test 3 false 3 (KRi cX12_test t h) 0 [(0, .ref v0), (1, .int v1), (2, .int v2)] [] h := by
  unfold f_X12_test at H
  refine x_aload_n (q := 1) dX12_test_0 rfl rfl ?_
  refine x_iload_n (q := 2) dX12_test_1 rfl rfl ?_
  replace H := kif H; obtain ⟨g1, H⟩ := H
  replace H := kbe H; obtain ⟨r2, c3, H⟩ := H
  have m4 := s_X12_isTest (Z := Z) h v0 v1 hn c3
  refine x_callV (q := 5) (as := [.int v1]) (rest := []) dX12_test_2 rfl kc_RX12_473 kh_X12_isTest (by decide) (Nat.le_of_ble_eq_true rfl) m4 (ci := 12) (by exact ⟨rfl, by decide⟩) (k243 g1 (by decide) hn) ?_
  replace H := kite H; rcases H with ⟨g5, H⟩ | ⟨g5, H⟩
  · refine x_if_ne_f (q := 8) dX12_test_5 (t := 10) (by decide) rfl g5 ?_
    refine x_iconst (q := 9) (v := (-1 : Int32)) dX12_test_8 rfl (by decide) ?_
    cases H
    exact x_end ⟨dX12_test_9, rfl, rfl⟩
  · refine x_if_ne_t dX12_test_5 (q := 10) (by decide) g5 ?_
    refine x_iload_n (q := 11) dX12_test_10 rfl rfl ?_
    replace H := kite H; rcases H with ⟨g6, H⟩ | ⟨g6, H⟩
    · refine x_if_ne_f (q := 14) dX12_test_11 (t := 26) (by decide) rfl g6 ?_
      refine x_aload_n (q := 15) dX12_test_14 rfl rfl ?_
      replace H := kif H; obtain ⟨g15, H⟩ := H
      refine x_getR (q := 18) dX12_test_15 rfl kl_RX12_97 rfl (k243 g1 (by decide) hn) g15 ?_
      refine x_bipush (q := 20) (v := (6 : Int32)) dX12_test_18 rfl (by decide) ?_
      refine x_iload_n (q := 21) dX12_test_20 rfl rfl ?_
      refine x_iadd (q := 22) dX12_test_21 rfl ?_
      replace H := kif H; obtain ⟨g16, H⟩ := H
      replace H := kifn H; obtain ⟨g17, H⟩ := H
      refine x_iald (q := 23) dX12_test_22 rfl (k243 g16 (by decide) hn) g17 ?_
      refine x_goto dX12_test_23 (q := 53) (by decide) ?_
      cases H
      exact x_end ⟨dX12_test_53, rfl, rfl⟩
    · refine x_if_ne_t dX12_test_11 (q := 26) (by decide) g6 ?_
      refine x_iload_n (q := 27) dX12_test_26 rfl rfl ?_
      refine x_iconst (q := 28) (v := (1 : Int32)) dX12_test_27 rfl (by decide) ?_
      replace H := kite H; rcases H with ⟨g7, H⟩ | ⟨g7, H⟩
      · refine x_icmp_ne_f (q := 31) dX12_test_28 (t := 39) (by decide) rfl g7 ?_
        refine x_aload_n (q := 32) dX12_test_31 rfl rfl ?_
        refine x_iload_n (q := 33) dX12_test_32 rfl rfl ?_
        replace H := kbe H; obtain ⟨r12, c13, H⟩ := H
        have m14 := s_X12_heardOf (Z := Z) h v0 v1 hn c13
        refine x_callV (q := 36) (as := [.int v1]) (rest := []) dX12_test_33 rfl kc_RX12_412 kh_X12_heardOf (by decide) (Nat.le_of_ble_eq_true rfl) m14 (ci := 12) (by exact ⟨rfl, by decide⟩) (k243 g1 (by decide) hn) ?_
        refine x_goto dX12_test_36 (q := 53) (by decide) ?_
        cases H
        exact x_end ⟨dX12_test_53, rfl, rfl⟩
      · refine x_icmp_ne_t dX12_test_28 (q := 39) (by decide) g7 ?_
        refine x_iload_n (q := 40) dX12_test_39 rfl rfl ?_
        refine x_iconst (q := 41) (v := (2 : Int32)) dX12_test_40 rfl (by decide) ?_
        replace H := kite H; rcases H with ⟨g8, H⟩ | ⟨g8, H⟩
        · refine x_icmp_ne_f (q := 44) dX12_test_41 (t := 52) (by decide) rfl g8 ?_
          refine x_aload_n (q := 45) dX12_test_44 rfl rfl ?_
          refine x_iload_n (q := 46) dX12_test_45 rfl rfl ?_
          replace H := kbe H; obtain ⟨r9, c10, H⟩ := H
          have m11 := s_X12_stateOf (Z := Z) h v0 v1 hn c10
          refine x_callV (q := 49) (as := [.int v1]) (rest := []) dX12_test_46 rfl kc_RX12_400 kh_X12_stateOf (by decide) (Nat.le_of_ble_eq_true rfl) m11 (ci := 12) (by exact ⟨rfl, by decide⟩) (k243 g1 (by decide) hn) ?_
          refine x_goto dX12_test_49 (q := 53) (by decide) ?_
          cases H
          exact x_end ⟨dX12_test_53, rfl, rfl⟩
        · refine x_icmp_ne_t dX12_test_41 (q := 52) (by decide) g8 ?_
          refine x_iconst (q := 53) (v := (-1 : Int32)) dX12_test_52 rfl (by decide) ?_
          cases H
          exact x_end ⟨dX12_test_53, rfl, rfl⟩
theorem s_X12_test {Z : Nat → (Nat → Nat) → State → Prop} (h : KH) (v0 : Nat) (v1 : Int32) (v2 : Int32) {t : Int32} (hn : h.1 = 243) (H : f_X12_test h v0 v1 v2 = some t) : KM Z yX12_test cX12_test 3 (some .int) 3 [.ref v0, .int v1, .int v2] h (some (.int t)) h :=
  kx_i (own := RX12) (ini := false) (by decide +kernel) (by decide +kernel) rfl (Nat.le_of_ble_eq_true rfl) (s0_X12_test h v0 v1 v2 hn H)
theorem dX12_mark_0 : decode cX12_mark 0 = .ok (.iload_n 1, 1) := by decide +kernel
theorem dX12_mark_1 : decode cX12_mark 1 = .ok (.i2l, 1) := by decide +kernel
theorem dX12_mark_2 : decode cX12_mark 2 = .ok (.lconst 0, 1) := by decide +kernel
theorem dX12_mark_3 : decode cX12_mark 3 = .ok (.aload_n 0, 1) := by decide +kernel
theorem dX12_mark_4 : decode cX12_mark 4 = .ok (.invokevirtual 403, 3) := by decide +kernel
theorem dX12_mark_7 : decode cX12_mark 7 = .ok (.iconst 1, 1) := by decide +kernel
theorem dX12_mark_8 : decode cX12_mark 8 = .ok (.isub, 1) := by decide +kernel
theorem dX12_mark_9 : decode cX12_mark 9 = .ok (.i2l, 1) := by decide +kernel
theorem dX12_mark_10 : decode cX12_mark 10 = .ok (.invokestatic 270, 3) := by decide +kernel
theorem dX12_mark_13 : decode cX12_mark 13 = .ok (.ifCond .ne 5, 3) := by decide +kernel
theorem dX12_mark_16 : decode cX12_mark 16 = .ok (.iconst (-1), 1) := by decide +kernel
theorem dX12_mark_17 : decode cX12_mark 17 = .ok (.ireturn, 1) := by decide +kernel
theorem dX12_mark_18 : decode cX12_mark 18 = .ok (.iload_n 2, 1) := by decide +kernel
theorem dX12_mark_19 : decode cX12_mark 19 = .ok (.i2l, 1) := by decide +kernel
theorem dX12_mark_20 : decode cX12_mark 20 = .ok (.lconst 0, 1) := by decide +kernel
theorem dX12_mark_21 : decode cX12_mark 21 = .ok (.lconst 1, 1) := by decide +kernel
theorem dX12_mark_22 : decode cX12_mark 22 = .ok (.invokestatic 270, 3) := by decide +kernel
theorem dX12_mark_25 : decode cX12_mark 25 = .ok (.ifCond .eq 19, 3) := by decide +kernel
theorem dX12_mark_28 : decode cX12_mark 28 = .ok (.aload_n 0, 1) := by decide +kernel
theorem dX12_mark_29 : decode cX12_mark 29 = .ok (.getfield 100, 3) := by decide +kernel
theorem dX12_mark_32 : decode cX12_mark 32 = .ok (.bipush 10, 2) := by decide +kernel
theorem dX12_mark_34 : decode cX12_mark 34 = .ok (.iconst 2, 1) := by decide +kernel
theorem dX12_mark_35 : decode cX12_mark 35 = .ok (.iload_n 1, 1) := by decide +kernel
theorem dX12_mark_36 : decode cX12_mark 36 = .ok (.imul, 1) := by decide +kernel
theorem dX12_mark_37 : decode cX12_mark 37 = .ok (.iadd, 1) := by decide +kernel
theorem dX12_mark_38 : decode cX12_mark 38 = .ok (.iload_n 2, 1) := by decide +kernel
theorem dX12_mark_39 : decode cX12_mark 39 = .ok (.iadd, 1) := by decide +kernel
theorem dX12_mark_40 : decode cX12_mark 40 = .ok (.iaload, 1) := by decide +kernel
theorem dX12_mark_41 : decode cX12_mark 41 = .ok (.goto 29, 3) := by decide +kernel
theorem dX12_mark_44 : decode cX12_mark 44 = .ok (.iload_n 2, 1) := by decide +kernel
theorem dX12_mark_45 : decode cX12_mark 45 = .ok (.i2l, 1) := by decide +kernel
theorem dX12_mark_46 : decode cX12_mark 46 = .ok (.ldc2_w 464, 3) := by decide +kernel
theorem dX12_mark_49 : decode cX12_mark 49 = .ok (.ldc2_w 471, 3) := by decide +kernel
theorem dX12_mark_52 : decode cX12_mark 52 = .ok (.invokestatic 270, 3) := by decide +kernel
theorem dX12_mark_55 : decode cX12_mark 55 = .ok (.ifCond .eq 14, 3) := by decide +kernel
theorem dX12_mark_58 : decode cX12_mark 58 = .ok (.aload_n 0, 1) := by decide +kernel
theorem dX12_mark_59 : decode cX12_mark 59 = .ok (.iload_n 1, 1) := by decide +kernel
theorem dX12_mark_60 : decode cX12_mark 60 = .ok (.iload_n 2, 1) := by decide +kernel
theorem dX12_mark_61 : decode cX12_mark 61 = .ok (.iconst 2, 1) := by decide +kernel
theorem dX12_mark_62 : decode cX12_mark 62 = .ok (.isub, 1) := by decide +kernel
theorem dX12_mark_63 : decode cX12_mark 63 = .ok (.invokevirtual 406, 3) := by decide +kernel
theorem dX12_mark_66 : decode cX12_mark 66 = .ok (.goto 4, 3) := by decide +kernel
theorem dX12_mark_69 : decode cX12_mark 69 = .ok (.iconst (-1), 1) := by decide +kernel
theorem dX12_mark_70 : decode cX12_mark 70 = .ok (.ireturn, 1) := by decide +kernel
def f_X12_mark (h : KH) (v0 : Nat) (v1 : Int32) (v2 : Int32) : Option (Int32) :=
  if kkind v0 = 12 then kb (f_X12_markMany h v0) fun r2 =>
  kb (f_X12_isIn h ((v1).toInt64) (0 : Int64) (((r2 - (1 : Int32))).toInt64)) fun r5 =>
  if r5 = 0 then
  some (-1 : Int32)
  else
  kb (f_X12_isIn h ((v2).toInt64) (0 : Int64) (1 : Int64)) fun r9 =>
  if r9 = 0 then
  kb (f_X12_isIn h ((v2).toInt64) (2 : Int64) (3 : Int64)) fun r13 =>
  if r13 = 0 then
  some (-1 : Int32)
  else
  kb (f_X12_markOf h v0 v1 (v2 - (2 : Int32))) fun r17 =>
  some r17
  else
  if (kR h v0 37) < 999999 then if kkind (kR h v0 37) = 20 then if ((((10 : Int32) + ((2 : Int32) * v1)) + v2) < 0 ∨ klen (kR h v0 37) ≤ ((((10 : Int32) + ((2 : Int32) * v1)) + v2)).toNatClampNeg) then none else some (kI h (kR h v0 37) (((((10 : Int32) + ((2 : Int32) * v1)) + v2)).toNatClampNeg)) else none else none else none
set_option maxHeartbeats 4000000 in
set_option maxRecDepth 100000 in
theorem s0_X12_mark {Z : Nat → (Nat → Nat) → State → Prop} (h : KH) (v0 : Nat) (v1 : Int32) (v2 : Int32) {t : Int32} (hn : h.1 = 243) (H : f_X12_mark h v0 v1 v2 = some t) : KX Z RX12 cX12_mark 3 false 2 (KRi cX12_mark t h) 0 [(0, .ref v0), (1, .int v1), (2, .int v2)] [] h := by
  unfold f_X12_mark at H
  refine x_iload_n (q := 1) dX12_mark_0 rfl rfl ?_
  refine x_i2l (q := 2) dX12_mark_1 rfl ?_
  refine x_lconst (q := 3) (v := (0 : Int64)) dX12_mark_2 rfl (by decide) ?_
  refine x_aload_n (q := 4) dX12_mark_3 rfl rfl ?_
  replace H := kif H; obtain ⟨g1, H⟩ := H
  replace H := kbe H; obtain ⟨r2, c3, H⟩ := H
  have m4 := s_X12_markMany (Z := Z) h v0 hn c3
  refine x_callV (q := 7) (as := []) (rest := [.long (0 : Int64), .long ((v1).toInt64)]) dX12_mark_4 rfl kc_RX12_403 kh_X12_markMany (by decide) (Nat.le_of_ble_eq_true rfl) m4 (ci := 12) (by exact ⟨rfl, by decide⟩) (k243 g1 (by decide) hn) ?_
  refine x_iconst (q := 8) (v := (1 : Int32)) dX12_mark_7 rfl (by decide) ?_
  refine x_isub (q := 9) dX12_mark_8 rfl ?_
  refine x_i2l (q := 10) dX12_mark_9 rfl ?_
  replace H := kbe H; obtain ⟨r5, c6, H⟩ := H
  have m7 := s_X12_isIn (Z := Z) h ((v1).toInt64) (0 : Int64) (((r2 - (1 : Int32))).toInt64) hn c6
  refine x_callS (q := 13) (as := [.long ((v1).toInt64), .long (0 : Int64), .long (((r2 - (1 : Int32))).toInt64)]) (rest := []) dX12_mark_10 rfl kc_RX12_270 kh_X12_isIn (by decide) (Nat.le_of_ble_eq_true rfl) m7 ?_
  replace H := kite H; rcases H with ⟨g8, H⟩ | ⟨g8, H⟩
  · refine x_if_ne_f (q := 16) dX12_mark_13 (t := 18) (by decide) rfl g8 ?_
    refine x_iconst (q := 17) (v := (-1 : Int32)) dX12_mark_16 rfl (by decide) ?_
    cases H
    exact x_end ⟨dX12_mark_17, rfl, rfl⟩
  · refine x_if_ne_t dX12_mark_13 (q := 18) (by decide) g8 ?_
    refine x_iload_n (q := 19) dX12_mark_18 rfl rfl ?_
    refine x_i2l (q := 20) dX12_mark_19 rfl ?_
    refine x_lconst (q := 21) (v := (0 : Int64)) dX12_mark_20 rfl (by decide) ?_
    refine x_lconst (q := 22) (v := (1 : Int64)) dX12_mark_21 rfl (by decide) ?_
    replace H := kbe H; obtain ⟨r9, c10, H⟩ := H
    have m11 := s_X12_isIn (Z := Z) h ((v2).toInt64) (0 : Int64) (1 : Int64) hn c10
    refine x_callS (q := 25) (as := [.long ((v2).toInt64), .long (0 : Int64), .long (1 : Int64)]) (rest := []) dX12_mark_22 rfl kc_RX12_270 kh_X12_isIn (by decide) (Nat.le_of_ble_eq_true rfl) m11 ?_
    replace H := kite H; rcases H with ⟨g12, H⟩ | ⟨g12, H⟩
    · refine x_if_eq_t dX12_mark_25 (q := 44) (by decide) g12 ?_
      refine x_iload_n (q := 45) dX12_mark_44 rfl rfl ?_
      refine x_i2l (q := 46) dX12_mark_45 rfl ?_
      refine x_ldc2 (q := 49) (v := (2 : Int64)) dX12_mark_46 rfl kk_RX12_464 ?_
      refine x_ldc2 (q := 52) (v := (3 : Int64)) dX12_mark_49 rfl kk_RX12_471 ?_
      replace H := kbe H; obtain ⟨r13, c14, H⟩ := H
      have m15 := s_X12_isIn (Z := Z) h ((v2).toInt64) (2 : Int64) (3 : Int64) hn c14
      refine x_callS (q := 55) (as := [.long ((v2).toInt64), .long (2 : Int64), .long (3 : Int64)]) (rest := []) dX12_mark_52 rfl kc_RX12_270 kh_X12_isIn (by decide) (Nat.le_of_ble_eq_true rfl) m15 ?_
      replace H := kite H; rcases H with ⟨g16, H⟩ | ⟨g16, H⟩
      · refine x_if_eq_t dX12_mark_55 (q := 69) (by decide) g16 ?_
        refine x_iconst (q := 70) (v := (-1 : Int32)) dX12_mark_69 rfl (by decide) ?_
        cases H
        exact x_end ⟨dX12_mark_70, rfl, rfl⟩
      · refine x_if_eq_f (q := 58) dX12_mark_55 (t := 69) (by decide) rfl g16 ?_
        refine x_aload_n (q := 59) dX12_mark_58 rfl rfl ?_
        refine x_iload_n (q := 60) dX12_mark_59 rfl rfl ?_
        refine x_iload_n (q := 61) dX12_mark_60 rfl rfl ?_
        refine x_iconst (q := 62) (v := (2 : Int32)) dX12_mark_61 rfl (by decide) ?_
        refine x_isub (q := 63) dX12_mark_62 rfl ?_
        replace H := kbe H; obtain ⟨r17, c18, H⟩ := H
        have m19 := s_X12_markOf (Z := Z) h v0 v1 (v2 - (2 : Int32)) hn c18
        refine x_callV (q := 66) (as := [.int v1, .int (v2 - (2 : Int32))]) (rest := []) dX12_mark_63 rfl kc_RX12_406 kh_X12_markOf (by decide) (Nat.le_of_ble_eq_true rfl) m19 (ci := 12) (by exact ⟨rfl, by decide⟩) (k243 g1 (by decide) hn) ?_
        refine x_goto dX12_mark_66 (q := 70) (by decide) ?_
        cases H
        exact x_end ⟨dX12_mark_70, rfl, rfl⟩
    · refine x_if_eq_f (q := 28) dX12_mark_25 (t := 44) (by decide) rfl g12 ?_
      refine x_aload_n (q := 29) dX12_mark_28 rfl rfl ?_
      replace H := kif H; obtain ⟨g20, H⟩ := H
      refine x_getR (q := 32) dX12_mark_29 rfl kl_RX12_100 rfl (k243 g1 (by decide) hn) g20 ?_
      refine x_bipush (q := 34) (v := (10 : Int32)) dX12_mark_32 rfl (by decide) ?_
      refine x_iconst (q := 35) (v := (2 : Int32)) dX12_mark_34 rfl (by decide) ?_
      refine x_iload_n (q := 36) dX12_mark_35 rfl rfl ?_
      refine x_imul (q := 37) dX12_mark_36 rfl ?_
      refine x_iadd (q := 38) dX12_mark_37 rfl ?_
      refine x_iload_n (q := 39) dX12_mark_38 rfl rfl ?_
      refine x_iadd (q := 40) dX12_mark_39 rfl ?_
      replace H := kif H; obtain ⟨g21, H⟩ := H
      replace H := kifn H; obtain ⟨g22, H⟩ := H
      refine x_iald (q := 41) dX12_mark_40 rfl (k243 g21 (by decide) hn) g22 ?_
      refine x_goto dX12_mark_41 (q := 70) (by decide) ?_
      cases H
      exact x_end ⟨dX12_mark_70, rfl, rfl⟩
theorem s_X12_mark {Z : Nat → (Nat → Nat) → State → Prop} (h : KH) (v0 : Nat) (v1 : Int32) (v2 : Int32) {t : Int32} (hn : h.1 = 243) (H : f_X12_mark h v0 v1 v2 = some t) : KM Z yX12_mark cX12_mark 3 (some .int) 2 [.ref v0, .int v1, .int v2] h (some (.int t)) h :=
  kx_i (own := RX12) (ini := false) (by decide +kernel) (by decide +kernel) rfl (Nat.le_of_ble_eq_true rfl) (s0_X12_mark h v0 v1 v2 hn H)
theorem dX12_yields_0 : decode cX12_yields 0 = .ok (.aload_n 0, 1) := by decide +kernel
theorem dX12_yields_1 : decode cX12_yields 1 = .ok (.iload_n 1, 1) := by decide +kernel
theorem dX12_yields_2 : decode cX12_yields 2 = .ok (.invokevirtual 468, 3) := by decide +kernel
theorem dX12_yields_5 : decode cX12_yields 5 = .ok (.ifCond .eq 36, 3) := by decide +kernel
theorem dX12_yields_8 : decode cX12_yields 8 = .ok (.aload_n 0, 1) := by decide +kernel
theorem dX12_yields_9 : decode cX12_yields 9 = .ok (.iload_n 2, 1) := by decide +kernel
theorem dX12_yields_10 : decode cX12_yields 10 = .ok (.invokevirtual 473, 3) := by decide +kernel
theorem dX12_yields_13 : decode cX12_yields 13 = .ok (.ifCond .eq 28, 3) := by decide +kernel
theorem dX12_yields_16 : decode cX12_yields 16 = .ok (.iload_n 3, 1) := by decide +kernel
theorem dX12_yields_17 : decode cX12_yields 17 = .ok (.i2l, 1) := by decide +kernel
theorem dX12_yields_18 : decode cX12_yields 18 = .ok (.lconst 0, 1) := by decide +kernel
theorem dX12_yields_19 : decode cX12_yields 19 = .ok (.lconst 1, 1) := by decide +kernel
theorem dX12_yields_20 : decode cX12_yields 20 = .ok (.invokestatic 270, 3) := by decide +kernel
theorem dX12_yields_23 : decode cX12_yields 23 = .ok (.ifCond .eq 18, 3) := by decide +kernel
theorem dX12_yields_26 : decode cX12_yields 26 = .ok (.aload_n 0, 1) := by decide +kernel
theorem dX12_yields_27 : decode cX12_yields 27 = .ok (.iload_n 1, 1) := by decide +kernel
theorem dX12_yields_28 : decode cX12_yields 28 = .ok (.iload_n 2, 1) := by decide +kernel
theorem dX12_yields_29 : decode cX12_yields 29 = .ok (.iload_n 3, 1) := by decide +kernel
theorem dX12_yields_30 : decode cX12_yields 30 = .ok (.aload_n 0, 1) := by decide +kernel
theorem dX12_yields_31 : decode cX12_yields 31 = .ok (.iload_n 2, 1) := by decide +kernel
theorem dX12_yields_32 : decode cX12_yields 32 = .ok (.invokevirtual 412, 3) := by decide +kernel
theorem dX12_yields_35 : decode cX12_yields 35 = .ok (.invokevirtual 415, 3) := by decide +kernel
theorem dX12_yields_38 : decode cX12_yields 38 = .ok (.goto 4, 3) := by decide +kernel
theorem dX12_yields_41 : decode cX12_yields 41 = .ok (.iconst (-1), 1) := by decide +kernel
theorem dX12_yields_42 : decode cX12_yields 42 = .ok (.ireturn, 1) := by decide +kernel
def f_X12_yields (h : KH) (v0 : Nat) (v1 : Int32) (v2 : Int32) (v3 : Int32) : Option (Int32 × KH) :=
  if kkind v0 = 12 then kb (f_X12_isKind h v0 v1) fun r2 =>
  if r2 = 0 then
  some ((-1 : Int32), h)
  else
  kb (f_X12_isTest h v0 v2) fun r6 =>
  if r6 = 0 then
  some ((-1 : Int32), h)
  else
  kb (f_X12_isIn h ((v3).toInt64) (0 : Int64) (1 : Int64)) fun r10 =>
  if r10 = 0 then
  some ((-1 : Int32), h)
  else
  kb (f_X12_heardOf h v0 v2) fun r14 =>
  kb (f_X12_yieldsAt h v0 v1 v2 v3 r14) fun r17 =>
  some (r17.1, r17.2) else none
set_option maxHeartbeats 4000000 in
set_option maxRecDepth 100000 in
theorem s0_X12_yields {Z : Nat → (Nat → Nat) → State → Prop} (h : KH) (v0 : Nat) (v1 : Int32) (v2 : Int32) (v3 : Int32) {t : Int32 × KH} (hn : h.1 = 243) (H : f_X12_yields h v0 v1 v2 v3 = some t) : KX Z RX12 cX12_yields 4 false 4 (KRi cX12_yields t.1 t.2) 0 [(0, .ref v0), (1, .int v1), (2, .int v2), (3, .int v3)] [] h := by
  unfold f_X12_yields at H
  refine x_aload_n (q := 1) dX12_yields_0 rfl rfl ?_
  refine x_iload_n (q := 2) dX12_yields_1 rfl rfl ?_
  replace H := kif H; obtain ⟨g1, H⟩ := H
  replace H := kbe H; obtain ⟨r2, c3, H⟩ := H
  have m4 := s_X12_isKind (Z := Z) h v0 v1 hn c3
  refine x_callV (q := 5) (as := [.int v1]) (rest := []) dX12_yields_2 rfl kc_RX12_468 kh_X12_isKind (by decide) (Nat.le_of_ble_eq_true rfl) m4 (ci := 12) (by exact ⟨rfl, by decide⟩) (k243 g1 (by decide) hn) ?_
  replace H := kite H; rcases H with ⟨g5, H⟩ | ⟨g5, H⟩
  · refine x_if_eq_t dX12_yields_5 (q := 41) (by decide) g5 ?_
    refine x_iconst (q := 42) (v := (-1 : Int32)) dX12_yields_41 rfl (by decide) ?_
    cases H
    exact x_end ⟨dX12_yields_42, rfl, rfl⟩
  · refine x_if_eq_f (q := 8) dX12_yields_5 (t := 41) (by decide) rfl g5 ?_
    refine x_aload_n (q := 9) dX12_yields_8 rfl rfl ?_
    refine x_iload_n (q := 10) dX12_yields_9 rfl rfl ?_
    replace H := kbe H; obtain ⟨r6, c7, H⟩ := H
    have m8 := s_X12_isTest (Z := Z) h v0 v2 hn c7
    refine x_callV (q := 13) (as := [.int v2]) (rest := []) dX12_yields_10 rfl kc_RX12_473 kh_X12_isTest (by decide) (Nat.le_of_ble_eq_true rfl) m8 (ci := 12) (by exact ⟨rfl, by decide⟩) (k243 g1 (by decide) hn) ?_
    replace H := kite H; rcases H with ⟨g9, H⟩ | ⟨g9, H⟩
    · refine x_if_eq_t dX12_yields_13 (q := 41) (by decide) g9 ?_
      refine x_iconst (q := 42) (v := (-1 : Int32)) dX12_yields_41 rfl (by decide) ?_
      cases H
      exact x_end ⟨dX12_yields_42, rfl, rfl⟩
    · refine x_if_eq_f (q := 16) dX12_yields_13 (t := 41) (by decide) rfl g9 ?_
      refine x_iload_n (q := 17) dX12_yields_16 rfl rfl ?_
      refine x_i2l (q := 18) dX12_yields_17 rfl ?_
      refine x_lconst (q := 19) (v := (0 : Int64)) dX12_yields_18 rfl (by decide) ?_
      refine x_lconst (q := 20) (v := (1 : Int64)) dX12_yields_19 rfl (by decide) ?_
      replace H := kbe H; obtain ⟨r10, c11, H⟩ := H
      have m12 := s_X12_isIn (Z := Z) h ((v3).toInt64) (0 : Int64) (1 : Int64) hn c11
      refine x_callS (q := 23) (as := [.long ((v3).toInt64), .long (0 : Int64), .long (1 : Int64)]) (rest := []) dX12_yields_20 rfl kc_RX12_270 kh_X12_isIn (by decide) (Nat.le_of_ble_eq_true rfl) m12 ?_
      replace H := kite H; rcases H with ⟨g13, H⟩ | ⟨g13, H⟩
      · refine x_if_eq_t dX12_yields_23 (q := 41) (by decide) g13 ?_
        refine x_iconst (q := 42) (v := (-1 : Int32)) dX12_yields_41 rfl (by decide) ?_
        cases H
        exact x_end ⟨dX12_yields_42, rfl, rfl⟩
      · refine x_if_eq_f (q := 26) dX12_yields_23 (t := 41) (by decide) rfl g13 ?_
        refine x_aload_n (q := 27) dX12_yields_26 rfl rfl ?_
        refine x_iload_n (q := 28) dX12_yields_27 rfl rfl ?_
        refine x_iload_n (q := 29) dX12_yields_28 rfl rfl ?_
        refine x_iload_n (q := 30) dX12_yields_29 rfl rfl ?_
        refine x_aload_n (q := 31) dX12_yields_30 rfl rfl ?_
        refine x_iload_n (q := 32) dX12_yields_31 rfl rfl ?_
        replace H := kbe H; obtain ⟨r14, c15, H⟩ := H
        have m16 := s_X12_heardOf (Z := Z) h v0 v2 hn c15
        refine x_callV (q := 35) (as := [.int v2]) (rest := [.int v3, .int v2, .int v1, .ref v0]) dX12_yields_32 rfl kc_RX12_412 kh_X12_heardOf (by decide) (Nat.le_of_ble_eq_true rfl) m16 (ci := 12) (by exact ⟨rfl, by decide⟩) (k243 g1 (by decide) hn) ?_
        replace H := kbe H; obtain ⟨r17, c18, H⟩ := H
        have m19 := s_X12_yieldsAt (Z := Z) h v0 v1 v2 v3 r14 hn c18
        refine x_callV (q := 38) (as := [.int v1, .int v2, .int v3, .int r14]) (rest := []) dX12_yields_35 rfl kc_RX12_415 kh_X12_yieldsAt (by decide) (Nat.le_of_ble_eq_true rfl) m19 (ci := 12) (by exact ⟨rfl, by decide⟩) (k243 g1 (by decide) hn) ?_
        have n20 : (r17.2).1 = 243 := m19.1.full hn
        refine x_goto dX12_yields_38 (q := 42) (by decide) ?_
        cases H
        exact x_end ⟨dX12_yields_42, rfl, rfl⟩
theorem s_X12_yields {Z : Nat → (Nat → Nat) → State → Prop} (h : KH) (v0 : Nat) (v1 : Int32) (v2 : Int32) (v3 : Int32) {t : Int32 × KH} (hn : h.1 = 243) (H : f_X12_yields h v0 v1 v2 v3 = some t) : KM Z yX12_yields cX12_yields 4 (some .int) 4 [.ref v0, .int v1, .int v2, .int v3] h (some (.int t.1)) t.2 :=
  kx_i (own := RX12) (ini := false) (by decide +kernel) (by decide +kernel) rfl (Nat.le_of_ble_eq_true rfl) (s0_X12_yields h v0 v1 v2 v3 hn H)
theorem dX12_kept_0 : decode cX12_kept 0 = .ok (.iload_n 1, 1) := by decide +kernel
theorem dX12_kept_1 : decode cX12_kept 1 = .ok (.i2l, 1) := by decide +kernel
theorem dX12_kept_2 : decode cX12_kept 2 = .ok (.lconst 0, 1) := by decide +kernel
theorem dX12_kept_3 : decode cX12_kept 3 = .ok (.aload_n 0, 1) := by decide +kernel
theorem dX12_kept_4 : decode cX12_kept 4 = .ok (.getfield 115, 3) := by decide +kernel
theorem dX12_kept_7 : decode cX12_kept 7 = .ok (.bipush 24, 2) := by decide +kernel
theorem dX12_kept_9 : decode cX12_kept 9 = .ok (.iaload, 1) := by decide +kernel
theorem dX12_kept_10 : decode cX12_kept 10 = .ok (.iconst 1, 1) := by decide +kernel
theorem dX12_kept_11 : decode cX12_kept 11 = .ok (.isub, 1) := by decide +kernel
theorem dX12_kept_12 : decode cX12_kept 12 = .ok (.i2l, 1) := by decide +kernel
theorem dX12_kept_13 : decode cX12_kept 13 = .ok (.invokestatic 270, 3) := by decide +kernel
theorem dX12_kept_16 : decode cX12_kept 16 = .ok (.ifCond .eq 31, 3) := by decide +kernel
theorem dX12_kept_19 : decode cX12_kept 19 = .ok (.iload_n 2, 1) := by decide +kernel
theorem dX12_kept_20 : decode cX12_kept 20 = .ok (.i2l, 1) := by decide +kernel
theorem dX12_kept_21 : decode cX12_kept 21 = .ok (.lconst 0, 1) := by decide +kernel
theorem dX12_kept_22 : decode cX12_kept 22 = .ok (.ldc2_w 471, 3) := by decide +kernel
theorem dX12_kept_25 : decode cX12_kept 25 = .ok (.invokestatic 270, 3) := by decide +kernel
theorem dX12_kept_28 : decode cX12_kept 28 = .ok (.ifCond .eq 19, 3) := by decide +kernel
theorem dX12_kept_31 : decode cX12_kept 31 = .ok (.aload_n 0, 1) := by decide +kernel
theorem dX12_kept_32 : decode cX12_kept 32 = .ok (.getfield 115, 3) := by decide +kernel
theorem dX12_kept_35 : decode cX12_kept 35 = .ok (.bipush 25, 2) := by decide +kernel
theorem dX12_kept_37 : decode cX12_kept 37 = .ok (.iconst 4, 1) := by decide +kernel
theorem dX12_kept_38 : decode cX12_kept 38 = .ok (.iload_n 1, 1) := by decide +kernel
theorem dX12_kept_39 : decode cX12_kept 39 = .ok (.imul, 1) := by decide +kernel
theorem dX12_kept_40 : decode cX12_kept 40 = .ok (.iadd, 1) := by decide +kernel
theorem dX12_kept_41 : decode cX12_kept 41 = .ok (.iload_n 2, 1) := by decide +kernel
theorem dX12_kept_42 : decode cX12_kept 42 = .ok (.iadd, 1) := by decide +kernel
theorem dX12_kept_43 : decode cX12_kept 43 = .ok (.iaload, 1) := by decide +kernel
theorem dX12_kept_44 : decode cX12_kept 44 = .ok (.goto 4, 3) := by decide +kernel
theorem dX12_kept_47 : decode cX12_kept 47 = .ok (.iconst (-1), 1) := by decide +kernel
theorem dX12_kept_48 : decode cX12_kept 48 = .ok (.ireturn, 1) := by decide +kernel
def f_X12_kept (h : KH) (v0 : Nat) (v1 : Int32) (v2 : Int32) : Option (Int32) :=
  if kkind v0 = 12 then if (kR h v0 45) < 999999 then if kkind (kR h v0 45) = 20 then if klen (kR h v0 45) ≤ 24 then none else kb (f_X12_isIn h ((v1).toInt64) (0 : Int64) ((((kI h (kR h v0 45) 24) - (1 : Int32))).toInt64)) fun r5 =>
  if r5 = 0 then
  some (-1 : Int32)
  else
  kb (f_X12_isIn h ((v2).toInt64) (0 : Int64) (3 : Int64)) fun r9 =>
  if r9 = 0 then
  some (-1 : Int32)
  else
  if ((((25 : Int32) + ((4 : Int32) * v1)) + v2) < 0 ∨ klen (kR h v0 45) ≤ ((((25 : Int32) + ((4 : Int32) * v1)) + v2)).toNatClampNeg) then none else some (kI h (kR h v0 45) (((((25 : Int32) + ((4 : Int32) * v1)) + v2)).toNatClampNeg)) else none else none else none
set_option maxHeartbeats 4000000 in
set_option maxRecDepth 100000 in
theorem s0_X12_kept {Z : Nat → (Nat → Nat) → State → Prop} (h : KH) (v0 : Nat) (v1 : Int32) (v2 : Int32) {t : Int32} (hn : h.1 = 243) (H : f_X12_kept h v0 v1 v2 = some t) : KX Z RX12 cX12_kept 3 false 2 (KRi cX12_kept t h) 0 [(0, .ref v0), (1, .int v1), (2, .int v2)] [] h := by
  unfold f_X12_kept at H
  refine x_iload_n (q := 1) dX12_kept_0 rfl rfl ?_
  refine x_i2l (q := 2) dX12_kept_1 rfl ?_
  refine x_lconst (q := 3) (v := (0 : Int64)) dX12_kept_2 rfl (by decide) ?_
  refine x_aload_n (q := 4) dX12_kept_3 rfl rfl ?_
  replace H := kif H; obtain ⟨g1, H⟩ := H
  replace H := kif H; obtain ⟨g2, H⟩ := H
  refine x_getR (q := 7) dX12_kept_4 rfl kl_RX12_115 rfl (k243 g1 (by decide) hn) g2 ?_
  refine x_bipush (q := 9) (v := (24 : Int32)) dX12_kept_7 rfl (by decide) ?_
  replace H := kif H; obtain ⟨g3, H⟩ := H
  replace H := kifn H; obtain ⟨g4, H⟩ := H
  refine x_iald (q := 10) dX12_kept_9 rfl (k243 g3 (by decide) hn) (fun z => z.elim (by decide) g4) ?_
  refine x_iconst (q := 11) (v := (1 : Int32)) dX12_kept_10 rfl (by decide) ?_
  refine x_isub (q := 12) dX12_kept_11 rfl ?_
  refine x_i2l (q := 13) dX12_kept_12 rfl ?_
  replace H := kbe H; obtain ⟨r5, c6, H⟩ := H
  have m7 := s_X12_isIn (Z := Z) h ((v1).toInt64) (0 : Int64) ((((kI h (kR h v0 45) 24) - (1 : Int32))).toInt64) hn c6
  refine x_callS (q := 16) (as := [.long ((v1).toInt64), .long (0 : Int64), .long ((((kI h (kR h v0 45) 24) - (1 : Int32))).toInt64)]) (rest := []) dX12_kept_13 rfl kc_RX12_270 kh_X12_isIn (by decide) (Nat.le_of_ble_eq_true rfl) m7 ?_
  replace H := kite H; rcases H with ⟨g8, H⟩ | ⟨g8, H⟩
  · refine x_if_eq_t dX12_kept_16 (q := 47) (by decide) g8 ?_
    refine x_iconst (q := 48) (v := (-1 : Int32)) dX12_kept_47 rfl (by decide) ?_
    cases H
    exact x_end ⟨dX12_kept_48, rfl, rfl⟩
  · refine x_if_eq_f (q := 19) dX12_kept_16 (t := 47) (by decide) rfl g8 ?_
    refine x_iload_n (q := 20) dX12_kept_19 rfl rfl ?_
    refine x_i2l (q := 21) dX12_kept_20 rfl ?_
    refine x_lconst (q := 22) (v := (0 : Int64)) dX12_kept_21 rfl (by decide) ?_
    refine x_ldc2 (q := 25) (v := (3 : Int64)) dX12_kept_22 rfl kk_RX12_471 ?_
    replace H := kbe H; obtain ⟨r9, c10, H⟩ := H
    have m11 := s_X12_isIn (Z := Z) h ((v2).toInt64) (0 : Int64) (3 : Int64) hn c10
    refine x_callS (q := 28) (as := [.long ((v2).toInt64), .long (0 : Int64), .long (3 : Int64)]) (rest := []) dX12_kept_25 rfl kc_RX12_270 kh_X12_isIn (by decide) (Nat.le_of_ble_eq_true rfl) m11 ?_
    replace H := kite H; rcases H with ⟨g12, H⟩ | ⟨g12, H⟩
    · refine x_if_eq_t dX12_kept_28 (q := 47) (by decide) g12 ?_
      refine x_iconst (q := 48) (v := (-1 : Int32)) dX12_kept_47 rfl (by decide) ?_
      cases H
      exact x_end ⟨dX12_kept_48, rfl, rfl⟩
    · refine x_if_eq_f (q := 31) dX12_kept_28 (t := 47) (by decide) rfl g12 ?_
      refine x_aload_n (q := 32) dX12_kept_31 rfl rfl ?_
      refine x_getR (q := 35) dX12_kept_32 rfl kl_RX12_115 rfl (k243 g1 (by decide) hn) g2 ?_
      refine x_bipush (q := 37) (v := (25 : Int32)) dX12_kept_35 rfl (by decide) ?_
      refine x_iconst (q := 38) (v := (4 : Int32)) dX12_kept_37 rfl (by decide) ?_
      refine x_iload_n (q := 39) dX12_kept_38 rfl rfl ?_
      refine x_imul (q := 40) dX12_kept_39 rfl ?_
      refine x_iadd (q := 41) dX12_kept_40 rfl ?_
      refine x_iload_n (q := 42) dX12_kept_41 rfl rfl ?_
      refine x_iadd (q := 43) dX12_kept_42 rfl ?_
      replace H := kifn H; obtain ⟨g13, H⟩ := H
      refine x_iald (q := 44) dX12_kept_43 rfl (k243 g3 (by decide) hn) g13 ?_
      refine x_goto dX12_kept_44 (q := 48) (by decide) ?_
      cases H
      exact x_end ⟨dX12_kept_48, rfl, rfl⟩
theorem s_X12_kept {Z : Nat → (Nat → Nat) → State → Prop} (h : KH) (v0 : Nat) (v1 : Int32) (v2 : Int32) {t : Int32} (hn : h.1 = 243) (H : f_X12_kept h v0 v1 v2 = some t) : KM Z yX12_kept cX12_kept 3 (some .int) 2 [.ref v0, .int v1, .int v2] h (some (.int t)) h :=
  kx_i (own := RX12) (ini := false) (by decide +kernel) (by decide +kernel) rfl (Nat.le_of_ble_eq_true rfl) (s0_X12_kept h v0 v1 v2 hn H)
theorem dX12_weight_0 : decode cX12_weight 0 = .ok (.iload_n 1, 1) := by decide +kernel
theorem dX12_weight_1 : decode cX12_weight 1 = .ok (.i2l, 1) := by decide +kernel
theorem dX12_weight_2 : decode cX12_weight 2 = .ok (.lconst 0, 1) := by decide +kernel
theorem dX12_weight_3 : decode cX12_weight 3 = .ok (.lconst 1, 1) := by decide +kernel
theorem dX12_weight_4 : decode cX12_weight 4 = .ok (.invokestatic 270, 3) := by decide +kernel
theorem dX12_weight_7 : decode cX12_weight 7 = .ok (.ifCond .eq 19, 3) := by decide +kernel
theorem dX12_weight_10 : decode cX12_weight 10 = .ok (.aload_n 0, 1) := by decide +kernel
theorem dX12_weight_11 : decode cX12_weight 11 = .ok (.iload_n 2, 1) := by decide +kernel
theorem dX12_weight_12 : decode cX12_weight 12 = .ok (.invokevirtual 468, 3) := by decide +kernel
theorem dX12_weight_15 : decode cX12_weight 15 = .ok (.ifCond .eq 11, 3) := by decide +kernel
theorem dX12_weight_18 : decode cX12_weight 18 = .ok (.aload_n 0, 1) := by decide +kernel
theorem dX12_weight_19 : decode cX12_weight 19 = .ok (.iload_n 3, 1) := by decide +kernel
theorem dX12_weight_20 : decode cX12_weight 20 = .ok (.invokevirtual 468, 3) := by decide +kernel
theorem dX12_weight_23 : decode cX12_weight 23 = .ok (.ifCond .ne 7, 3) := by decide +kernel
theorem dX12_weight_26 : decode cX12_weight 26 = .ok (.ldc2_w 476, 3) := by decide +kernel
theorem dX12_weight_29 : decode cX12_weight 29 = .ok (.lreturn, 1) := by decide +kernel
theorem dX12_weight_30 : decode cX12_weight 30 = .ok (.aload_n 0, 1) := by decide +kernel
theorem dX12_weight_31 : decode cX12_weight 31 = .ok (.iconst 0, 1) := by decide +kernel
theorem dX12_weight_32 : decode cX12_weight 32 = .ok (.invokevirtual 478, 3) := by decide +kernel
theorem dX12_weight_35 : decode cX12_weight 35 = .ok (.aload_n 0, 1) := by decide +kernel
theorem dX12_weight_36 : decode cX12_weight 36 = .ok (.getfield 133, 3) := by decide +kernel
theorem dX12_weight_39 : decode cX12_weight 39 = .ok (.bipush 36, 2) := by decide +kernel
theorem dX12_weight_41 : decode cX12_weight 41 = .ok (.iload_n 1, 1) := by decide +kernel
theorem dX12_weight_42 : decode cX12_weight 42 = .ok (.imul, 1) := by decide +kernel
theorem dX12_weight_43 : decode cX12_weight 43 = .ok (.bipush 6, 2) := by decide +kernel
theorem dX12_weight_45 : decode cX12_weight 45 = .ok (.iload_n 2, 1) := by decide +kernel
theorem dX12_weight_46 : decode cX12_weight 46 = .ok (.imul, 1) := by decide +kernel
theorem dX12_weight_47 : decode cX12_weight 47 = .ok (.iadd, 1) := by decide +kernel
theorem dX12_weight_48 : decode cX12_weight 48 = .ok (.iload_n 3, 1) := by decide +kernel
theorem dX12_weight_49 : decode cX12_weight 49 = .ok (.iadd, 1) := by decide +kernel
theorem dX12_weight_50 : decode cX12_weight 50 = .ok (.laload, 1) := by decide +kernel
theorem dX12_weight_51 : decode cX12_weight 51 = .ok (.lreturn, 1) := by decide +kernel
theorem kk_RX12_476 : Jvm.Cond.constantLong RX12 476 (-1000000000000000 : Int64) ∈ ktG := kwm 1778 (by decide +kernel) (by decide +kernel)
theorem kc_RX12_478 : Cond.methodLink RX12 478 yX12_laysWorlds ∈ ktG ∧ (Cond.instanceMethod yX12_laysWorlds ∈ ktG ∧ Cond.selects yX12_laysWorlds.cls yX12_laysWorlds yX12_laysWorlds ∈ ktG) ∧ Cond.initialized yX12_laysWorlds.cls ∈ ktG ∧ Cond.code yX12_laysWorlds cX12_laysWorlds 4 none ∈ ktG := ⟨(kwm 1779 (by decide +kernel) (by decide +kernel)), ⟨(kwm 1781 (by decide +kernel) (by decide +kernel)), (kwm 89 (by decide +kernel) (by decide +kernel))⟩, (kwm 139 (by decide +kernel) (by decide +kernel)), kwm 1782 (by decide +kernel) (by decide +kernel)⟩
theorem kh_X12_laysWorlds : yX12_laysWorlds.cls ≠ "java/lang/invoke/MethodHandle" ∧ yX12_laysWorlds.cls ≠ "java/lang/invoke/VarHandle" ∧ (parseMethodDescriptor yX12_laysWorlds.desc).map (fun d => d.parameters.length) = some 1 := by decide +kernel
def f_X12_weight (h : KH) (v0 : Nat) (v1 : Int32) (v2 : Int32) (v3 : Int32) : Option (Int64 × KH) :=
  kb (f_X12_isIn h ((v1).toInt64) (0 : Int64) (1 : Int64)) fun r1 =>
  if r1 = 0 then
  some ((-1000000000000000 : Int64), h)
  else
  if kkind v0 = 12 then kb (f_X12_isKind h v0 v2) fun r6 =>
  if r6 = 0 then
  some ((-1000000000000000 : Int64), h)
  else
  kb (f_X12_isKind h v0 v3) fun r10 =>
  if r10 = 0 then
  some ((-1000000000000000 : Int64), h)
  else
  kb (f_X12_laysWorlds h v0 (0 : Int32)) fun r14 =>
  if (kR r14 v0 54) < 999999 then if kkind (kR r14 v0 54) = 21 then if (((((36 : Int32) * v1) + ((6 : Int32) * v2)) + v3) < 0 ∨ klen (kR r14 v0 54) ≤ (((((36 : Int32) * v1) + ((6 : Int32) * v2)) + v3)).toNatClampNeg) then none else some ((kL r14 (kR r14 v0 54) ((((((36 : Int32) * v1) + ((6 : Int32) * v2)) + v3)).toNatClampNeg)), r14) else none else none else none
set_option maxHeartbeats 4000000 in
set_option maxRecDepth 100000 in
theorem s0_X12_weight {Z : Nat → (Nat → Nat) → State → Prop} (h : KH) (v0 : Nat) (v1 : Int32) (v2 : Int32) (v3 : Int32) {t : Int64 × KH} (hn : h.1 = 243) (H : f_X12_weight h v0 v1 v2 v3 = some t) : KX Z RX12 cX12_weight 4 false 6 (KRl cX12_weight t.1 t.2) 0 [(0, .ref v0), (1, .int v1), (2, .int v2), (3, .int v3)] [] h := by
  unfold f_X12_weight at H
  refine x_iload_n (q := 1) dX12_weight_0 rfl rfl ?_
  refine x_i2l (q := 2) dX12_weight_1 rfl ?_
  refine x_lconst (q := 3) (v := (0 : Int64)) dX12_weight_2 rfl (by decide) ?_
  refine x_lconst (q := 4) (v := (1 : Int64)) dX12_weight_3 rfl (by decide) ?_
  replace H := kbe H; obtain ⟨r1, c2, H⟩ := H
  have m3 := s_X12_isIn (Z := Z) h ((v1).toInt64) (0 : Int64) (1 : Int64) hn c2
  refine x_callS (q := 7) (as := [.long ((v1).toInt64), .long (0 : Int64), .long (1 : Int64)]) (rest := []) dX12_weight_4 rfl kc_RX12_270 kh_X12_isIn (by decide) (Nat.le_of_ble_eq_true rfl) m3 ?_
  replace H := kite H; rcases H with ⟨g4, H⟩ | ⟨g4, H⟩
  · refine x_if_eq_t dX12_weight_7 (q := 26) (by decide) g4 ?_
    refine x_ldc2 (q := 29) (v := (-1000000000000000 : Int64)) dX12_weight_26 rfl kk_RX12_476 ?_
    cases H
    exact x_end ⟨dX12_weight_29, rfl, rfl⟩
  · refine x_if_eq_f (q := 10) dX12_weight_7 (t := 26) (by decide) rfl g4 ?_
    refine x_aload_n (q := 11) dX12_weight_10 rfl rfl ?_
    refine x_iload_n (q := 12) dX12_weight_11 rfl rfl ?_
    replace H := kif H; obtain ⟨g5, H⟩ := H
    replace H := kbe H; obtain ⟨r6, c7, H⟩ := H
    have m8 := s_X12_isKind (Z := Z) h v0 v2 hn c7
    refine x_callV (q := 15) (as := [.int v2]) (rest := []) dX12_weight_12 rfl kc_RX12_468 kh_X12_isKind (by decide) (Nat.le_of_ble_eq_true rfl) m8 (ci := 12) (by exact ⟨rfl, by decide⟩) (k243 g5 (by decide) hn) ?_
    replace H := kite H; rcases H with ⟨g9, H⟩ | ⟨g9, H⟩
    · refine x_if_eq_t dX12_weight_15 (q := 26) (by decide) g9 ?_
      refine x_ldc2 (q := 29) (v := (-1000000000000000 : Int64)) dX12_weight_26 rfl kk_RX12_476 ?_
      cases H
      exact x_end ⟨dX12_weight_29, rfl, rfl⟩
    · refine x_if_eq_f (q := 18) dX12_weight_15 (t := 26) (by decide) rfl g9 ?_
      refine x_aload_n (q := 19) dX12_weight_18 rfl rfl ?_
      refine x_iload_n (q := 20) dX12_weight_19 rfl rfl ?_
      replace H := kbe H; obtain ⟨r10, c11, H⟩ := H
      have m12 := s_X12_isKind (Z := Z) h v0 v3 hn c11
      refine x_callV (q := 23) (as := [.int v3]) (rest := []) dX12_weight_20 rfl kc_RX12_468 kh_X12_isKind (by decide) (Nat.le_of_ble_eq_true rfl) m12 (ci := 12) (by exact ⟨rfl, by decide⟩) (k243 g5 (by decide) hn) ?_
      replace H := kite H; rcases H with ⟨g13, H⟩ | ⟨g13, H⟩
      · refine x_if_ne_f (q := 26) dX12_weight_23 (t := 30) (by decide) rfl g13 ?_
        refine x_ldc2 (q := 29) (v := (-1000000000000000 : Int64)) dX12_weight_26 rfl kk_RX12_476 ?_
        cases H
        exact x_end ⟨dX12_weight_29, rfl, rfl⟩
      · refine x_if_ne_t dX12_weight_23 (q := 30) (by decide) g13 ?_
        refine x_aload_n (q := 31) dX12_weight_30 rfl rfl ?_
        refine x_iconst (q := 32) (v := (0 : Int32)) dX12_weight_31 rfl (by decide) ?_
        replace H := kbe H; obtain ⟨r14, c15, H⟩ := H
        have m16 := s_X12_laysWorlds (Z := Z) h v0 (0 : Int32) hn c15
        refine x_callV (q := 35) (as := [.int (0 : Int32)]) (rest := []) dX12_weight_32 rfl kc_RX12_478 kh_X12_laysWorlds (by decide) (Nat.le_of_ble_eq_true rfl) m16 (ci := 12) (by exact ⟨rfl, by decide⟩) (k243 g5 (by decide) hn) ?_
        have n17 : (r14).1 = 243 := m16.1.full hn
        refine x_aload_n (q := 36) dX12_weight_35 rfl rfl ?_
        replace H := kif H; obtain ⟨g18, H⟩ := H
        refine x_getR (q := 39) dX12_weight_36 rfl kl_RX12_133 rfl (k243 g5 (by decide) n17) g18 ?_
        refine x_bipush (q := 41) (v := (36 : Int32)) dX12_weight_39 rfl (by decide) ?_
        refine x_iload_n (q := 42) dX12_weight_41 rfl rfl ?_
        refine x_imul (q := 43) dX12_weight_42 rfl ?_
        refine x_bipush (q := 45) (v := (6 : Int32)) dX12_weight_43 rfl (by decide) ?_
        refine x_iload_n (q := 46) dX12_weight_45 rfl rfl ?_
        refine x_imul (q := 47) dX12_weight_46 rfl ?_
        refine x_iadd (q := 48) dX12_weight_47 rfl ?_
        refine x_iload_n (q := 49) dX12_weight_48 rfl rfl ?_
        refine x_iadd (q := 50) dX12_weight_49 rfl ?_
        replace H := kif H; obtain ⟨g19, H⟩ := H
        replace H := kifn H; obtain ⟨g20, H⟩ := H
        refine x_lald (q := 51) dX12_weight_50 rfl (k243 g19 (by decide) n17) g20 ?_
        cases H
        exact x_end ⟨dX12_weight_51, rfl, rfl⟩
theorem s_X12_weight {Z : Nat → (Nat → Nat) → State → Prop} (h : KH) (v0 : Nat) (v1 : Int32) (v2 : Int32) (v3 : Int32) {t : Int64 × KH} (hn : h.1 = 243) (H : f_X12_weight h v0 v1 v2 v3 = some t) : KM Z yX12_weight cX12_weight 4 (some .long) 6 [.ref v0, .int v1, .int v2, .int v3] h (some (.long t.1)) t.2 :=
  kx_l (own := RX12) (ini := false) (by decide +kernel) (by decide +kernel) rfl (Nat.le_of_ble_eq_true rfl) (s0_X12_weight h v0 v1 v2 v3 hn H)
theorem dX12_odds_0 : decode cX12_odds 0 = .ok (.iload_n 1, 1) := by decide +kernel
theorem dX12_odds_1 : decode cX12_odds 1 = .ok (.i2l, 1) := by decide +kernel
theorem dX12_odds_2 : decode cX12_odds 2 = .ok (.lconst 0, 1) := by decide +kernel
theorem dX12_odds_3 : decode cX12_odds 3 = .ok (.lconst 1, 1) := by decide +kernel
theorem dX12_odds_4 : decode cX12_odds 4 = .ok (.invokestatic 270, 3) := by decide +kernel
theorem dX12_odds_7 : decode cX12_odds 7 = .ok (.ifCond .ne 5, 3) := by decide +kernel
theorem dX12_odds_10 : decode cX12_odds 10 = .ok (.iconst (-1), 1) := by decide +kernel
theorem dX12_odds_11 : decode cX12_odds 11 = .ok (.ireturn, 1) := by decide +kernel
theorem dX12_odds_12 : decode cX12_odds 12 = .ok (.aload_n 0, 1) := by decide +kernel
theorem dX12_odds_13 : decode cX12_odds 13 = .ok (.iconst 0, 1) := by decide +kernel
theorem dX12_odds_14 : decode cX12_odds 14 = .ok (.invokevirtual 478, 3) := by decide +kernel
theorem dX12_odds_17 : decode cX12_odds 17 = .ok (.aload_n 0, 1) := by decide +kernel
theorem dX12_odds_18 : decode cX12_odds 18 = .ok (.getfield 422, 3) := by decide +kernel
theorem dX12_odds_21 : decode cX12_odds 21 = .ok (.lconst 0, 1) := by decide +kernel
theorem dX12_odds_22 : decode cX12_odds 22 = .ok (.lcmp, 1) := by decide +kernel
theorem dX12_odds_23 : decode cX12_odds 23 = .ok (.ifCond .ne 5, 3) := by decide +kernel
theorem dX12_odds_26 : decode cX12_odds 26 = .ok (.iconst (-1), 1) := by decide +kernel
theorem dX12_odds_27 : decode cX12_odds 27 = .ok (.ireturn, 1) := by decide +kernel
theorem dX12_odds_28 : decode cX12_odds 28 = .ok (.lconst 0, 1) := by decide +kernel
theorem dX12_odds_29 : decode cX12_odds 29 = .ok (.lstore_n 2, 1) := by decide +kernel
theorem dX12_odds_30 : decode cX12_odds 30 = .ok (.iconst 0, 1) := by decide +kernel
theorem dX12_odds_31 : decode cX12_odds 31 = .ok (.istore 4, 2) := by decide +kernel
theorem dX12_odds_33 : decode cX12_odds 33 = .ok (.iload 4, 2) := by decide +kernel
theorem dX12_odds_35 : decode cX12_odds 35 = .ok (.bipush 72, 2) := by decide +kernel
theorem dX12_odds_37 : decode cX12_odds 37 = .ok (.if_icmp .ge 28, 3) := by decide +kernel
theorem dX12_odds_40 : decode cX12_odds 40 = .ok (.iload 4, 2) := by decide +kernel
theorem dX12_odds_42 : decode cX12_odds 42 = .ok (.invokestatic 393, 3) := by decide +kernel
theorem dX12_odds_45 : decode cX12_odds 45 = .ok (.iload_n 1, 1) := by decide +kernel
theorem dX12_odds_46 : decode cX12_odds 46 = .ok (.if_icmp .ne 13, 3) := by decide +kernel
theorem dX12_odds_49 : decode cX12_odds 49 = .ok (.lload_n 2, 1) := by decide +kernel
theorem dX12_odds_50 : decode cX12_odds 50 = .ok (.aload_n 0, 1) := by decide +kernel
theorem dX12_odds_51 : decode cX12_odds 51 = .ok (.getfield 133, 3) := by decide +kernel
theorem dX12_odds_54 : decode cX12_odds 54 = .ok (.iload 4, 2) := by decide +kernel
theorem dX12_odds_56 : decode cX12_odds 56 = .ok (.laload, 1) := by decide +kernel
theorem dX12_odds_57 : decode cX12_odds 57 = .ok (.ladd, 1) := by decide +kernel
theorem dX12_odds_58 : decode cX12_odds 58 = .ok (.lstore_n 2, 1) := by decide +kernel
theorem dX12_odds_59 : decode cX12_odds 59 = .ok (.iinc 4 1, 3) := by decide +kernel
theorem dX12_odds_62 : decode cX12_odds 62 = .ok (.goto (-29), 3) := by decide +kernel
theorem dX12_odds_65 : decode cX12_odds 65 = .ok (.aload_n 0, 1) := by decide +kernel
theorem dX12_odds_66 : decode cX12_odds 66 = .ok (.lload_n 2, 1) := by decide +kernel
theorem dX12_odds_67 : decode cX12_odds 67 = .ok (.invokevirtual 442, 3) := by decide +kernel
theorem dX12_odds_70 : decode cX12_odds 70 = .ok (.ireturn, 1) := by decide +kernel
def E_X12_odds_l33 (h : KH) (v0 : Nat) (v1 : Int32) : Int64 → Nat → List (Nat × Value) → List Value → KH → Prop := fun (e : Int64) pc ls st hh => pc = 65 ∧ ls = [(0, .ref v0), (2, .long e)] ∧ st = [] ∧ h = hh
def B_X12_odds_l33 (h : KH) (v0 : Nat) (v1 : Int32) : ((Int64 × Int32) ⊕ (Int64)) → Nat → List (Nat × Value) → List Value → KH → Prop := Sum.elim (fun (s : Int64 × Int32) pc ls st hh => pc = 33 ∧ ls = [(0, .ref v0), (1, .int v1), (2, .long s.1), (4, .int s.2)] ∧ st = [] ∧ hh = h) (E_X12_odds_l33 h v0 v1)
def f_X12_odds_b59 (h : KH) (v0 : Nat) (v1 : Int32) (v2 : Int64) (v4 : Int32) : Option ((Int64 × Int32) ⊕ (Int64)) :=
  kl (v4 + (1 : Int32)) fun x1 =>
  some (.inl (v2, x1))
set_option maxHeartbeats 4000000 in
set_option maxRecDepth 100000 in
theorem s_X12_odds_b59 {Z : Nat → (Nat → Nat) → State → Prop} (h : KH) (v0 : Nat) (v1 : Int32) (v2 : Int64) (v4 : Int32) {t : (Int64 × Int32) ⊕ (Int64)} (hn : h.1 = 243) (H : f_X12_odds_b59 h v0 v1 v2 v4 = some t) : KX Z RX12 cX12_odds 5 false 6 (B_X12_odds_l33 h v0 v1 t) 59 [(0, .ref v0), (1, .int v1), (2, .long v2), (4, .int v4)] [] h := by
  unfold f_X12_odds_b59 at H
  replace H := kle H; obtain ⟨x1, q2, H⟩ := H
  refine x_iinc (q := 62) (i := 4) (ls2 := [(4, .int x1), (0, .ref v0), (1, .int v1), (2, .long v2)]) dX12_odds_59 rfl rfl (by decide) (by rw [q2]; rfl) ?_
  refine x_goto dX12_odds_62 (q := 33) (by decide) ?_
  cases H
  refine x_sub (ls2 := [(0, .ref v0), (1, .int v1), (2, .long v2), (4, .int x1)]) [1, 2, 3, 0] rfl ?_
  exact x_end (x_cfg rfl)
def f_X12_odds_l33 (h : KH) (v0 : Nat) (v1 : Int32) (s : Int64 × Int32) : Option ((Int64 × Int32) ⊕ (Int64)) :=
  if (72 : Int32) ≤ s.2 then
  some (.inr s.1)
  else
  kb (f_X12_truthOf h s.2) fun r2 =>
  if r2 = v1 then
  if kkind v0 = 12 then if (kR h v0 54) < 999999 then if kkind (kR h v0 54) = 21 then if (s.2 < 0 ∨ klen (kR h v0 54) ≤ (s.2).toNatClampNeg) then none else kl (s.1 + (kL h (kR h v0 54) ((s.2).toNatClampNeg))) fun x10 =>
  f_X12_odds_b59 h v0 v1 x10 s.2 else none else none else none
  else
  f_X12_odds_b59 h v0 v1 s.1 s.2
set_option maxHeartbeats 4000000 in
set_option maxRecDepth 100000 in
theorem s_X12_odds_l33 {Z : Nat → (Nat → Nat) → State → Prop} (h : KH) (v0 : Nat) (v1 : Int32) (s : Int64 × Int32) (t : (Int64 × Int32) ⊕ (Int64)) (hn : (h).1 = 243) (H : f_X12_odds_l33 h v0 v1 s = some t) : KX Z RX12 cX12_odds 5 false 6 (B_X12_odds_l33 h v0 v1 t) 33 [(0, .ref v0), (1, .int v1), (2, .long s.1), (4, .int s.2)] [] h := by
  unfold f_X12_odds_l33 at H
  refine x_iload (q := 35) dX12_odds_33 rfl rfl ?_
  refine x_bipush (q := 37) (v := (72 : Int32)) dX12_odds_35 rfl (by decide) ?_
  replace H := kite H; rcases H with ⟨g1, H⟩ | ⟨g1, H⟩
  · refine x_icmp_ge_t dX12_odds_37 (q := 65) (by decide) g1 ?_
    cases H
    refine x_sub (ls2 := [(0, .ref v0), (2, .long s.1)]) [0, 2] rfl ?_
    exact x_end (x_cfg rfl)
  · refine x_icmp_ge_f (q := 40) dX12_odds_37 (t := 65) (by decide) rfl g1 ?_
    refine x_iload (q := 42) dX12_odds_40 rfl rfl ?_
    replace H := kbe H; obtain ⟨r2, c3, H⟩ := H
    have m4 := s_X12_truthOf (Z := Z) h s.2 hn c3
    refine x_callS (q := 45) (as := [.int s.2]) (rest := []) dX12_odds_42 rfl kc_RX12_393 kh_X12_truthOf (by decide) (Nat.le_of_ble_eq_true rfl) m4 ?_
    refine x_iload_n (q := 46) dX12_odds_45 rfl rfl ?_
    replace H := kite H; rcases H with ⟨g5, H⟩ | ⟨g5, H⟩
    · refine x_icmp_ne_f (q := 49) dX12_odds_46 (t := 59) (by decide) rfl g5 ?_
      refine x_lload_n (q := 50) dX12_odds_49 rfl rfl ?_
      refine x_aload_n (q := 51) dX12_odds_50 rfl rfl ?_
      replace H := kif H; obtain ⟨g6, H⟩ := H
      replace H := kif H; obtain ⟨g7, H⟩ := H
      refine x_getR (q := 54) dX12_odds_51 rfl kl_RX12_133 rfl (k243 g6 (by decide) hn) g7 ?_
      refine x_iload (q := 56) dX12_odds_54 rfl rfl ?_
      replace H := kif H; obtain ⟨g8, H⟩ := H
      replace H := kifn H; obtain ⟨g9, H⟩ := H
      refine x_lald (q := 57) dX12_odds_56 rfl (k243 g8 (by decide) hn) g9 ?_
      refine x_ladd (q := 58) dX12_odds_57 rfl ?_
      replace H := kle H; obtain ⟨x10, q11, H⟩ := H
      refine x_nmL q11 ?_
      refine x_lstore_n (q := 59) (i := 2) (ls2 := [(2, .long x10), (0, .ref v0), (1, .int v1), (4, .int s.2)]) dX12_odds_58 rfl rfl (by decide) rfl ?_
      refine x_sub (ls2 := [(0, .ref v0), (1, .int v1), (2, .long x10), (4, .int s.2)]) [1, 2, 0, 3] rfl ?_
      exact s_X12_odds_b59 h v0 v1 x10 s.2 hn H
    · refine x_icmp_ne_t dX12_odds_46 (q := 59) (by decide) g5 ?_
      refine x_sub (ls2 := [(0, .ref v0), (1, .int v1), (2, .long s.1), (4, .int s.2)]) [0, 1, 2, 3] rfl ?_
      exact s_X12_odds_b59 h v0 v1 s.1 s.2 hn H
theorem sl_X12_odds_l33 {Z : Nat → (Nat → Nat) → State → Prop} (h : KH) (v0 : Nat) (v1 : Int32) (n : Nat) (s : Int64 × Int32) (r : Int64) (hn : (h).1 = 243) (H : kloop (f_X12_odds_l33 h v0 v1) n s = some r) : KX Z RX12 cX12_odds 5 false 6 (E_X12_odds_l33 h v0 v1 r) 33 [(0, .ref v0), (1, .int v1), (2, .long s.1), (4, .int s.2)] [] h :=
  k_loop (ls := (fun (s : Int64 × Int32) => ([(0, .ref v0), (1, .int v1), (2, .long s.1), (4, .int s.2)] : List (Nat × Value)))) (hp := (fun (s : Int64 × Int32) => (h : KH))) (G := E_X12_odds_l33 h v0 v1) (fun s t hn H => s_X12_odds_l33 h v0 v1 s t hn H) n s r hn H
def f_X12_odds (h : KH) (v0 : Nat) (v1 : Int32) : Option (Int32 × KH) :=
  kb (f_X12_isIn h ((v1).toInt64) (0 : Int64) (1 : Int64)) fun r1 =>
  if r1 = 0 then
  some ((-1 : Int32), h)
  else
  if kkind v0 = 12 then kb (f_X12_laysWorlds h v0 (0 : Int32)) fun r6 =>
  if (lg_cmp (kL r6 v0 56) (0 : Int64)) = 0 then
  some ((-1 : Int32), r6)
  else
  kb (kloop (f_X12_odds_l33 r6 v0 v1) KF ((0 : Int64), (0 : Int32))) fun e11 =>
  kb (f_X12_millionths r6 v0 e11) fun r14 =>
  some (r14, r6) else none
set_option maxHeartbeats 4000000 in
set_option maxRecDepth 100000 in
theorem s0_X12_odds {Z : Nat → (Nat → Nat) → State → Prop} (h : KH) (v0 : Nat) (v1 : Int32) {t : Int32 × KH} (hn : h.1 = 243) (H : f_X12_odds h v0 v1 = some t) : KX Z RX12 cX12_odds 5 false 6 (KRi cX12_odds t.1 t.2) 0 [(0, .ref v0), (1, .int v1)] [] h := by
  unfold f_X12_odds at H
  refine x_iload_n (q := 1) dX12_odds_0 rfl rfl ?_
  refine x_i2l (q := 2) dX12_odds_1 rfl ?_
  refine x_lconst (q := 3) (v := (0 : Int64)) dX12_odds_2 rfl (by decide) ?_
  refine x_lconst (q := 4) (v := (1 : Int64)) dX12_odds_3 rfl (by decide) ?_
  replace H := kbe H; obtain ⟨r1, c2, H⟩ := H
  have m3 := s_X12_isIn (Z := Z) h ((v1).toInt64) (0 : Int64) (1 : Int64) hn c2
  refine x_callS (q := 7) (as := [.long ((v1).toInt64), .long (0 : Int64), .long (1 : Int64)]) (rest := []) dX12_odds_4 rfl kc_RX12_270 kh_X12_isIn (by decide) (Nat.le_of_ble_eq_true rfl) m3 ?_
  replace H := kite H; rcases H with ⟨g4, H⟩ | ⟨g4, H⟩
  · refine x_if_ne_f (q := 10) dX12_odds_7 (t := 12) (by decide) rfl g4 ?_
    refine x_iconst (q := 11) (v := (-1 : Int32)) dX12_odds_10 rfl (by decide) ?_
    cases H
    exact x_end ⟨dX12_odds_11, rfl, rfl⟩
  · refine x_if_ne_t dX12_odds_7 (q := 12) (by decide) g4 ?_
    refine x_aload_n (q := 13) dX12_odds_12 rfl rfl ?_
    refine x_iconst (q := 14) (v := (0 : Int32)) dX12_odds_13 rfl (by decide) ?_
    replace H := kif H; obtain ⟨g5, H⟩ := H
    replace H := kbe H; obtain ⟨r6, c7, H⟩ := H
    have m8 := s_X12_laysWorlds (Z := Z) h v0 (0 : Int32) hn c7
    refine x_callV (q := 17) (as := [.int (0 : Int32)]) (rest := []) dX12_odds_14 rfl kc_RX12_478 kh_X12_laysWorlds (by decide) (Nat.le_of_ble_eq_true rfl) m8 (ci := 12) (by exact ⟨rfl, by decide⟩) (k243 g5 (by decide) hn) ?_
    have n9 : (r6).1 = 243 := m8.1.full hn
    refine x_aload_n (q := 18) dX12_odds_17 rfl rfl ?_
    refine x_getL (q := 21) dX12_odds_18 rfl kl_RX12_422 rfl (k243 g5 (by decide) n9) ?_
    refine x_lconst (q := 22) (v := (0 : Int64)) dX12_odds_21 rfl (by decide) ?_
    refine x_lcmp (q := 23) dX12_odds_22 rfl ?_
    replace H := kite H; rcases H with ⟨g10, H⟩ | ⟨g10, H⟩
    · refine x_if_ne_f (q := 26) dX12_odds_23 (t := 28) (by decide) rfl g10 ?_
      refine x_iconst (q := 27) (v := (-1 : Int32)) dX12_odds_26 rfl (by decide) ?_
      cases H
      exact x_end ⟨dX12_odds_27, rfl, rfl⟩
    · refine x_if_ne_t dX12_odds_23 (q := 28) (by decide) g10 ?_
      refine x_lconst (q := 29) (v := (0 : Int64)) dX12_odds_28 rfl (by decide) ?_
      refine x_lstore_n (q := 30) (i := 2) (ls2 := [(2, .long (0 : Int64)), (0, .ref v0), (1, .int v1)]) dX12_odds_29 rfl rfl (by decide) rfl ?_
      refine x_iconst (q := 31) (v := (0 : Int32)) dX12_odds_30 rfl (by decide) ?_
      refine x_istore (q := 33) (i := 4) (ls2 := [(4, .int (0 : Int32)), (2, .long (0 : Int64)), (0, .ref v0), (1, .int v1)]) dX12_odds_31 rfl (by decide) rfl ?_
      refine x_sub (ls2 := [(0, .ref v0), (1, .int v1), (2, .long (0 : Int64)), (4, .int (0 : Int32))]) [2, 3, 1, 0] rfl ?_
      replace H := kbe H; obtain ⟨e11, c12, H⟩ := H
      refine x_app (sl_X12_odds_l33 r6 v0 v1 KF ((0 : Int64), (0 : Int32)) e11 n9 c12) fun pc2 ls2 st2 h2 hg m13 => ?_
      obtain ⟨rfl, rfl, rfl, rfl⟩ := hg
      refine x_aload_n (q := 66) dX12_odds_65 rfl rfl ?_
      refine x_lload_n (q := 67) dX12_odds_66 rfl rfl ?_
      replace H := kbe H; obtain ⟨r14, c15, H⟩ := H
      have m16 := s_X12_millionths (Z := Z) r6 v0 e11 n9 c15
      refine x_callV (q := 70) (as := [.long e11]) (rest := []) dX12_odds_67 rfl kc_RX12_442 kh_X12_millionths (by decide) (Nat.le_of_ble_eq_true rfl) m16 (ci := 12) (by exact ⟨rfl, by decide⟩) (k243 g5 (by decide) n9) ?_
      cases H
      exact x_end ⟨dX12_odds_70, rfl, rfl⟩
theorem s_X12_odds {Z : Nat → (Nat → Nat) → State → Prop} (h : KH) (v0 : Nat) (v1 : Int32) {t : Int32 × KH} (hn : h.1 = 243) (H : f_X12_odds h v0 v1 = some t) : KM Z yX12_odds cX12_odds 5 (some .int) 6 [.ref v0, .int v1] h (some (.int t.1)) t.2 :=
  kx_i (own := RX12) (ini := false) (by decide +kernel) (by decide +kernel) rfl (Nat.le_of_ble_eq_true rfl) (s0_X12_odds h v0 v1 hn H)
theorem dX12_kinds_0 : decode cX12_kinds 0 = .ok (.iload_n 1, 1) := by decide +kernel
theorem dX12_kinds_1 : decode cX12_kinds 1 = .ok (.i2l, 1) := by decide +kernel
theorem dX12_kinds_2 : decode cX12_kinds 2 = .ok (.lconst 0, 1) := by decide +kernel
theorem dX12_kinds_3 : decode cX12_kinds 3 = .ok (.lconst 1, 1) := by decide +kernel
theorem dX12_kinds_4 : decode cX12_kinds 4 = .ok (.invokestatic 270, 3) := by decide +kernel
theorem dX12_kinds_7 : decode cX12_kinds 7 = .ok (.ifCond .eq 11, 3) := by decide +kernel
theorem dX12_kinds_10 : decode cX12_kinds 10 = .ok (.aload_n 0, 1) := by decide +kernel
theorem dX12_kinds_11 : decode cX12_kinds 11 = .ok (.iload_n 2, 1) := by decide +kernel
theorem dX12_kinds_12 : decode cX12_kinds 12 = .ok (.invokevirtual 468, 3) := by decide +kernel
theorem dX12_kinds_15 : decode cX12_kinds 15 = .ok (.ifCond .ne 5, 3) := by decide +kernel
theorem dX12_kinds_18 : decode cX12_kinds 18 = .ok (.iconst (-1), 1) := by decide +kernel
theorem dX12_kinds_19 : decode cX12_kinds 19 = .ok (.ireturn, 1) := by decide +kernel
theorem dX12_kinds_20 : decode cX12_kinds 20 = .ok (.aload_n 0, 1) := by decide +kernel
theorem dX12_kinds_21 : decode cX12_kinds 21 = .ok (.iconst 0, 1) := by decide +kernel
theorem dX12_kinds_22 : decode cX12_kinds 22 = .ok (.invokevirtual 478, 3) := by decide +kernel
theorem dX12_kinds_25 : decode cX12_kinds 25 = .ok (.aload_n 0, 1) := by decide +kernel
theorem dX12_kinds_26 : decode cX12_kinds 26 = .ok (.getfield 422, 3) := by decide +kernel
theorem dX12_kinds_29 : decode cX12_kinds 29 = .ok (.lconst 0, 1) := by decide +kernel
theorem dX12_kinds_30 : decode cX12_kinds 30 = .ok (.lcmp, 1) := by decide +kernel
theorem dX12_kinds_31 : decode cX12_kinds 31 = .ok (.ifCond .ne 5, 3) := by decide +kernel
theorem dX12_kinds_34 : decode cX12_kinds 34 = .ok (.iconst (-1), 1) := by decide +kernel
theorem dX12_kinds_35 : decode cX12_kinds 35 = .ok (.ireturn, 1) := by decide +kernel
theorem dX12_kinds_36 : decode cX12_kinds 36 = .ok (.lconst 0, 1) := by decide +kernel
theorem dX12_kinds_37 : decode cX12_kinds 37 = .ok (.lstore_n 3, 1) := by decide +kernel
theorem dX12_kinds_38 : decode cX12_kinds 38 = .ok (.iconst 0, 1) := by decide +kernel
theorem dX12_kinds_39 : decode cX12_kinds 39 = .ok (.istore 5, 2) := by decide +kernel
theorem dX12_kinds_41 : decode cX12_kinds 41 = .ok (.iload 5, 2) := by decide +kernel
theorem dX12_kinds_43 : decode cX12_kinds 43 = .ok (.bipush 72, 2) := by decide +kernel
theorem dX12_kinds_45 : decode cX12_kinds 45 = .ok (.if_icmp .ge 29, 3) := by decide +kernel
theorem dX12_kinds_48 : decode cX12_kinds 48 = .ok (.iload 5, 2) := by decide +kernel
theorem dX12_kinds_50 : decode cX12_kinds 50 = .ok (.iload_n 1, 1) := by decide +kernel
theorem dX12_kinds_51 : decode cX12_kinds 51 = .ok (.invokestatic 397, 3) := by decide +kernel
theorem dX12_kinds_54 : decode cX12_kinds 54 = .ok (.iload_n 2, 1) := by decide +kernel
theorem dX12_kinds_55 : decode cX12_kinds 55 = .ok (.if_icmp .ne 13, 3) := by decide +kernel
theorem dX12_kinds_58 : decode cX12_kinds 58 = .ok (.lload_n 3, 1) := by decide +kernel
theorem dX12_kinds_59 : decode cX12_kinds 59 = .ok (.aload_n 0, 1) := by decide +kernel
theorem dX12_kinds_60 : decode cX12_kinds 60 = .ok (.getfield 133, 3) := by decide +kernel
theorem dX12_kinds_63 : decode cX12_kinds 63 = .ok (.iload 5, 2) := by decide +kernel
theorem dX12_kinds_65 : decode cX12_kinds 65 = .ok (.laload, 1) := by decide +kernel
theorem dX12_kinds_66 : decode cX12_kinds 66 = .ok (.ladd, 1) := by decide +kernel
theorem dX12_kinds_67 : decode cX12_kinds 67 = .ok (.lstore_n 3, 1) := by decide +kernel
theorem dX12_kinds_68 : decode cX12_kinds 68 = .ok (.iinc 5 1, 3) := by decide +kernel
theorem dX12_kinds_71 : decode cX12_kinds 71 = .ok (.goto (-30), 3) := by decide +kernel
theorem dX12_kinds_74 : decode cX12_kinds 74 = .ok (.aload_n 0, 1) := by decide +kernel
theorem dX12_kinds_75 : decode cX12_kinds 75 = .ok (.lload_n 3, 1) := by decide +kernel
theorem dX12_kinds_76 : decode cX12_kinds 76 = .ok (.invokevirtual 442, 3) := by decide +kernel
theorem dX12_kinds_79 : decode cX12_kinds 79 = .ok (.ireturn, 1) := by decide +kernel
def E_X12_kinds_l41 (h : KH) (v0 : Nat) (v1 : Int32) (v2 : Int32) : Int64 → Nat → List (Nat × Value) → List Value → KH → Prop := fun (e : Int64) pc ls st hh => pc = 74 ∧ ls = [(0, .ref v0), (3, .long e)] ∧ st = [] ∧ h = hh
def B_X12_kinds_l41 (h : KH) (v0 : Nat) (v1 : Int32) (v2 : Int32) : ((Int64 × Int32) ⊕ (Int64)) → Nat → List (Nat × Value) → List Value → KH → Prop := Sum.elim (fun (s : Int64 × Int32) pc ls st hh => pc = 41 ∧ ls = [(0, .ref v0), (1, .int v1), (2, .int v2), (3, .long s.1), (5, .int s.2)] ∧ st = [] ∧ hh = h) (E_X12_kinds_l41 h v0 v1 v2)
def f_X12_kinds_b68 (h : KH) (v0 : Nat) (v1 : Int32) (v2 : Int32) (v3 : Int64) (v5 : Int32) : Option ((Int64 × Int32) ⊕ (Int64)) :=
  kl (v5 + (1 : Int32)) fun x1 =>
  some (.inl (v3, x1))
set_option maxHeartbeats 4000000 in
set_option maxRecDepth 100000 in
theorem s_X12_kinds_b68 {Z : Nat → (Nat → Nat) → State → Prop} (h : KH) (v0 : Nat) (v1 : Int32) (v2 : Int32) (v3 : Int64) (v5 : Int32) {t : (Int64 × Int32) ⊕ (Int64)} (hn : h.1 = 243) (H : f_X12_kinds_b68 h v0 v1 v2 v3 v5 = some t) : KX Z RX12 cX12_kinds 6 false 6 (B_X12_kinds_l41 h v0 v1 v2 t) 68 [(0, .ref v0), (1, .int v1), (2, .int v2), (3, .long v3), (5, .int v5)] [] h := by
  unfold f_X12_kinds_b68 at H
  replace H := kle H; obtain ⟨x1, q2, H⟩ := H
  refine x_iinc (q := 71) (i := 5) (ls2 := [(5, .int x1), (0, .ref v0), (1, .int v1), (2, .int v2), (3, .long v3)]) dX12_kinds_68 rfl rfl (by decide) (by rw [q2]; rfl) ?_
  refine x_goto dX12_kinds_71 (q := 41) (by decide) ?_
  cases H
  refine x_sub (ls2 := [(0, .ref v0), (1, .int v1), (2, .int v2), (3, .long v3), (5, .int x1)]) [1, 2, 3, 4, 0] rfl ?_
  exact x_end (x_cfg rfl)
def f_X12_kinds_l41 (h : KH) (v0 : Nat) (v1 : Int32) (v2 : Int32) (s : Int64 × Int32) : Option ((Int64 × Int32) ⊕ (Int64)) :=
  if (72 : Int32) ≤ s.2 then
  some (.inr s.1)
  else
  kb (f_X12_kindIn h s.2 v1) fun r2 =>
  if r2 = v2 then
  if kkind v0 = 12 then if (kR h v0 54) < 999999 then if kkind (kR h v0 54) = 21 then if (s.2 < 0 ∨ klen (kR h v0 54) ≤ (s.2).toNatClampNeg) then none else kl (s.1 + (kL h (kR h v0 54) ((s.2).toNatClampNeg))) fun x10 =>
  f_X12_kinds_b68 h v0 v1 v2 x10 s.2 else none else none else none
  else
  f_X12_kinds_b68 h v0 v1 v2 s.1 s.2
set_option maxHeartbeats 4000000 in
set_option maxRecDepth 100000 in
theorem s_X12_kinds_l41 {Z : Nat → (Nat → Nat) → State → Prop} (h : KH) (v0 : Nat) (v1 : Int32) (v2 : Int32) (s : Int64 × Int32) (t : (Int64 × Int32) ⊕ (Int64)) (hn : (h).1 = 243) (H : f_X12_kinds_l41 h v0 v1 v2 s = some t) : KX Z RX12 cX12_kinds 6 false 6 (B_X12_kinds_l41 h v0 v1 v2 t) 41 [(0, .ref v0), (1, .int v1), (2, .int v2), (3, .long s.1), (5, .int s.2)] [] h := by
  unfold f_X12_kinds_l41 at H
  refine x_iload (q := 43) dX12_kinds_41 rfl rfl ?_
  refine x_bipush (q := 45) (v := (72 : Int32)) dX12_kinds_43 rfl (by decide) ?_
  replace H := kite H; rcases H with ⟨g1, H⟩ | ⟨g1, H⟩
  · refine x_icmp_ge_t dX12_kinds_45 (q := 74) (by decide) g1 ?_
    cases H
    refine x_sub (ls2 := [(0, .ref v0), (3, .long s.1)]) [0, 3] rfl ?_
    exact x_end (x_cfg rfl)
  · refine x_icmp_ge_f (q := 48) dX12_kinds_45 (t := 74) (by decide) rfl g1 ?_
    refine x_iload (q := 50) dX12_kinds_48 rfl rfl ?_
    refine x_iload_n (q := 51) dX12_kinds_50 rfl rfl ?_
    replace H := kbe H; obtain ⟨r2, c3, H⟩ := H
    have m4 := s_X12_kindIn (Z := Z) h s.2 v1 hn c3
    refine x_callS (q := 54) (as := [.int s.2, .int v1]) (rest := []) dX12_kinds_51 rfl kc_RX12_397 kh_X12_kindIn (by decide) (Nat.le_of_ble_eq_true rfl) m4 ?_
    refine x_iload_n (q := 55) dX12_kinds_54 rfl rfl ?_
    replace H := kite H; rcases H with ⟨g5, H⟩ | ⟨g5, H⟩
    · refine x_icmp_ne_f (q := 58) dX12_kinds_55 (t := 68) (by decide) rfl g5 ?_
      refine x_lload_n (q := 59) dX12_kinds_58 rfl rfl ?_
      refine x_aload_n (q := 60) dX12_kinds_59 rfl rfl ?_
      replace H := kif H; obtain ⟨g6, H⟩ := H
      replace H := kif H; obtain ⟨g7, H⟩ := H
      refine x_getR (q := 63) dX12_kinds_60 rfl kl_RX12_133 rfl (k243 g6 (by decide) hn) g7 ?_
      refine x_iload (q := 65) dX12_kinds_63 rfl rfl ?_
      replace H := kif H; obtain ⟨g8, H⟩ := H
      replace H := kifn H; obtain ⟨g9, H⟩ := H
      refine x_lald (q := 66) dX12_kinds_65 rfl (k243 g8 (by decide) hn) g9 ?_
      refine x_ladd (q := 67) dX12_kinds_66 rfl ?_
      replace H := kle H; obtain ⟨x10, q11, H⟩ := H
      refine x_nmL q11 ?_
      refine x_lstore_n (q := 68) (i := 3) (ls2 := [(3, .long x10), (0, .ref v0), (1, .int v1), (2, .int v2), (5, .int s.2)]) dX12_kinds_67 rfl rfl (by decide) rfl ?_
      refine x_sub (ls2 := [(0, .ref v0), (1, .int v1), (2, .int v2), (3, .long x10), (5, .int s.2)]) [1, 2, 3, 0, 4] rfl ?_
      exact s_X12_kinds_b68 h v0 v1 v2 x10 s.2 hn H
    · refine x_icmp_ne_t dX12_kinds_55 (q := 68) (by decide) g5 ?_
      refine x_sub (ls2 := [(0, .ref v0), (1, .int v1), (2, .int v2), (3, .long s.1), (5, .int s.2)]) [0, 1, 2, 3, 4] rfl ?_
      exact s_X12_kinds_b68 h v0 v1 v2 s.1 s.2 hn H
theorem sl_X12_kinds_l41 {Z : Nat → (Nat → Nat) → State → Prop} (h : KH) (v0 : Nat) (v1 : Int32) (v2 : Int32) (n : Nat) (s : Int64 × Int32) (r : Int64) (hn : (h).1 = 243) (H : kloop (f_X12_kinds_l41 h v0 v1 v2) n s = some r) : KX Z RX12 cX12_kinds 6 false 6 (E_X12_kinds_l41 h v0 v1 v2 r) 41 [(0, .ref v0), (1, .int v1), (2, .int v2), (3, .long s.1), (5, .int s.2)] [] h :=
  k_loop (ls := (fun (s : Int64 × Int32) => ([(0, .ref v0), (1, .int v1), (2, .int v2), (3, .long s.1), (5, .int s.2)] : List (Nat × Value)))) (hp := (fun (s : Int64 × Int32) => (h : KH))) (G := E_X12_kinds_l41 h v0 v1 v2) (fun s t hn H => s_X12_kinds_l41 h v0 v1 v2 s t hn H) n s r hn H
def f_X12_kinds (h : KH) (v0 : Nat) (v1 : Int32) (v2 : Int32) : Option (Int32 × KH) :=
  kb (f_X12_isIn h ((v1).toInt64) (0 : Int64) (1 : Int64)) fun r1 =>
  if r1 = 0 then
  some ((-1 : Int32), h)
  else
  if kkind v0 = 12 then kb (f_X12_isKind h v0 v2) fun r6 =>
  if r6 = 0 then
  some ((-1 : Int32), h)
  else
  kb (f_X12_laysWorlds h v0 (0 : Int32)) fun r10 =>
  if (lg_cmp (kL r10 v0 56) (0 : Int64)) = 0 then
  some ((-1 : Int32), r10)
  else
  kb (kloop (f_X12_kinds_l41 r10 v0 v1 v2) KF ((0 : Int64), (0 : Int32))) fun e15 =>
  kb (f_X12_millionths r10 v0 e15) fun r18 =>
  some (r18, r10) else none
set_option maxHeartbeats 4000000 in
set_option maxRecDepth 100000 in
theorem s0_X12_kinds {Z : Nat → (Nat → Nat) → State → Prop} (h : KH) (v0 : Nat) (v1 : Int32) (v2 : Int32) {t : Int32 × KH} (hn : h.1 = 243) (H : f_X12_kinds h v0 v1 v2 = some t) : KX Z RX12 cX12_kinds 6 false 6 (KRi cX12_kinds t.1 t.2) 0 [(0, .ref v0), (1, .int v1), (2, .int v2)] [] h := by
  unfold f_X12_kinds at H
  refine x_iload_n (q := 1) dX12_kinds_0 rfl rfl ?_
  refine x_i2l (q := 2) dX12_kinds_1 rfl ?_
  refine x_lconst (q := 3) (v := (0 : Int64)) dX12_kinds_2 rfl (by decide) ?_
  refine x_lconst (q := 4) (v := (1 : Int64)) dX12_kinds_3 rfl (by decide) ?_
  replace H := kbe H; obtain ⟨r1, c2, H⟩ := H
  have m3 := s_X12_isIn (Z := Z) h ((v1).toInt64) (0 : Int64) (1 : Int64) hn c2
  refine x_callS (q := 7) (as := [.long ((v1).toInt64), .long (0 : Int64), .long (1 : Int64)]) (rest := []) dX12_kinds_4 rfl kc_RX12_270 kh_X12_isIn (by decide) (Nat.le_of_ble_eq_true rfl) m3 ?_
  replace H := kite H; rcases H with ⟨g4, H⟩ | ⟨g4, H⟩
  · refine x_if_eq_t dX12_kinds_7 (q := 18) (by decide) g4 ?_
    refine x_iconst (q := 19) (v := (-1 : Int32)) dX12_kinds_18 rfl (by decide) ?_
    cases H
    exact x_end ⟨dX12_kinds_19, rfl, rfl⟩
  · refine x_if_eq_f (q := 10) dX12_kinds_7 (t := 18) (by decide) rfl g4 ?_
    refine x_aload_n (q := 11) dX12_kinds_10 rfl rfl ?_
    refine x_iload_n (q := 12) dX12_kinds_11 rfl rfl ?_
    replace H := kif H; obtain ⟨g5, H⟩ := H
    replace H := kbe H; obtain ⟨r6, c7, H⟩ := H
    have m8 := s_X12_isKind (Z := Z) h v0 v2 hn c7
    refine x_callV (q := 15) (as := [.int v2]) (rest := []) dX12_kinds_12 rfl kc_RX12_468 kh_X12_isKind (by decide) (Nat.le_of_ble_eq_true rfl) m8 (ci := 12) (by exact ⟨rfl, by decide⟩) (k243 g5 (by decide) hn) ?_
    replace H := kite H; rcases H with ⟨g9, H⟩ | ⟨g9, H⟩
    · refine x_if_ne_f (q := 18) dX12_kinds_15 (t := 20) (by decide) rfl g9 ?_
      refine x_iconst (q := 19) (v := (-1 : Int32)) dX12_kinds_18 rfl (by decide) ?_
      cases H
      exact x_end ⟨dX12_kinds_19, rfl, rfl⟩
    · refine x_if_ne_t dX12_kinds_15 (q := 20) (by decide) g9 ?_
      refine x_aload_n (q := 21) dX12_kinds_20 rfl rfl ?_
      refine x_iconst (q := 22) (v := (0 : Int32)) dX12_kinds_21 rfl (by decide) ?_
      replace H := kbe H; obtain ⟨r10, c11, H⟩ := H
      have m12 := s_X12_laysWorlds (Z := Z) h v0 (0 : Int32) hn c11
      refine x_callV (q := 25) (as := [.int (0 : Int32)]) (rest := []) dX12_kinds_22 rfl kc_RX12_478 kh_X12_laysWorlds (by decide) (Nat.le_of_ble_eq_true rfl) m12 (ci := 12) (by exact ⟨rfl, by decide⟩) (k243 g5 (by decide) hn) ?_
      have n13 : (r10).1 = 243 := m12.1.full hn
      refine x_aload_n (q := 26) dX12_kinds_25 rfl rfl ?_
      refine x_getL (q := 29) dX12_kinds_26 rfl kl_RX12_422 rfl (k243 g5 (by decide) n13) ?_
      refine x_lconst (q := 30) (v := (0 : Int64)) dX12_kinds_29 rfl (by decide) ?_
      refine x_lcmp (q := 31) dX12_kinds_30 rfl ?_
      replace H := kite H; rcases H with ⟨g14, H⟩ | ⟨g14, H⟩
      · refine x_if_ne_f (q := 34) dX12_kinds_31 (t := 36) (by decide) rfl g14 ?_
        refine x_iconst (q := 35) (v := (-1 : Int32)) dX12_kinds_34 rfl (by decide) ?_
        cases H
        exact x_end ⟨dX12_kinds_35, rfl, rfl⟩
      · refine x_if_ne_t dX12_kinds_31 (q := 36) (by decide) g14 ?_
        refine x_lconst (q := 37) (v := (0 : Int64)) dX12_kinds_36 rfl (by decide) ?_
        refine x_lstore_n (q := 38) (i := 3) (ls2 := [(3, .long (0 : Int64)), (0, .ref v0), (1, .int v1), (2, .int v2)]) dX12_kinds_37 rfl rfl (by decide) rfl ?_
        refine x_iconst (q := 39) (v := (0 : Int32)) dX12_kinds_38 rfl (by decide) ?_
        refine x_istore (q := 41) (i := 5) (ls2 := [(5, .int (0 : Int32)), (3, .long (0 : Int64)), (0, .ref v0), (1, .int v1), (2, .int v2)]) dX12_kinds_39 rfl (by decide) rfl ?_
        refine x_sub (ls2 := [(0, .ref v0), (1, .int v1), (2, .int v2), (3, .long (0 : Int64)), (5, .int (0 : Int32))]) [2, 3, 4, 1, 0] rfl ?_
        replace H := kbe H; obtain ⟨e15, c16, H⟩ := H
        refine x_app (sl_X12_kinds_l41 r10 v0 v1 v2 KF ((0 : Int64), (0 : Int32)) e15 n13 c16) fun pc2 ls2 st2 h2 hg m17 => ?_
        obtain ⟨rfl, rfl, rfl, rfl⟩ := hg
        refine x_aload_n (q := 75) dX12_kinds_74 rfl rfl ?_
        refine x_lload_n (q := 76) dX12_kinds_75 rfl rfl ?_
        replace H := kbe H; obtain ⟨r18, c19, H⟩ := H
        have m20 := s_X12_millionths (Z := Z) r10 v0 e15 n13 c19
        refine x_callV (q := 79) (as := [.long e15]) (rest := []) dX12_kinds_76 rfl kc_RX12_442 kh_X12_millionths (by decide) (Nat.le_of_ble_eq_true rfl) m20 (ci := 12) (by exact ⟨rfl, by decide⟩) (k243 g5 (by decide) n13) ?_
        cases H
        exact x_end ⟨dX12_kinds_79, rfl, rfl⟩
theorem s_X12_kinds {Z : Nat → (Nat → Nat) → State → Prop} (h : KH) (v0 : Nat) (v1 : Int32) (v2 : Int32) {t : Int32 × KH} (hn : h.1 = 243) (H : f_X12_kinds h v0 v1 v2 = some t) : KM Z yX12_kinds cX12_kinds 6 (some .int) 6 [.ref v0, .int v1, .int v2] h (some (.int t.1)) t.2 :=
  kx_i (own := RX12) (ini := false) (by decide +kernel) (by decide +kernel) rfl (Nat.le_of_ble_eq_true rfl) (s0_X12_kinds h v0 v1 v2 hn H)
theorem dX12_would_0 : decode cX12_would 0 = .ok (.iload_n 1, 1) := by decide +kernel
theorem dX12_would_1 : decode cX12_would 1 = .ok (.i2l, 1) := by decide +kernel
theorem dX12_would_2 : decode cX12_would 2 = .ok (.lconst 0, 1) := by decide +kernel
theorem dX12_would_3 : decode cX12_would 3 = .ok (.lconst 1, 1) := by decide +kernel
theorem dX12_would_4 : decode cX12_would 4 = .ok (.invokestatic 270, 3) := by decide +kernel
theorem dX12_would_7 : decode cX12_would 7 = .ok (.ifCond .eq 11, 3) := by decide +kernel
theorem dX12_would_10 : decode cX12_would 10 = .ok (.aload_n 0, 1) := by decide +kernel
theorem dX12_would_11 : decode cX12_would 11 = .ok (.iload_n 2, 1) := by decide +kernel
theorem dX12_would_12 : decode cX12_would 12 = .ok (.invokevirtual 473, 3) := by decide +kernel
theorem dX12_would_15 : decode cX12_would 15 = .ok (.ifCond .ne 5, 3) := by decide +kernel
theorem dX12_would_18 : decode cX12_would 18 = .ok (.iconst (-1), 1) := by decide +kernel
theorem dX12_would_19 : decode cX12_would 19 = .ok (.ireturn, 1) := by decide +kernel
theorem dX12_would_20 : decode cX12_would 20 = .ok (.aload_n 0, 1) := by decide +kernel
theorem dX12_would_21 : decode cX12_would 21 = .ok (.iconst 0, 1) := by decide +kernel
theorem dX12_would_22 : decode cX12_would 22 = .ok (.invokevirtual 478, 3) := by decide +kernel
theorem dX12_would_25 : decode cX12_would 25 = .ok (.aload_n 0, 1) := by decide +kernel
theorem dX12_would_26 : decode cX12_would 26 = .ok (.getfield 422, 3) := by decide +kernel
theorem dX12_would_29 : decode cX12_would 29 = .ok (.lconst 0, 1) := by decide +kernel
theorem dX12_would_30 : decode cX12_would 30 = .ok (.lcmp, 1) := by decide +kernel
theorem dX12_would_31 : decode cX12_would 31 = .ok (.ifCond .ne 5, 3) := by decide +kernel
theorem dX12_would_34 : decode cX12_would 34 = .ok (.iconst (-1), 1) := by decide +kernel
theorem dX12_would_35 : decode cX12_would 35 = .ok (.ireturn, 1) := by decide +kernel
theorem dX12_would_36 : decode cX12_would 36 = .ok (.lconst 0, 1) := by decide +kernel
theorem dX12_would_37 : decode cX12_would 37 = .ok (.lstore_n 3, 1) := by decide +kernel
theorem dX12_would_38 : decode cX12_would 38 = .ok (.iconst 0, 1) := by decide +kernel
theorem dX12_would_39 : decode cX12_would 39 = .ok (.istore 5, 2) := by decide +kernel
theorem dX12_would_41 : decode cX12_would 41 = .ok (.iload 5, 2) := by decide +kernel
theorem dX12_would_43 : decode cX12_would 43 = .ok (.bipush 72, 2) := by decide +kernel
theorem dX12_would_45 : decode cX12_would 45 = .ok (.if_icmp .ge 43, 3) := by decide +kernel
theorem dX12_would_48 : decode cX12_would 48 = .ok (.aload_n 0, 1) := by decide +kernel
theorem dX12_would_49 : decode cX12_would 49 = .ok (.getfield 133, 3) := by decide +kernel
theorem dX12_would_52 : decode cX12_would 52 = .ok (.iload 5, 2) := by decide +kernel
theorem dX12_would_54 : decode cX12_would 54 = .ok (.laload, 1) := by decide +kernel
theorem dX12_would_55 : decode cX12_would 55 = .ok (.lconst 0, 1) := by decide +kernel
theorem dX12_would_56 : decode cX12_would 56 = .ok (.lcmp, 1) := by decide +kernel
theorem dX12_would_57 : decode cX12_would 57 = .ok (.ifCond .le 25, 3) := by decide +kernel
theorem dX12_would_60 : decode cX12_would 60 = .ok (.aload_n 0, 1) := by decide +kernel
theorem dX12_would_61 : decode cX12_would 61 = .ok (.iload 5, 2) := by decide +kernel
theorem dX12_would_63 : decode cX12_would 63 = .ok (.iload_n 1, 1) := by decide +kernel
theorem dX12_would_64 : decode cX12_would 64 = .ok (.iload_n 2, 1) := by decide +kernel
theorem dX12_would_65 : decode cX12_would 65 = .ok (.invokevirtual 425, 3) := by decide +kernel
theorem dX12_would_68 : decode cX12_would 68 = .ok (.iconst 1, 1) := by decide +kernel
theorem dX12_would_69 : decode cX12_would 69 = .ok (.if_icmp .ne 13, 3) := by decide +kernel
theorem dX12_would_72 : decode cX12_would 72 = .ok (.lload_n 3, 1) := by decide +kernel
theorem dX12_would_73 : decode cX12_would 73 = .ok (.aload_n 0, 1) := by decide +kernel
theorem dX12_would_74 : decode cX12_would 74 = .ok (.getfield 133, 3) := by decide +kernel
theorem dX12_would_77 : decode cX12_would 77 = .ok (.iload 5, 2) := by decide +kernel
theorem dX12_would_79 : decode cX12_would 79 = .ok (.laload, 1) := by decide +kernel
theorem dX12_would_80 : decode cX12_would 80 = .ok (.ladd, 1) := by decide +kernel
theorem dX12_would_81 : decode cX12_would 81 = .ok (.lstore_n 3, 1) := by decide +kernel
theorem dX12_would_82 : decode cX12_would 82 = .ok (.iinc 5 1, 3) := by decide +kernel
theorem dX12_would_85 : decode cX12_would 85 = .ok (.goto (-44), 3) := by decide +kernel
theorem dX12_would_88 : decode cX12_would 88 = .ok (.aload_n 0, 1) := by decide +kernel
theorem dX12_would_89 : decode cX12_would 89 = .ok (.lload_n 3, 1) := by decide +kernel
theorem dX12_would_90 : decode cX12_would 90 = .ok (.invokevirtual 442, 3) := by decide +kernel
theorem dX12_would_93 : decode cX12_would 93 = .ok (.ireturn, 1) := by decide +kernel
def E_X12_would_l41 (h : KH) (v0 : Nat) (v1 : Int32) (v2 : Int32) : Int64 → Nat → List (Nat × Value) → List Value → KH → Prop := fun (e : Int64) pc ls st hh => pc = 88 ∧ ls = [(0, .ref v0), (3, .long e)] ∧ st = [] ∧ h = hh
def B_X12_would_l41 (h : KH) (v0 : Nat) (v1 : Int32) (v2 : Int32) : ((Int64 × Int32) ⊕ (Int64)) → Nat → List (Nat × Value) → List Value → KH → Prop := Sum.elim (fun (s : Int64 × Int32) pc ls st hh => pc = 41 ∧ ls = [(0, .ref v0), (1, .int v1), (2, .int v2), (3, .long s.1), (5, .int s.2)] ∧ st = [] ∧ hh = h) (E_X12_would_l41 h v0 v1 v2)
def f_X12_would_b82 (h : KH) (v0 : Nat) (v1 : Int32) (v2 : Int32) (v3 : Int64) (v5 : Int32) : Option ((Int64 × Int32) ⊕ (Int64)) :=
  kl (v5 + (1 : Int32)) fun x1 =>
  some (.inl (v3, x1))
set_option maxHeartbeats 4000000 in
set_option maxRecDepth 100000 in
theorem s_X12_would_b82 {Z : Nat → (Nat → Nat) → State → Prop} (h : KH) (v0 : Nat) (v1 : Int32) (v2 : Int32) (v3 : Int64) (v5 : Int32) {t : (Int64 × Int32) ⊕ (Int64)} (hn : h.1 = 243) (H : f_X12_would_b82 h v0 v1 v2 v3 v5 = some t) : KX Z RX12 cX12_would 6 false 6 (B_X12_would_l41 h v0 v1 v2 t) 82 [(0, .ref v0), (1, .int v1), (2, .int v2), (3, .long v3), (5, .int v5)] [] h := by
  unfold f_X12_would_b82 at H
  replace H := kle H; obtain ⟨x1, q2, H⟩ := H
  refine x_iinc (q := 85) (i := 5) (ls2 := [(5, .int x1), (0, .ref v0), (1, .int v1), (2, .int v2), (3, .long v3)]) dX12_would_82 rfl rfl (by decide) (by rw [q2]; rfl) ?_
  refine x_goto dX12_would_85 (q := 41) (by decide) ?_
  cases H
  refine x_sub (ls2 := [(0, .ref v0), (1, .int v1), (2, .int v2), (3, .long v3), (5, .int x1)]) [1, 2, 3, 4, 0] rfl ?_
  exact x_end (x_cfg rfl)
def f_X12_would_l41 (h : KH) (v0 : Nat) (v1 : Int32) (v2 : Int32) (s : Int64 × Int32) : Option ((Int64 × Int32) ⊕ (Int64)) :=
  if (72 : Int32) ≤ s.2 then
  some (.inr s.1)
  else
  if kkind v0 = 12 then if (kR h v0 54) < 999999 then if kkind (kR h v0 54) = 21 then if (s.2 < 0 ∨ klen (kR h v0 54) ≤ (s.2).toNatClampNeg) then none else if (lg_cmp (kL h (kR h v0 54) ((s.2).toNatClampNeg)) (0 : Int64)) ≤ 0 then
  f_X12_would_b82 h v0 v1 v2 s.1 s.2
  else
  kb (f_X12_yieldIn h v0 s.2 v1 v2) fun r7 =>
  if r7 = (1 : Int32) then
  kl (s.1 + (kL h (kR h v0 54) ((s.2).toNatClampNeg))) fun x11 =>
  f_X12_would_b82 h v0 v1 v2 x11 s.2
  else
  f_X12_would_b82 h v0 v1 v2 s.1 s.2 else none else none else none
set_option maxHeartbeats 4000000 in
set_option maxRecDepth 100000 in
theorem s_X12_would_l41 {Z : Nat → (Nat → Nat) → State → Prop} (h : KH) (v0 : Nat) (v1 : Int32) (v2 : Int32) (s : Int64 × Int32) (t : (Int64 × Int32) ⊕ (Int64)) (hn : (h).1 = 243) (H : f_X12_would_l41 h v0 v1 v2 s = some t) : KX Z RX12 cX12_would 6 false 6 (B_X12_would_l41 h v0 v1 v2 t) 41 [(0, .ref v0), (1, .int v1), (2, .int v2), (3, .long s.1), (5, .int s.2)] [] h := by
  unfold f_X12_would_l41 at H
  refine x_iload (q := 43) dX12_would_41 rfl rfl ?_
  refine x_bipush (q := 45) (v := (72 : Int32)) dX12_would_43 rfl (by decide) ?_
  replace H := kite H; rcases H with ⟨g1, H⟩ | ⟨g1, H⟩
  · refine x_icmp_ge_t dX12_would_45 (q := 88) (by decide) g1 ?_
    cases H
    refine x_sub (ls2 := [(0, .ref v0), (3, .long s.1)]) [0, 3] rfl ?_
    exact x_end (x_cfg rfl)
  · refine x_icmp_ge_f (q := 48) dX12_would_45 (t := 88) (by decide) rfl g1 ?_
    refine x_aload_n (q := 49) dX12_would_48 rfl rfl ?_
    replace H := kif H; obtain ⟨g2, H⟩ := H
    replace H := kif H; obtain ⟨g3, H⟩ := H
    refine x_getR (q := 52) dX12_would_49 rfl kl_RX12_133 rfl (k243 g2 (by decide) hn) g3 ?_
    refine x_iload (q := 54) dX12_would_52 rfl rfl ?_
    replace H := kif H; obtain ⟨g4, H⟩ := H
    replace H := kifn H; obtain ⟨g5, H⟩ := H
    refine x_lald (q := 55) dX12_would_54 rfl (k243 g4 (by decide) hn) g5 ?_
    refine x_lconst (q := 56) (v := (0 : Int64)) dX12_would_55 rfl (by decide) ?_
    refine x_lcmp (q := 57) dX12_would_56 rfl ?_
    replace H := kite H; rcases H with ⟨g6, H⟩ | ⟨g6, H⟩
    · refine x_if_le_t dX12_would_57 (q := 82) (by decide) g6 ?_
      refine x_sub (ls2 := [(0, .ref v0), (1, .int v1), (2, .int v2), (3, .long s.1), (5, .int s.2)]) [0, 1, 2, 3, 4] rfl ?_
      exact s_X12_would_b82 h v0 v1 v2 s.1 s.2 hn H
    · refine x_if_le_f (q := 60) dX12_would_57 (t := 82) (by decide) rfl g6 ?_
      refine x_aload_n (q := 61) dX12_would_60 rfl rfl ?_
      refine x_iload (q := 63) dX12_would_61 rfl rfl ?_
      refine x_iload_n (q := 64) dX12_would_63 rfl rfl ?_
      refine x_iload_n (q := 65) dX12_would_64 rfl rfl ?_
      replace H := kbe H; obtain ⟨r7, c8, H⟩ := H
      have m9 := s_X12_yieldIn (Z := Z) h v0 s.2 v1 v2 hn c8
      refine x_callV (q := 68) (as := [.int s.2, .int v1, .int v2]) (rest := []) dX12_would_65 rfl kc_RX12_425 kh_X12_yieldIn (by decide) (Nat.le_of_ble_eq_true rfl) m9 (ci := 12) (by exact ⟨rfl, by decide⟩) (k243 g2 (by decide) hn) ?_
      refine x_iconst (q := 69) (v := (1 : Int32)) dX12_would_68 rfl (by decide) ?_
      replace H := kite H; rcases H with ⟨g10, H⟩ | ⟨g10, H⟩
      · refine x_icmp_ne_f (q := 72) dX12_would_69 (t := 82) (by decide) rfl g10 ?_
        refine x_lload_n (q := 73) dX12_would_72 rfl rfl ?_
        refine x_aload_n (q := 74) dX12_would_73 rfl rfl ?_
        refine x_getR (q := 77) dX12_would_74 rfl kl_RX12_133 rfl (k243 g2 (by decide) hn) g3 ?_
        refine x_iload (q := 79) dX12_would_77 rfl rfl ?_
        refine x_lald (q := 80) dX12_would_79 rfl (k243 g4 (by decide) hn) g5 ?_
        refine x_ladd (q := 81) dX12_would_80 rfl ?_
        replace H := kle H; obtain ⟨x11, q12, H⟩ := H
        refine x_nmL q12 ?_
        refine x_lstore_n (q := 82) (i := 3) (ls2 := [(3, .long x11), (0, .ref v0), (1, .int v1), (2, .int v2), (5, .int s.2)]) dX12_would_81 rfl rfl (by decide) rfl ?_
        refine x_sub (ls2 := [(0, .ref v0), (1, .int v1), (2, .int v2), (3, .long x11), (5, .int s.2)]) [1, 2, 3, 0, 4] rfl ?_
        exact s_X12_would_b82 h v0 v1 v2 x11 s.2 hn H
      · refine x_icmp_ne_t dX12_would_69 (q := 82) (by decide) g10 ?_
        refine x_sub (ls2 := [(0, .ref v0), (1, .int v1), (2, .int v2), (3, .long s.1), (5, .int s.2)]) [0, 1, 2, 3, 4] rfl ?_
        exact s_X12_would_b82 h v0 v1 v2 s.1 s.2 hn H
theorem sl_X12_would_l41 {Z : Nat → (Nat → Nat) → State → Prop} (h : KH) (v0 : Nat) (v1 : Int32) (v2 : Int32) (n : Nat) (s : Int64 × Int32) (r : Int64) (hn : (h).1 = 243) (H : kloop (f_X12_would_l41 h v0 v1 v2) n s = some r) : KX Z RX12 cX12_would 6 false 6 (E_X12_would_l41 h v0 v1 v2 r) 41 [(0, .ref v0), (1, .int v1), (2, .int v2), (3, .long s.1), (5, .int s.2)] [] h :=
  k_loop (ls := (fun (s : Int64 × Int32) => ([(0, .ref v0), (1, .int v1), (2, .int v2), (3, .long s.1), (5, .int s.2)] : List (Nat × Value)))) (hp := (fun (s : Int64 × Int32) => (h : KH))) (G := E_X12_would_l41 h v0 v1 v2) (fun s t hn H => s_X12_would_l41 h v0 v1 v2 s t hn H) n s r hn H
def f_X12_would (h : KH) (v0 : Nat) (v1 : Int32) (v2 : Int32) : Option (Int32 × KH) :=
  kb (f_X12_isIn h ((v1).toInt64) (0 : Int64) (1 : Int64)) fun r1 =>
  if r1 = 0 then
  some ((-1 : Int32), h)
  else
  if kkind v0 = 12 then kb (f_X12_isTest h v0 v2) fun r6 =>
  if r6 = 0 then
  some ((-1 : Int32), h)
  else
  kb (f_X12_laysWorlds h v0 (0 : Int32)) fun r10 =>
  if (lg_cmp (kL r10 v0 56) (0 : Int64)) = 0 then
  some ((-1 : Int32), r10)
  else
  kb (kloop (f_X12_would_l41 r10 v0 v1 v2) KF ((0 : Int64), (0 : Int32))) fun e15 =>
  kb (f_X12_millionths r10 v0 e15) fun r18 =>
  some (r18, r10) else none
set_option maxHeartbeats 4000000 in
set_option maxRecDepth 100000 in
theorem s0_X12_would {Z : Nat → (Nat → Nat) → State → Prop} (h : KH) (v0 : Nat) (v1 : Int32) (v2 : Int32) {t : Int32 × KH} (hn : h.1 = 243) (H : f_X12_would h v0 v1 v2 = some t) : KX Z RX12 cX12_would 6 false 6 (KRi cX12_would t.1 t.2) 0 [(0, .ref v0), (1, .int v1), (2, .int v2)] [] h := by
  unfold f_X12_would at H
  refine x_iload_n (q := 1) dX12_would_0 rfl rfl ?_
  refine x_i2l (q := 2) dX12_would_1 rfl ?_
  refine x_lconst (q := 3) (v := (0 : Int64)) dX12_would_2 rfl (by decide) ?_
  refine x_lconst (q := 4) (v := (1 : Int64)) dX12_would_3 rfl (by decide) ?_
  replace H := kbe H; obtain ⟨r1, c2, H⟩ := H
  have m3 := s_X12_isIn (Z := Z) h ((v1).toInt64) (0 : Int64) (1 : Int64) hn c2
  refine x_callS (q := 7) (as := [.long ((v1).toInt64), .long (0 : Int64), .long (1 : Int64)]) (rest := []) dX12_would_4 rfl kc_RX12_270 kh_X12_isIn (by decide) (Nat.le_of_ble_eq_true rfl) m3 ?_
  replace H := kite H; rcases H with ⟨g4, H⟩ | ⟨g4, H⟩
  · refine x_if_eq_t dX12_would_7 (q := 18) (by decide) g4 ?_
    refine x_iconst (q := 19) (v := (-1 : Int32)) dX12_would_18 rfl (by decide) ?_
    cases H
    exact x_end ⟨dX12_would_19, rfl, rfl⟩
  · refine x_if_eq_f (q := 10) dX12_would_7 (t := 18) (by decide) rfl g4 ?_
    refine x_aload_n (q := 11) dX12_would_10 rfl rfl ?_
    refine x_iload_n (q := 12) dX12_would_11 rfl rfl ?_
    replace H := kif H; obtain ⟨g5, H⟩ := H
    replace H := kbe H; obtain ⟨r6, c7, H⟩ := H
    have m8 := s_X12_isTest (Z := Z) h v0 v2 hn c7
    refine x_callV (q := 15) (as := [.int v2]) (rest := []) dX12_would_12 rfl kc_RX12_473 kh_X12_isTest (by decide) (Nat.le_of_ble_eq_true rfl) m8 (ci := 12) (by exact ⟨rfl, by decide⟩) (k243 g5 (by decide) hn) ?_
    replace H := kite H; rcases H with ⟨g9, H⟩ | ⟨g9, H⟩
    · refine x_if_ne_f (q := 18) dX12_would_15 (t := 20) (by decide) rfl g9 ?_
      refine x_iconst (q := 19) (v := (-1 : Int32)) dX12_would_18 rfl (by decide) ?_
      cases H
      exact x_end ⟨dX12_would_19, rfl, rfl⟩
    · refine x_if_ne_t dX12_would_15 (q := 20) (by decide) g9 ?_
      refine x_aload_n (q := 21) dX12_would_20 rfl rfl ?_
      refine x_iconst (q := 22) (v := (0 : Int32)) dX12_would_21 rfl (by decide) ?_
      replace H := kbe H; obtain ⟨r10, c11, H⟩ := H
      have m12 := s_X12_laysWorlds (Z := Z) h v0 (0 : Int32) hn c11
      refine x_callV (q := 25) (as := [.int (0 : Int32)]) (rest := []) dX12_would_22 rfl kc_RX12_478 kh_X12_laysWorlds (by decide) (Nat.le_of_ble_eq_true rfl) m12 (ci := 12) (by exact ⟨rfl, by decide⟩) (k243 g5 (by decide) hn) ?_
      have n13 : (r10).1 = 243 := m12.1.full hn
      refine x_aload_n (q := 26) dX12_would_25 rfl rfl ?_
      refine x_getL (q := 29) dX12_would_26 rfl kl_RX12_422 rfl (k243 g5 (by decide) n13) ?_
      refine x_lconst (q := 30) (v := (0 : Int64)) dX12_would_29 rfl (by decide) ?_
      refine x_lcmp (q := 31) dX12_would_30 rfl ?_
      replace H := kite H; rcases H with ⟨g14, H⟩ | ⟨g14, H⟩
      · refine x_if_ne_f (q := 34) dX12_would_31 (t := 36) (by decide) rfl g14 ?_
        refine x_iconst (q := 35) (v := (-1 : Int32)) dX12_would_34 rfl (by decide) ?_
        cases H
        exact x_end ⟨dX12_would_35, rfl, rfl⟩
      · refine x_if_ne_t dX12_would_31 (q := 36) (by decide) g14 ?_
        refine x_lconst (q := 37) (v := (0 : Int64)) dX12_would_36 rfl (by decide) ?_
        refine x_lstore_n (q := 38) (i := 3) (ls2 := [(3, .long (0 : Int64)), (0, .ref v0), (1, .int v1), (2, .int v2)]) dX12_would_37 rfl rfl (by decide) rfl ?_
        refine x_iconst (q := 39) (v := (0 : Int32)) dX12_would_38 rfl (by decide) ?_
        refine x_istore (q := 41) (i := 5) (ls2 := [(5, .int (0 : Int32)), (3, .long (0 : Int64)), (0, .ref v0), (1, .int v1), (2, .int v2)]) dX12_would_39 rfl (by decide) rfl ?_
        refine x_sub (ls2 := [(0, .ref v0), (1, .int v1), (2, .int v2), (3, .long (0 : Int64)), (5, .int (0 : Int32))]) [2, 3, 4, 1, 0] rfl ?_
        replace H := kbe H; obtain ⟨e15, c16, H⟩ := H
        refine x_app (sl_X12_would_l41 r10 v0 v1 v2 KF ((0 : Int64), (0 : Int32)) e15 n13 c16) fun pc2 ls2 st2 h2 hg m17 => ?_
        obtain ⟨rfl, rfl, rfl, rfl⟩ := hg
        refine x_aload_n (q := 89) dX12_would_88 rfl rfl ?_
        refine x_lload_n (q := 90) dX12_would_89 rfl rfl ?_
        replace H := kbe H; obtain ⟨r18, c19, H⟩ := H
        have m20 := s_X12_millionths (Z := Z) r10 v0 e15 n13 c19
        refine x_callV (q := 93) (as := [.long e15]) (rest := []) dX12_would_90 rfl kc_RX12_442 kh_X12_millionths (by decide) (Nat.le_of_ble_eq_true rfl) m20 (ci := 12) (by exact ⟨rfl, by decide⟩) (k243 g5 (by decide) n13) ?_
        cases H
        exact x_end ⟨dX12_would_93, rfl, rfl⟩
theorem s_X12_would {Z : Nat → (Nat → Nat) → State → Prop} (h : KH) (v0 : Nat) (v1 : Int32) (v2 : Int32) {t : Int32 × KH} (hn : h.1 = 243) (H : f_X12_would h v0 v1 v2 = some t) : KM Z yX12_would cX12_would 6 (some .int) 6 [.ref v0, .int v1, .int v2] h (some (.int t.1)) t.2 :=
  kx_i (own := RX12) (ini := false) (by decide +kernel) (by decide +kernel) rfl (Nat.le_of_ble_eq_true rfl) (s0_X12_would h v0 v1 v2 hn H)
