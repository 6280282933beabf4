-- methods as functions, and that the machine does as they say (by wip/whole/gen_all.py): X12_qTold, X12_qKind, X12_qTakes, X12_ask, X12_checked, X12_writes, X12_writesTwo, X12_image, X12_octet, X12_twoAt, X12_isImage
theorem dX12_qTold_0 : decode cX12_qTold 0 = .ok (.aload_n 0, 1) := by decide +kernel
theorem dX12_qTold_1 : decode cX12_qTold 1 = .ok (.iconst 0, 1) := by decide +kernel
theorem dX12_qTold_2 : decode cX12_qTold 2 = .ok (.putfield 379, 3) := by decide +kernel
theorem dX12_qTold_5 : decode cX12_qTold 5 = .ok (.iconst 0, 1) := by decide +kernel
theorem dX12_qTold_6 : decode cX12_qTold 6 = .ok (.istore_n 2, 1) := by decide +kernel
theorem dX12_qTold_7 : decode cX12_qTold 7 = .ok (.iload_n 2, 1) := by decide +kernel
theorem dX12_qTold_8 : decode cX12_qTold 8 = .ok (.aload_n 0, 1) := by decide +kernel
theorem dX12_qTold_9 : decode cX12_qTold 9 = .ok (.getfield 312, 3) := by decide +kernel
theorem dX12_qTold_12 : decode cX12_qTold 12 = .ok (.if_icmp .ge 156, 3) := by decide +kernel
theorem dX12_qTold_15 : decode cX12_qTold 15 = .ok (.aload_n 0, 1) := by decide +kernel
theorem dX12_qTold_16 : decode cX12_qTold 16 = .ok (.getfield 215, 3) := by decide +kernel
theorem dX12_qTold_19 : decode cX12_qTold 19 = .ok (.iload_n 2, 1) := by decide +kernel
theorem dX12_qTold_20 : decode cX12_qTold 20 = .ok (.iaload, 1) := by decide +kernel
theorem dX12_qTold_21 : decode cX12_qTold 21 = .ok (.istore_n 3, 1) := by decide +kernel
theorem dX12_qTold_22 : decode cX12_qTold 22 = .ok (.iload_n 3, 1) := by decide +kernel
theorem dX12_qTold_23 : decode cX12_qTold 23 = .ok (.sipush 1000, 3) := by decide +kernel
theorem dX12_qTold_26 : decode cX12_qTold 26 = .ok (.if_icmp .lt 16, 3) := by decide +kernel
theorem dX12_qTold_29 : decode cX12_qTold 29 = .ok (.aload_n 0, 1) := by decide +kernel
theorem dX12_qTold_30 : decode cX12_qTold 30 = .ok (.iload_n 3, 1) := by decide +kernel
theorem dX12_qTold_31 : decode cX12_qTold 31 = .ok (.sipush 1000, 3) := by decide +kernel
theorem dX12_qTold_34 : decode cX12_qTold 34 = .ok (.isub, 1) := by decide +kernel
theorem dX12_qTold_35 : decode cX12_qTold 35 = .ok (.i2l, 1) := by decide +kernel
theorem dX12_qTold_36 : decode cX12_qTold 36 = .ok (.invokevirtual 382, 3) := by decide +kernel
theorem dX12_qTold_39 : decode cX12_qTold 39 = .ok (.goto 123, 3) := by decide +kernel
theorem dX12_qTold_42 : decode cX12_qTold 42 = .ok (.iload_n 3, 1) := by decide +kernel
theorem dX12_qTold_43 : decode cX12_qTold 43 = .ok (.bipush 60, 2) := by decide +kernel
theorem dX12_qTold_45 : decode cX12_qTold 45 = .ok (.if_icmp .lt 40, 3) := by decide +kernel
theorem dX12_qTold_48 : decode cX12_qTold 48 = .ok (.aload_n 0, 1) := by decide +kernel
theorem dX12_qTold_49 : decode cX12_qTold 49 = .ok (.getfield 221, 3) := by decide +kernel
theorem dX12_qTold_52 : decode cX12_qTold 52 = .ok (.aload_n 0, 1) := by decide +kernel
theorem dX12_qTold_53 : decode cX12_qTold 53 = .ok (.getfield 379, 3) := by decide +kernel
theorem dX12_qTold_56 : decode cX12_qTold 56 = .ok (.iconst 1, 1) := by decide +kernel
theorem dX12_qTold_57 : decode cX12_qTold 57 = .ok (.isub, 1) := by decide +kernel
theorem dX12_qTold_58 : decode cX12_qTold 58 = .ok (.aload_n 0, 1) := by decide +kernel
theorem dX12_qTold_59 : decode cX12_qTold 59 = .ok (.iload_n 3, 1) := by decide +kernel
theorem dX12_qTold_60 : decode cX12_qTold 60 = .ok (.bipush 60, 2) := by decide +kernel
theorem dX12_qTold_62 : decode cX12_qTold 62 = .ok (.isub, 1) := by decide +kernel
theorem dX12_qTold_63 : decode cX12_qTold 63 = .ok (.aload_n 0, 1) := by decide +kernel
theorem dX12_qTold_64 : decode cX12_qTold 64 = .ok (.getfield 221, 3) := by decide +kernel
theorem dX12_qTold_67 : decode cX12_qTold 67 = .ok (.aload_n 0, 1) := by decide +kernel
theorem dX12_qTold_68 : decode cX12_qTold 68 = .ok (.getfield 379, 3) := by decide +kernel
theorem dX12_qTold_71 : decode cX12_qTold 71 = .ok (.iconst 1, 1) := by decide +kernel
theorem dX12_qTold_72 : decode cX12_qTold 72 = .ok (.isub, 1) := by decide +kernel
theorem dX12_qTold_73 : decode cX12_qTold 73 = .ok (.laload, 1) := by decide +kernel
theorem dX12_qTold_74 : decode cX12_qTold 74 = .ok (.iload_n 1, 1) := by decide +kernel
theorem dX12_qTold_75 : decode cX12_qTold 75 = .ok (.invokevirtual 619, 3) := by decide +kernel
theorem dX12_qTold_78 : decode cX12_qTold 78 = .ok (.invokestatic 611, 3) := by decide +kernel
theorem dX12_qTold_81 : decode cX12_qTold 81 = .ok (.lastore, 1) := by decide +kernel
theorem dX12_qTold_82 : decode cX12_qTold 82 = .ok (.goto 80, 3) := by decide +kernel
theorem dX12_qTold_85 : decode cX12_qTold 85 = .ok (.iload_n 3, 1) := by decide +kernel
theorem dX12_qTold_86 : decode cX12_qTold 86 = .ok (.bipush 40, 2) := by decide +kernel
theorem dX12_qTold_88 : decode cX12_qTold 88 = .ok (.if_icmp .lt 22, 3) := by decide +kernel
theorem dX12_qTold_91 : decode cX12_qTold 91 = .ok (.aload_n 0, 1) := by decide +kernel
theorem dX12_qTold_92 : decode cX12_qTold 92 = .ok (.aload_n 0, 1) := by decide +kernel
theorem dX12_qTold_93 : decode cX12_qTold 93 = .ok (.iload_n 3, 1) := by decide +kernel
theorem dX12_qTold_94 : decode cX12_qTold 94 = .ok (.bipush 40, 2) := by decide +kernel
theorem dX12_qTold_96 : decode cX12_qTold 96 = .ok (.isub, 1) := by decide +kernel
theorem dX12_qTold_97 : decode cX12_qTold 97 = .ok (.iload_n 1, 1) := by decide +kernel
theorem dX12_qTold_98 : decode cX12_qTold 98 = .ok (.invokevirtual 386, 3) := by decide +kernel
theorem dX12_qTold_101 : decode cX12_qTold 101 = .ok (.invokestatic 611, 3) := by decide +kernel
theorem dX12_qTold_104 : decode cX12_qTold 104 = .ok (.invokevirtual 382, 3) := by decide +kernel
theorem dX12_qTold_107 : decode cX12_qTold 107 = .ok (.goto 55, 3) := by decide +kernel
theorem dX12_qTold_110 : decode cX12_qTold 110 = .ok (.iload_n 3, 1) := by decide +kernel
theorem dX12_qTold_111 : decode cX12_qTold 111 = .ok (.bipush 13, 2) := by decide +kernel
theorem dX12_qTold_113 : decode cX12_qTold 113 = .ok (.if_icmp .ne 11, 3) := by decide +kernel
theorem dX12_qTold_116 : decode cX12_qTold 116 = .ok (.aload_n 0, 1) := by decide +kernel
theorem dX12_qTold_117 : decode cX12_qTold 117 = .ok (.lconst 1, 1) := by decide +kernel
theorem dX12_qTold_118 : decode cX12_qTold 118 = .ok (.invokevirtual 382, 3) := by decide +kernel
theorem dX12_qTold_121 : decode cX12_qTold 121 = .ok (.goto 41, 3) := by decide +kernel
theorem dX12_qTold_124 : decode cX12_qTold 124 = .ok (.iload_n 3, 1) := by decide +kernel
theorem dX12_qTold_125 : decode cX12_qTold 125 = .ok (.bipush 12, 2) := by decide +kernel
theorem dX12_qTold_127 : decode cX12_qTold 127 = .ok (.if_icmp .ne 30, 3) := by decide +kernel
theorem dX12_qTold_130 : decode cX12_qTold 130 = .ok (.aload_n 0, 1) := by decide +kernel
theorem dX12_qTold_131 : decode cX12_qTold 131 = .ok (.getfield 221, 3) := by decide +kernel
theorem dX12_qTold_134 : decode cX12_qTold 134 = .ok (.aload_n 0, 1) := by decide +kernel
theorem dX12_qTold_135 : decode cX12_qTold 135 = .ok (.getfield 379, 3) := by decide +kernel
theorem dX12_qTold_138 : decode cX12_qTold 138 = .ok (.iconst 1, 1) := by decide +kernel
theorem dX12_qTold_139 : decode cX12_qTold 139 = .ok (.isub, 1) := by decide +kernel
theorem dX12_qTold_140 : decode cX12_qTold 140 = .ok (.lconst 1, 1) := by decide +kernel
theorem dX12_qTold_141 : decode cX12_qTold 141 = .ok (.aload_n 0, 1) := by decide +kernel
theorem dX12_qTold_142 : decode cX12_qTold 142 = .ok (.getfield 221, 3) := by decide +kernel
theorem dX12_qTold_145 : decode cX12_qTold 145 = .ok (.aload_n 0, 1) := by decide +kernel
theorem dX12_qTold_146 : decode cX12_qTold 146 = .ok (.getfield 379, 3) := by decide +kernel
theorem dX12_qTold_149 : decode cX12_qTold 149 = .ok (.iconst 1, 1) := by decide +kernel
theorem dX12_qTold_150 : decode cX12_qTold 150 = .ok (.isub, 1) := by decide +kernel
theorem dX12_qTold_151 : decode cX12_qTold 151 = .ok (.laload, 1) := by decide +kernel
theorem dX12_qTold_152 : decode cX12_qTold 152 = .ok (.lsub, 1) := by decide +kernel
theorem dX12_qTold_153 : decode cX12_qTold 153 = .ok (.lastore, 1) := by decide +kernel
theorem dX12_qTold_154 : decode cX12_qTold 154 = .ok (.goto 8, 3) := by decide +kernel
theorem dX12_qTold_157 : decode cX12_qTold 157 = .ok (.aload_n 0, 1) := by decide +kernel
theorem dX12_qTold_158 : decode cX12_qTold 158 = .ok (.iload_n 3, 1) := by decide +kernel
theorem dX12_qTold_159 : decode cX12_qTold 159 = .ok (.invokevirtual 390, 3) := by decide +kernel
theorem dX12_qTold_162 : decode cX12_qTold 162 = .ok (.iinc 2 1, 3) := by decide +kernel
theorem dX12_qTold_165 : decode cX12_qTold 165 = .ok (.goto (-158), 3) := by decide +kernel
theorem dX12_qTold_168 : decode cX12_qTold 168 = .ok (.aload_n 0, 1) := by decide +kernel
theorem dX12_qTold_169 : decode cX12_qTold 169 = .ok (.getfield 221, 3) := by decide +kernel
theorem dX12_qTold_172 : decode cX12_qTold 172 = .ok (.iconst 0, 1) := by decide +kernel
theorem dX12_qTold_173 : decode cX12_qTold 173 = .ok (.laload, 1) := by decide +kernel
theorem dX12_qTold_174 : decode cX12_qTold 174 = .ok (.lreturn, 1) := by decide +kernel
theorem kc_RX12_619 : Cond.methodLink RX12 619 yX12_qOf ∈ ktG ∧ (Cond.instanceMethod yX12_qOf ∈ ktG ∧ Cond.selects yX12_qOf.cls yX12_qOf yX12_qOf ∈ ktG) ∧ Cond.initialized yX12_qOf.cls ∈ ktG ∧ Cond.code yX12_qOf cX12_qOf 5 (some .long) ∈ ktG := ⟨(kwm 1977 (by decide +kernel) (by decide +kernel)), ⟨(kwm 1979 (by decide +kernel) (by decide +kernel)), (kwm 116 (by decide +kernel) (by decide +kernel))⟩, (kwm 139 (by decide +kernel) (by decide +kernel)), kwm 1980 (by decide +kernel) (by decide +kernel)⟩
theorem kh_X12_qOf : yX12_qOf.cls ≠ "java/lang/invoke/MethodHandle" ∧ yX12_qOf.cls ≠ "java/lang/invoke/VarHandle" ∧ (parseMethodDescriptor yX12_qOf.desc).map (fun d => d.parameters.length) = some 3 := by decide +kernel
def E_X12_qTold_l7 (v0 : Nat) (v1 : Int32) : KH → Nat → List (Nat × Value) → List Value → KH → Prop := fun (e : KH) pc ls st hh => pc = 168 ∧ ls = [(0, .ref v0)] ∧ st = [] ∧ e = hh
def B_X12_qTold_l7 (v0 : Nat) (v1 : Int32) : ((Int32 × KH) ⊕ (KH)) → Nat → List (Nat × Value) → List Value → KH → Prop := Sum.elim (fun (s : Int32 × KH) pc ls st hh => pc = 7 ∧ ls = [(0, .ref v0), (1, .int v1), (2, .int s.1)] ∧ st = [] ∧ hh = s.2) (E_X12_qTold_l7 v0 v1)
def f_X12_qTold_b162 (h : KH) (v0 : Nat) (v1 : Int32) (v2 : Int32) : Option ((Int32 × KH) ⊕ (KH)) :=
  kl (v2 + (1 : Int32)) fun x1 =>
  some (.inl (x1, h))
set_option maxHeartbeats 4000000 in
set_option maxRecDepth 100000 in
theorem s_X12_qTold_b162 {Z : Nat → (Nat → Nat) → State → Prop} (h : KH) (v0 : Nat) (v1 : Int32) (v2 : Int32) {t : (Int32 × KH) ⊕ (KH)} (hn : h.1 = 243) (H : f_X12_qTold_b162 h v0 v1 v2 = some t) : KX Z RX12 cX12_qTold 4 false 3 (B_X12_qTold_l7 v0 v1 t) 162 [(0, .ref v0), (1, .int v1), (2, .int v2)] [] h := by
  unfold f_X12_qTold_b162 at H
  replace H := kle H; obtain ⟨x1, q2, H⟩ := H
  refine x_iinc (q := 165) (i := 2) (ls2 := [(2, .int x1), (0, .ref v0), (1, .int v1)]) dX12_qTold_162 rfl rfl (by decide) (by rw [q2]; rfl) ?_
  refine x_goto dX12_qTold_165 (q := 7) (by decide) ?_
  cases H
  refine x_sub (ls2 := [(0, .ref v0), (1, .int v1), (2, .int x1)]) [1, 2, 0] rfl ?_
  exact x_end (x_cfg rfl)
def f_X12_qTold_l7 (v0 : Nat) (v1 : Int32) (s : Int32 × KH) : Option ((Int32 × KH) ⊕ (KH)) :=
  if kkind v0 = 12 then if (kI s.2 v0 86) ≤ s.1 then
  some (.inr s.2)
  else
  if (kR s.2 v0 85) < 999999 then if kkind (kR s.2 v0 85) = 20 then if (s.1 < 0 ∨ klen (kR s.2 v0 85) ≤ (s.1).toNatClampNeg) then none else kl (kI s.2 (kR s.2 v0 85) ((s.1).toNatClampNeg)) fun x6 =>
  if x6 < (1000 : Int32) then
  if x6 < (60 : Int32) then
  if x6 < (40 : Int32) then
  if x6 = (13 : Int32) then
  kb (f_X12_qPuts s.2 v0 (1 : Int64)) fun r23 =>
  f_X12_qTold_b162 r23 v0 v1 s.1
  else
  if x6 = (12 : Int32) then
  if (kR s.2 v0 91) < 999999 then if kkind (kR s.2 v0 91) = 21 then if (((kI s.2 v0 92) - (1 : Int32)) < 0 ∨ klen (kR s.2 v0 91) ≤ (((kI s.2 v0 92) - (1 : Int32))).toNatClampNeg) then none else kl (ksL s.2 (kR s.2 v0 91) ((((kI s.2 v0 92) - (1 : Int32))).toNatClampNeg) ((1 : Int64) - (kL s.2 (kR s.2 v0 91) ((((kI s.2 v0 92) - (1 : Int32))).toNatClampNeg)))) fun h20 =>
  f_X12_qTold_b162 h20 v0 v1 s.1 else none else none
  else
  kb (f_X12_qJoins s.2 v0 x6) fun r13 =>
  f_X12_qTold_b162 r13 v0 v1 s.1
  else
  kb (f_X12_qPartOf s.2 v0 (x6 - (40 : Int32)) v1) fun r27 =>
  kb (f_X12_qClip s.2 r27) fun r30 =>
  kb (f_X12_qPuts s.2 v0 r30) fun r33 =>
  f_X12_qTold_b162 r33 v0 v1 s.1
  else
  if (kR s.2 v0 91) < 999999 then if kkind (kR s.2 v0 91) = 21 then if (((kI s.2 v0 92) - (1 : Int32)) < 0 ∨ klen (kR s.2 v0 91) ≤ (((kI s.2 v0 92) - (1 : Int32))).toNatClampNeg) then none else kb (f_X12_qOf s.2 v0 (x6 - (60 : Int32)) (kL s.2 (kR s.2 v0 91) ((((kI s.2 v0 92) - (1 : Int32))).toNatClampNeg)) v1) fun r40 =>
  kb (f_X12_qClip s.2 r40) fun r43 =>
  kl (ksL s.2 (kR s.2 v0 91) ((((kI s.2 v0 92) - (1 : Int32))).toNatClampNeg) r43) fun h46 =>
  f_X12_qTold_b162 h46 v0 v1 s.1 else none else none
  else
  kb (f_X12_qPuts s.2 v0 (((x6 - (1000 : Int32))).toInt64)) fun r49 =>
  f_X12_qTold_b162 r49 v0 v1 s.1 else none else none else none
set_option maxHeartbeats 4000000 in
set_option maxRecDepth 100000 in
theorem s_X12_qTold_l7 {Z : Nat → (Nat → Nat) → State → Prop} (v0 : Nat) (v1 : Int32) (s : Int32 × KH) (t : (Int32 × KH) ⊕ (KH)) (hn : (s.2).1 = 243) (H : f_X12_qTold_l7 v0 v1 s = some t) : KX Z RX12 cX12_qTold 4 false 3 (B_X12_qTold_l7 v0 v1 t) 7 [(0, .ref v0), (1, .int v1), (2, .int s.1)] [] s.2 := by
  unfold f_X12_qTold_l7 at H
  refine x_iload_n (q := 8) dX12_qTold_7 rfl rfl ?_
  refine x_aload_n (q := 9) dX12_qTold_8 rfl rfl ?_
  replace H := kif H; obtain ⟨g1, H⟩ := H
  refine x_getI (q := 12) dX12_qTold_9 rfl kl_RX12_312 (Or.inl rfl) (k243 g1 (by decide) hn) ?_
  replace H := kite H; rcases H with ⟨g2, H⟩ | ⟨g2, H⟩
  · refine x_icmp_ge_t dX12_qTold_12 (q := 168) (by decide) g2 ?_
    cases H
    refine x_sub (ls2 := [(0, .ref v0)]) [0] rfl ?_
    exact x_end (x_cfg rfl)
  · refine x_icmp_ge_f (q := 15) dX12_qTold_12 (t := 168) (by decide) rfl g2 ?_
    refine x_aload_n (q := 16) dX12_qTold_15 rfl rfl ?_
    replace H := kif H; obtain ⟨g3, H⟩ := H
    refine x_getR (q := 19) dX12_qTold_16 rfl kl_RX12_215 rfl (k243 g1 (by decide) hn) g3 ?_
    refine x_iload_n (q := 20) dX12_qTold_19 rfl rfl ?_
    replace H := kif H; obtain ⟨g4, H⟩ := H
    replace H := kifn H; obtain ⟨g5, H⟩ := H
    refine x_iald (q := 21) dX12_qTold_20 rfl (k243 g4 (by decide) hn) g5 ?_
    replace H := kle H; obtain ⟨x6, q7, H⟩ := H
    refine x_nmI q7 ?_
    refine x_istore_n (q := 22) (i := 3) (ls2 := [(3, .int x6), (0, .ref v0), (1, .int v1), (2, .int s.1)]) dX12_qTold_21 rfl rfl (by decide) rfl ?_
    refine x_iload_n (q := 23) dX12_qTold_22 rfl rfl ?_
    refine x_sipush (q := 26) (v := (1000 : Int32)) dX12_qTold_23 rfl (by decide) ?_
    replace H := kite H; rcases H with ⟨g8, H⟩ | ⟨g8, H⟩
    · refine x_icmp_lt_t dX12_qTold_26 (q := 42) (by decide) g8 ?_
      refine x_iload_n (q := 43) dX12_qTold_42 rfl rfl ?_
      refine x_bipush (q := 45) (v := (60 : Int32)) dX12_qTold_43 rfl (by decide) ?_
      replace H := kite H; rcases H with ⟨g9, H⟩ | ⟨g9, H⟩
      · refine x_icmp_lt_t dX12_qTold_45 (q := 85) (by decide) g9 ?_
        refine x_iload_n (q := 86) dX12_qTold_85 rfl rfl ?_
        refine x_bipush (q := 88) (v := (40 : Int32)) dX12_qTold_86 rfl (by decide) ?_
        replace H := kite H; rcases H with ⟨g10, H⟩ | ⟨g10, H⟩
        · refine x_icmp_lt_t dX12_qTold_88 (q := 110) (by decide) g10 ?_
          refine x_iload_n (q := 111) dX12_qTold_110 rfl rfl ?_
          refine x_bipush (q := 113) (v := (13 : Int32)) dX12_qTold_111 rfl (by decide) ?_
          replace H := kite H; rcases H with ⟨g11, H⟩ | ⟨g11, H⟩
          · refine x_icmp_ne_f (q := 116) dX12_qTold_113 (t := 124) (by decide) rfl g11 ?_
            refine x_aload_n (q := 117) dX12_qTold_116 rfl rfl ?_
            refine x_lconst (q := 118) (v := (1 : Int64)) dX12_qTold_117 rfl (by decide) ?_
            replace H := kbe H; obtain ⟨r23, c24, H⟩ := H
            have m25 := s_X12_qPuts (Z := Z) s.2 v0 (1 : Int64) hn c24
            refine x_callV (q := 121) (as := [.long (1 : Int64)]) (rest := []) dX12_qTold_118 rfl kc_RX12_382 kh_X12_qPuts (by decide) (Nat.le_of_ble_eq_true rfl) m25 (ci := 12) (by exact ⟨rfl, by decide⟩) (k243 g1 (by decide) hn) ?_
            have n26 : (r23).1 = 243 := m25.1.full hn
            refine x_goto dX12_qTold_121 (q := 162) (by decide) ?_
            refine x_sub (ls2 := [(0, .ref v0), (1, .int v1), (2, .int s.1)]) [1, 2, 3] rfl ?_
            exact s_X12_qTold_b162 r23 v0 v1 s.1 n26 H
          · refine x_icmp_ne_t dX12_qTold_113 (q := 124) (by decide) g11 ?_
            refine x_iload_n (q := 125) dX12_qTold_124 rfl rfl ?_
            refine x_bipush (q := 127) (v := (12 : Int32)) dX12_qTold_125 rfl (by decide) ?_
            replace H := kite H; rcases H with ⟨g12, H⟩ | ⟨g12, H⟩
            · refine x_icmp_ne_f (q := 130) dX12_qTold_127 (t := 157) (by decide) rfl g12 ?_
              refine x_aload_n (q := 131) dX12_qTold_130 rfl rfl ?_
              replace H := kif H; obtain ⟨g17, H⟩ := H
              refine x_getR (q := 134) dX12_qTold_131 rfl kl_RX12_221 rfl (k243 g1 (by decide) hn) g17 ?_
              refine x_aload_n (q := 135) dX12_qTold_134 rfl rfl ?_
              refine x_getI (q := 138) dX12_qTold_135 rfl kl_RX12_379 (Or.inl rfl) (k243 g1 (by decide) hn) ?_
              refine x_iconst (q := 139) (v := (1 : Int32)) dX12_qTold_138 rfl (by decide) ?_
              refine x_isub (q := 140) dX12_qTold_139 rfl ?_
              refine x_lconst (q := 141) (v := (1 : Int64)) dX12_qTold_140 rfl (by decide) ?_
              refine x_aload_n (q := 142) dX12_qTold_141 rfl rfl ?_
              refine x_getR (q := 145) dX12_qTold_142 rfl kl_RX12_221 rfl (k243 g1 (by decide) hn) g17 ?_
              refine x_aload_n (q := 146) dX12_qTold_145 rfl rfl ?_
              refine x_getI (q := 149) dX12_qTold_146 rfl kl_RX12_379 (Or.inl rfl) (k243 g1 (by decide) hn) ?_
              refine x_iconst (q := 150) (v := (1 : Int32)) dX12_qTold_149 rfl (by decide) ?_
              refine x_isub (q := 151) dX12_qTold_150 rfl ?_
              replace H := kif H; obtain ⟨g18, H⟩ := H
              replace H := kifn H; obtain ⟨g19, H⟩ := H
              refine x_lald (q := 152) dX12_qTold_151 rfl (k243 g18 (by decide) hn) g19 ?_
              refine x_lsub (q := 153) dX12_qTold_152 rfl ?_
              replace H := kle H; obtain ⟨h20, q21, H⟩ := H
              refine x_last (q := 154) dX12_qTold_153 rfl (k243 g18 (by decide) hn) g19 ?_
              refine x_nmH q21 ?_
              have n22 : h20.1 = 243 := by rw [q21]; exact hn
              refine x_goto dX12_qTold_154 (q := 162) (by decide) ?_
              refine x_sub (ls2 := [(0, .ref v0), (1, .int v1), (2, .int s.1)]) [1, 2, 3] rfl ?_
              exact s_X12_qTold_b162 h20 v0 v1 s.1 n22 H
            · refine x_icmp_ne_t dX12_qTold_127 (q := 157) (by decide) g12 ?_
              refine x_aload_n (q := 158) dX12_qTold_157 rfl rfl ?_
              refine x_iload_n (q := 159) dX12_qTold_158 rfl rfl ?_
              replace H := kbe H; obtain ⟨r13, c14, H⟩ := H
              have m15 := s_X12_qJoins (Z := Z) s.2 v0 x6 hn c14
              refine x_callV (q := 162) (as := [.int x6]) (rest := []) dX12_qTold_159 rfl kc_RX12_390 kh_X12_qJoins (by decide) (Nat.le_of_ble_eq_true rfl) m15 (ci := 12) (by exact ⟨rfl, by decide⟩) (k243 g1 (by decide) hn) ?_
              have n16 : (r13).1 = 243 := m15.1.full hn
              refine x_sub (ls2 := [(0, .ref v0), (1, .int v1), (2, .int s.1)]) [1, 2, 3] rfl ?_
              exact s_X12_qTold_b162 r13 v0 v1 s.1 n16 H
        · refine x_icmp_lt_f (q := 91) dX12_qTold_88 (t := 110) (by decide) rfl g10 ?_
          refine x_aload_n (q := 92) dX12_qTold_91 rfl rfl ?_
          refine x_aload_n (q := 93) dX12_qTold_92 rfl rfl ?_
          refine x_iload_n (q := 94) dX12_qTold_93 rfl rfl ?_
          refine x_bipush (q := 96) (v := (40 : Int32)) dX12_qTold_94 rfl (by decide) ?_
          refine x_isub (q := 97) dX12_qTold_96 rfl ?_
          refine x_iload_n (q := 98) dX12_qTold_97 rfl rfl ?_
          replace H := kbe H; obtain ⟨r27, c28, H⟩ := H
          have m29 := s_X12_qPartOf (Z := Z) s.2 v0 (x6 - (40 : Int32)) v1 hn c28
          refine x_callV (q := 101) (as := [.int (x6 - (40 : Int32)), .int v1]) (rest := [.ref v0]) dX12_qTold_98 rfl kc_RX12_386 kh_X12_qPartOf (by decide) (Nat.le_of_ble_eq_true rfl) m29 (ci := 12) (by exact ⟨rfl, by decide⟩) (k243 g1 (by decide) hn) ?_
          replace H := kbe H; obtain ⟨r30, c31, H⟩ := H
          have m32 := s_X12_qClip (Z := Z) s.2 r27 hn c31
          refine x_callS (q := 104) (as := [.long r27]) (rest := [.ref v0]) dX12_qTold_101 rfl kc_RX12_611 kh_X12_qClip (by decide) (Nat.le_of_ble_eq_true rfl) m32 ?_
          replace H := kbe H; obtain ⟨r33, c34, H⟩ := H
          have m35 := s_X12_qPuts (Z := Z) s.2 v0 r30 hn c34
          refine x_callV (q := 107) (as := [.long r30]) (rest := []) dX12_qTold_104 rfl kc_RX12_382 kh_X12_qPuts (by decide) (Nat.le_of_ble_eq_true rfl) m35 (ci := 12) (by exact ⟨rfl, by decide⟩) (k243 g1 (by decide) hn) ?_
          have n36 : (r33).1 = 243 := m35.1.full hn
          refine x_goto dX12_qTold_107 (q := 162) (by decide) ?_
          refine x_sub (ls2 := [(0, .ref v0), (1, .int v1), (2, .int s.1)]) [1, 2, 3] rfl ?_
          exact s_X12_qTold_b162 r33 v0 v1 s.1 n36 H
      · refine x_icmp_lt_f (q := 48) dX12_qTold_45 (t := 85) (by decide) rfl g9 ?_
        refine x_aload_n (q := 49) dX12_qTold_48 rfl rfl ?_
        replace H := kif H; obtain ⟨g37, H⟩ := H
        refine x_getR (q := 52) dX12_qTold_49 rfl kl_RX12_221 rfl (k243 g1 (by decide) hn) g37 ?_
        refine x_aload_n (q := 53) dX12_qTold_52 rfl rfl ?_
        refine x_getI (q := 56) dX12_qTold_53 rfl kl_RX12_379 (Or.inl rfl) (k243 g1 (by decide) hn) ?_
        refine x_iconst (q := 57) (v := (1 : Int32)) dX12_qTold_56 rfl (by decide) ?_
        refine x_isub (q := 58) dX12_qTold_57 rfl ?_
        refine x_aload_n (q := 59) dX12_qTold_58 rfl rfl ?_
        refine x_iload_n (q := 60) dX12_qTold_59 rfl rfl ?_
        refine x_bipush (q := 62) (v := (60 : Int32)) dX12_qTold_60 rfl (by decide) ?_
        refine x_isub (q := 63) dX12_qTold_62 rfl ?_
        refine x_aload_n (q := 64) dX12_qTold_63 rfl rfl ?_
        refine x_getR (q := 67) dX12_qTold_64 rfl kl_RX12_221 rfl (k243 g1 (by decide) hn) g37 ?_
        refine x_aload_n (q := 68) dX12_qTold_67 rfl rfl ?_
        refine x_getI (q := 71) dX12_qTold_68 rfl kl_RX12_379 (Or.inl rfl) (k243 g1 (by decide) hn) ?_
        refine x_iconst (q := 72) (v := (1 : Int32)) dX12_qTold_71 rfl (by decide) ?_
        refine x_isub (q := 73) dX12_qTold_72 rfl ?_
        replace H := kif H; obtain ⟨g38, H⟩ := H
        replace H := kifn H; obtain ⟨g39, H⟩ := H
        refine x_lald (q := 74) dX12_qTold_73 rfl (k243 g38 (by decide) hn) g39 ?_
        refine x_iload_n (q := 75) dX12_qTold_74 rfl rfl ?_
        replace H := kbe H; obtain ⟨r40, c41, H⟩ := H
        have m42 := s_X12_qOf (Z := Z) s.2 v0 (x6 - (60 : Int32)) (kL s.2 (kR s.2 v0 91) ((((kI s.2 v0 92) - (1 : Int32))).toNatClampNeg)) v1 hn c41
        refine x_callV (q := 78) (as := [.int (x6 - (60 : Int32)), .long (kL s.2 (kR s.2 v0 91) ((((kI s.2 v0 92) - (1 : Int32))).toNatClampNeg)), .int v1]) (rest := [.int ((kI s.2 v0 92) - (1 : Int32)), .ref (kR s.2 v0 91)]) dX12_qTold_75 rfl kc_RX12_619 kh_X12_qOf (by decide) (Nat.le_of_ble_eq_true rfl) m42 (ci := 12) (by exact ⟨rfl, by decide⟩) (k243 g1 (by decide) hn) ?_
        replace H := kbe H; obtain ⟨r43, c44, H⟩ := H
        have m45 := s_X12_qClip (Z := Z) s.2 r40 hn c44
        refine x_callS (q := 81) (as := [.long r40]) (rest := [.int ((kI s.2 v0 92) - (1 : Int32)), .ref (kR s.2 v0 91)]) dX12_qTold_78 rfl kc_RX12_611 kh_X12_qClip (by decide) (Nat.le_of_ble_eq_true rfl) m45 ?_
        replace H := kle H; obtain ⟨h46, q47, H⟩ := H
        refine x_last (q := 82) dX12_qTold_81 rfl (k243 g38 (by decide) hn) g39 ?_
        refine x_nmH q47 ?_
        have n48 : h46.1 = 243 := by rw [q47]; exact hn
        refine x_goto dX12_qTold_82 (q := 162) (by decide) ?_
        refine x_sub (ls2 := [(0, .ref v0), (1, .int v1), (2, .int s.1)]) [1, 2, 3] rfl ?_
        exact s_X12_qTold_b162 h46 v0 v1 s.1 n48 H
    · refine x_icmp_lt_f (q := 29) dX12_qTold_26 (t := 42) (by decide) rfl g8 ?_
      refine x_aload_n (q := 30) dX12_qTold_29 rfl rfl ?_
      refine x_iload_n (q := 31) dX12_qTold_30 rfl rfl ?_
      refine x_sipush (q := 34) (v := (1000 : Int32)) dX12_qTold_31 rfl (by decide) ?_
      refine x_isub (q := 35) dX12_qTold_34 rfl ?_
      refine x_i2l (q := 36) dX12_qTold_35 rfl ?_
      replace H := kbe H; obtain ⟨r49, c50, H⟩ := H
      have m51 := s_X12_qPuts (Z := Z) s.2 v0 (((x6 - (1000 : Int32))).toInt64) hn c50
      refine x_callV (q := 39) (as := [.long (((x6 - (1000 : Int32))).toInt64)]) (rest := []) dX12_qTold_36 rfl kc_RX12_382 kh_X12_qPuts (by decide) (Nat.le_of_ble_eq_true rfl) m51 (ci := 12) (by exact ⟨rfl, by decide⟩) (k243 g1 (by decide) hn) ?_
      have n52 : (r49).1 = 243 := m51.1.full hn
      refine x_goto dX12_qTold_39 (q := 162) (by decide) ?_
      refine x_sub (ls2 := [(0, .ref v0), (1, .int v1), (2, .int s.1)]) [1, 2, 3] rfl ?_
      exact s_X12_qTold_b162 r49 v0 v1 s.1 n52 H
theorem sl_X12_qTold_l7 {Z : Nat → (Nat → Nat) → State → Prop} (v0 : Nat) (v1 : Int32) (n : Nat) (s : Int32 × KH) (r : KH) (hn : (s.2).1 = 243) (H : kloop (f_X12_qTold_l7 v0 v1) n s = some r) : KX Z RX12 cX12_qTold 4 false 3 (E_X12_qTold_l7 v0 v1 r) 7 [(0, .ref v0), (1, .int v1), (2, .int s.1)] [] s.2 :=
  k_loop (ls := (fun (s : Int32 × KH) => ([(0, .ref v0), (1, .int v1), (2, .int s.1)] : List (Nat × Value)))) (hp := (fun (s : Int32 × KH) => (s.2 : KH))) (G := E_X12_qTold_l7 v0 v1) (fun s t hn H => s_X12_qTold_l7 v0 v1 s t hn H) n s r hn H
def f_X12_qTold (h : KH) (v0 : Nat) (v1 : Int32) : Option (Int64 × KH) :=
  if kkind v0 = 12 then kl (ksI h v0 92 (0 : Int32)) fun h2 =>
  kb (kloop (f_X12_qTold_l7 v0 v1) KF ((0 : Int32), h2)) fun e5 =>
  if (kR e5 v0 91) < 999999 then if kkind (kR e5 v0 91) = 21 then if klen (kR e5 v0 91) ≤ 0 then none else some ((kL e5 (kR e5 v0 91) 0), e5) else none else none else none
set_option maxHeartbeats 4000000 in
set_option maxRecDepth 100000 in
theorem s0_X12_qTold {Z : Nat → (Nat → Nat) → State → Prop} (h : KH) (v0 : Nat) (v1 : Int32) {t : Int64 × KH} (hn : h.1 = 243) (H : f_X12_qTold h v0 v1 = some t) : KX Z RX12 cX12_qTold 4 false 3 (KRl cX12_qTold t.1 t.2) 0 [(0, .ref v0), (1, .int v1)] [] h := by
  unfold f_X12_qTold at H
  refine x_aload_n (q := 1) dX12_qTold_0 rfl rfl ?_
  refine x_iconst (q := 2) (v := (0 : Int32)) dX12_qTold_1 rfl (by decide) ?_
  replace H := kif H; obtain ⟨g1, H⟩ := H
  replace H := kle H; obtain ⟨h2, q3, H⟩ := H
  refine x_putI (q := 5) dX12_qTold_2 rfl kl_RX12_379 (Or.inl rfl) rfl (k243 g1 (by decide) hn) ?_
  refine x_nmH q3 ?_
  have n4 : h2.1 = 243 := by rw [q3]; exact hn
  refine x_iconst (q := 6) (v := (0 : Int32)) dX12_qTold_5 rfl (by decide) ?_
  refine x_istore_n (q := 7) (i := 2) (ls2 := [(2, .int (0 : Int32)), (0, .ref v0), (1, .int v1)]) dX12_qTold_6 rfl rfl (by decide) rfl ?_
  refine x_sub (ls2 := [(0, .ref v0), (1, .int v1), (2, .int (0 : Int32))]) [1, 2, 0] rfl ?_
  replace H := kbe H; obtain ⟨e5, c6, H⟩ := H
  refine x_app (sl_X12_qTold_l7 v0 v1 KF ((0 : Int32), h2) e5 n4 c6) fun pc2 ls2 st2 h2 hg m7 => ?_
  obtain ⟨rfl, rfl, rfl, rfl⟩ := hg
  refine x_aload_n (q := 169) dX12_qTold_168 rfl rfl ?_
  replace H := kif H; obtain ⟨g8, H⟩ := H
  refine x_getR (q := 172) dX12_qTold_169 rfl kl_RX12_221 rfl (k243 g1 (by decide) (m7.full n4)) g8 ?_
  refine x_iconst (q := 173) (v := (0 : Int32)) dX12_qTold_172 rfl (by decide) ?_
  replace H := kif H; obtain ⟨g9, H⟩ := H
  replace H := kifn H; obtain ⟨g10, H⟩ := H
  refine x_lald (q := 174) dX12_qTold_173 rfl (k243 g9 (by decide) (m7.full n4)) (fun z => z.elim (by decide) g10) ?_
  cases H
  exact x_end ⟨dX12_qTold_174, rfl, rfl⟩
theorem s_X12_qTold {Z : Nat → (Nat → Nat) → State → Prop} (h : KH) (v0 : Nat) (v1 : Int32) {t : Int64 × KH} (hn : h.1 = 243) (H : f_X12_qTold h v0 v1 = some t) : KM Z yX12_qTold cX12_qTold 4 (some .long) 3 [.ref v0, .int v1] h (some (.long t.1)) t.2 :=
  kx_l (own := RX12) (ini := false) (by decide +kernel) (by decide +kernel) rfl (Nat.le_of_ble_eq_true rfl) (s0_X12_qTold h v0 v1 hn H)
theorem dX12_qKind_0 : decode cX12_qKind 0 = .ok (.aload_n 0, 1) := by decide +kernel
theorem dX12_qKind_1 : decode cX12_qKind 1 = .ok (.aload_n 0, 1) := by decide +kernel
theorem dX12_qKind_2 : decode cX12_qKind 2 = .ok (.getfield 152, 3) := by decide +kernel
theorem dX12_qKind_5 : decode cX12_qKind 5 = .ok (.invokevirtual 257, 3) := by decide +kernel
theorem dX12_qKind_8 : decode cX12_qKind 8 = .ok (.ifCond .eq 7, 3) := by decide +kernel
theorem dX12_qKind_11 : decode cX12_qKind 11 = .ok (.iconst 0, 1) := by decide +kernel
theorem dX12_qKind_12 : decode cX12_qKind 12 = .ok (.goto 64, 3) := by decide +kernel
theorem dX12_qKind_15 : decode cX12_qKind 15 = .ok (.aload_n 0, 1) := by decide +kernel
theorem dX12_qKind_16 : decode cX12_qKind 16 = .ok (.aload_n 0, 1) := by decide +kernel
theorem dX12_qKind_17 : decode cX12_qKind 17 = .ok (.getfield 155, 3) := by decide +kernel
theorem dX12_qKind_20 : decode cX12_qKind 20 = .ok (.invokevirtual 257, 3) := by decide +kernel
theorem dX12_qKind_23 : decode cX12_qKind 23 = .ok (.ifCond .eq 7, 3) := by decide +kernel
theorem dX12_qKind_26 : decode cX12_qKind 26 = .ok (.iconst 1, 1) := by decide +kernel
theorem dX12_qKind_27 : decode cX12_qKind 27 = .ok (.goto 49, 3) := by decide +kernel
theorem dX12_qKind_30 : decode cX12_qKind 30 = .ok (.aload_n 0, 1) := by decide +kernel
theorem dX12_qKind_31 : decode cX12_qKind 31 = .ok (.aload_n 0, 1) := by decide +kernel
theorem dX12_qKind_32 : decode cX12_qKind 32 = .ok (.getfield 158, 3) := by decide +kernel
theorem dX12_qKind_35 : decode cX12_qKind 35 = .ok (.invokevirtual 257, 3) := by decide +kernel
theorem dX12_qKind_38 : decode cX12_qKind 38 = .ok (.ifCond .eq 7, 3) := by decide +kernel
theorem dX12_qKind_41 : decode cX12_qKind 41 = .ok (.iconst 2, 1) := by decide +kernel
theorem dX12_qKind_42 : decode cX12_qKind 42 = .ok (.goto 34, 3) := by decide +kernel
theorem dX12_qKind_45 : decode cX12_qKind 45 = .ok (.aload_n 0, 1) := by decide +kernel
theorem dX12_qKind_46 : decode cX12_qKind 46 = .ok (.aload_n 0, 1) := by decide +kernel
theorem dX12_qKind_47 : decode cX12_qKind 47 = .ok (.getfield 161, 3) := by decide +kernel
theorem dX12_qKind_50 : decode cX12_qKind 50 = .ok (.invokevirtual 257, 3) := by decide +kernel
theorem dX12_qKind_53 : decode cX12_qKind 53 = .ok (.ifCond .eq 7, 3) := by decide +kernel
theorem dX12_qKind_56 : decode cX12_qKind 56 = .ok (.iconst 3, 1) := by decide +kernel
theorem dX12_qKind_57 : decode cX12_qKind 57 = .ok (.goto 19, 3) := by decide +kernel
theorem dX12_qKind_60 : decode cX12_qKind 60 = .ok (.aload_n 0, 1) := by decide +kernel
theorem dX12_qKind_61 : decode cX12_qKind 61 = .ok (.aload_n 0, 1) := by decide +kernel
theorem dX12_qKind_62 : decode cX12_qKind 62 = .ok (.getfield 164, 3) := by decide +kernel
theorem dX12_qKind_65 : decode cX12_qKind 65 = .ok (.invokevirtual 257, 3) := by decide +kernel
theorem dX12_qKind_68 : decode cX12_qKind 68 = .ok (.ifCond .eq 7, 3) := by decide +kernel
theorem dX12_qKind_71 : decode cX12_qKind 71 = .ok (.iconst 4, 1) := by decide +kernel
theorem dX12_qKind_72 : decode cX12_qKind 72 = .ok (.goto 4, 3) := by decide +kernel
theorem dX12_qKind_75 : decode cX12_qKind 75 = .ok (.iconst 5, 1) := by decide +kernel
theorem dX12_qKind_76 : decode cX12_qKind 76 = .ok (.istore_n 1, 1) := by decide +kernel
theorem dX12_qKind_77 : decode cX12_qKind 77 = .ok (.iload_n 1, 1) := by decide +kernel
theorem dX12_qKind_78 : decode cX12_qKind 78 = .ok (.iconst 5, 1) := by decide +kernel
theorem dX12_qKind_79 : decode cX12_qKind 79 = .ok (.if_icmp .ne 11, 3) := by decide +kernel
theorem dX12_qKind_82 : decode cX12_qKind 82 = .ok (.aload_n 0, 1) := by decide +kernel
theorem dX12_qKind_83 : decode cX12_qKind 83 = .ok (.aload_n 0, 1) := by decide +kernel
theorem dX12_qKind_84 : decode cX12_qKind 84 = .ok (.getfield 167, 3) := by decide +kernel
theorem dX12_qKind_87 : decode cX12_qKind 87 = .ok (.invokevirtual 300, 3) := by decide +kernel
theorem dX12_qKind_90 : decode cX12_qKind 90 = .ok (.iload_n 1, 1) := by decide +kernel
theorem dX12_qKind_91 : decode cX12_qKind 91 = .ok (.ireturn, 1) := by decide +kernel
theorem kl_RX12_152 : KLk RX12 152 12 64 := ⟨RX12, TX12, 97, rfl, by decide, Or.inl (kwm 1261 (by decide +kernel) (by decide +kernel))⟩
theorem kl_RX12_155 : KLk RX12 155 12 65 := ⟨RX12, TX12, 97, rfl, by decide, Or.inl (kwm 1262 (by decide +kernel) (by decide +kernel))⟩
theorem kl_RX12_158 : KLk RX12 158 12 66 := ⟨RX12, TX12, 97, rfl, by decide, Or.inl (kwm 1263 (by decide +kernel) (by decide +kernel))⟩
theorem kl_RX12_161 : KLk RX12 161 12 67 := ⟨RX12, TX12, 97, rfl, by decide, Or.inl (kwm 1264 (by decide +kernel) (by decide +kernel))⟩
theorem kl_RX12_164 : KLk RX12 164 12 68 := ⟨RX12, TX12, 97, rfl, by decide, Or.inl (kwm 1265 (by decide +kernel) (by decide +kernel))⟩
theorem kl_RX12_167 : KLk RX12 167 12 69 := ⟨RX12, TX12, 97, rfl, by decide, Or.inl (kwm 1266 (by decide +kernel) (by decide +kernel))⟩
def f_X12_qKind_b76 (h : KH) (v0 : Nat) (w0 : Int32) : Option (Int32 × KH) :=
  if w0 = (5 : Int32) then
  if kkind v0 = 12 then if (kR h v0 69) < 999999 then kb (f_X12_asks h v0 (kR h v0 69)) fun r4 =>
  some (w0, r4) else none else none
  else
  some (w0, h)
set_option maxHeartbeats 4000000 in
set_option maxRecDepth 100000 in
theorem s_X12_qKind_b76 {Z : Nat → (Nat → Nat) → State → Prop} (h : KH) (v0 : Nat) (w0 : Int32) {t : Int32 × KH} (hn : h.1 = 243) (H : f_X12_qKind_b76 h v0 w0 = some t) : KX Z RX12 cX12_qKind 2 false 5 (KRi cX12_qKind t.1 t.2) 76 [(0, .ref v0)] [.int w0] h := by
  unfold f_X12_qKind_b76 at H
  refine x_istore_n (q := 77) (i := 1) (ls2 := [(1, .int w0), (0, .ref v0)]) dX12_qKind_76 rfl rfl (by decide) rfl ?_
  refine x_iload_n (q := 78) dX12_qKind_77 rfl rfl ?_
  refine x_iconst (q := 79) (v := (5 : Int32)) dX12_qKind_78 rfl (by decide) ?_
  replace H := kite H; rcases H with ⟨g1, H⟩ | ⟨g1, H⟩
  · refine x_icmp_ne_f (q := 82) dX12_qKind_79 (t := 90) (by decide) rfl g1 ?_
    refine x_aload_n (q := 83) dX12_qKind_82 rfl rfl ?_
    refine x_aload_n (q := 84) dX12_qKind_83 rfl rfl ?_
    replace H := kif H; obtain ⟨g2, H⟩ := H
    replace H := kif H; obtain ⟨g3, H⟩ := H
    refine x_getR (q := 87) dX12_qKind_84 rfl kl_RX12_167 rfl (k243 g2 (by decide) hn) g3 ?_
    replace H := kbe H; obtain ⟨r4, c5, H⟩ := H
    have m6 := s_X12_asks (Z := Z) h v0 (kR h v0 69) hn c5
    refine x_callV (q := 90) (as := [.ref (kR h v0 69)]) (rest := []) dX12_qKind_87 rfl kc_RX12_300 kh_X12_asks (by decide) (Nat.le_of_ble_eq_true rfl) m6 (ci := 12) (by exact ⟨rfl, by decide⟩) (k243 g2 (by decide) hn) ?_
    have n7 : (r4).1 = 243 := m6.1.full hn
    refine x_iload_n (q := 91) dX12_qKind_90 rfl rfl ?_
    cases H
    exact x_end ⟨dX12_qKind_91, rfl, rfl⟩
  · refine x_icmp_ne_t dX12_qKind_79 (q := 90) (by decide) g1 ?_
    refine x_iload_n (q := 91) dX12_qKind_90 rfl rfl ?_
    cases H
    exact x_end ⟨dX12_qKind_91, rfl, rfl⟩
def f_X12_qKind (h : KH) (v0 : Nat) : Option (Int32 × KH) :=
  if kkind v0 = 12 then if (kR h v0 64) < 999999 then kb (f_X12_takes h v0 (kR h v0 64)) fun r3 =>
  if r3.1 = 0 then
  if (kR r3.2 v0 65) < 999999 then kb (f_X12_takes r3.2 v0 (kR r3.2 v0 65)) fun r9 =>
  if r9.1 = 0 then
  if (kR r9.2 v0 66) < 999999 then kb (f_X12_takes r9.2 v0 (kR r9.2 v0 66)) fun r15 =>
  if r15.1 = 0 then
  if (kR r15.2 v0 67) < 999999 then kb (f_X12_takes r15.2 v0 (kR r15.2 v0 67)) fun r21 =>
  if r21.1 = 0 then
  if (kR r21.2 v0 68) < 999999 then kb (f_X12_takes r21.2 v0 (kR r21.2 v0 68)) fun r27 =>
  if r27.1 = 0 then
  f_X12_qKind_b76 r27.2 v0 (5 : Int32)
  else
  f_X12_qKind_b76 r27.2 v0 (4 : Int32) else none
  else
  f_X12_qKind_b76 r21.2 v0 (3 : Int32) else none
  else
  f_X12_qKind_b76 r15.2 v0 (2 : Int32) else none
  else
  f_X12_qKind_b76 r9.2 v0 (1 : Int32) else none
  else
  f_X12_qKind_b76 r3.2 v0 (0 : Int32) else none else none
set_option maxHeartbeats 4000000 in
set_option maxRecDepth 100000 in
theorem s0_X12_qKind {Z : Nat → (Nat → Nat) → State → Prop} (h : KH) (v0 : Nat) {t : Int32 × KH} (hn : h.1 = 243) (H : f_X12_qKind h v0 = some t) : KX Z RX12 cX12_qKind 2 false 5 (KRi cX12_qKind t.1 t.2) 0 [(0, .ref v0)] [] h := by
  unfold f_X12_qKind at H
  refine x_aload_n (q := 1) dX12_qKind_0 rfl rfl ?_
  refine x_aload_n (q := 2) dX12_qKind_1 rfl rfl ?_
  replace H := kif H; obtain ⟨g1, H⟩ := H
  replace H := kif H; obtain ⟨g2, H⟩ := H
  refine x_getR (q := 5) dX12_qKind_2 rfl kl_RX12_152 rfl (k243 g1 (by decide) hn) g2 ?_
  replace H := kbe H; obtain ⟨r3, c4, H⟩ := H
  have m5 := s_X12_takes (Z := Z) h v0 (kR h v0 64) hn c4
  refine x_callV (q := 8) (as := [.ref (kR h v0 64)]) (rest := []) dX12_qKind_5 rfl kc_RX12_257 kh_X12_takes (by decide) (Nat.le_of_ble_eq_true rfl) m5 (ci := 12) (by exact ⟨rfl, by decide⟩) (k243 g1 (by decide) hn) ?_
  have n6 : (r3.2).1 = 243 := m5.1.full hn
  replace H := kite H; rcases H with ⟨g7, H⟩ | ⟨g7, H⟩
  · refine x_if_eq_t dX12_qKind_8 (q := 15) (by decide) g7 ?_
    refine x_aload_n (q := 16) dX12_qKind_15 rfl rfl ?_
    refine x_aload_n (q := 17) dX12_qKind_16 rfl rfl ?_
    replace H := kif H; obtain ⟨g8, H⟩ := H
    refine x_getR (q := 20) dX12_qKind_17 rfl kl_RX12_155 rfl (k243 g1 (by decide) n6) g8 ?_
    replace H := kbe H; obtain ⟨r9, c10, H⟩ := H
    have m11 := s_X12_takes (Z := Z) r3.2 v0 (kR r3.2 v0 65) n6 c10
    refine x_callV (q := 23) (as := [.ref (kR r3.2 v0 65)]) (rest := []) dX12_qKind_20 rfl kc_RX12_257 kh_X12_takes (by decide) (Nat.le_of_ble_eq_true rfl) m11 (ci := 12) (by exact ⟨rfl, by decide⟩) (k243 g1 (by decide) n6) ?_
    have n12 : (r9.2).1 = 243 := m11.1.full n6
    replace H := kite H; rcases H with ⟨g13, H⟩ | ⟨g13, H⟩
    · refine x_if_eq_t dX12_qKind_23 (q := 30) (by decide) g13 ?_
      refine x_aload_n (q := 31) dX12_qKind_30 rfl rfl ?_
      refine x_aload_n (q := 32) dX12_qKind_31 rfl rfl ?_
      replace H := kif H; obtain ⟨g14, H⟩ := H
      refine x_getR (q := 35) dX12_qKind_32 rfl kl_RX12_158 rfl (k243 g1 (by decide) n12) g14 ?_
      replace H := kbe H; obtain ⟨r15, c16, H⟩ := H
      have m17 := s_X12_takes (Z := Z) r9.2 v0 (kR r9.2 v0 66) n12 c16
      refine x_callV (q := 38) (as := [.ref (kR r9.2 v0 66)]) (rest := []) dX12_qKind_35 rfl kc_RX12_257 kh_X12_takes (by decide) (Nat.le_of_ble_eq_true rfl) m17 (ci := 12) (by exact ⟨rfl, by decide⟩) (k243 g1 (by decide) n12) ?_
      have n18 : (r15.2).1 = 243 := m17.1.full n12
      replace H := kite H; rcases H with ⟨g19, H⟩ | ⟨g19, H⟩
      · refine x_if_eq_t dX12_qKind_38 (q := 45) (by decide) g19 ?_
        refine x_aload_n (q := 46) dX12_qKind_45 rfl rfl ?_
        refine x_aload_n (q := 47) dX12_qKind_46 rfl rfl ?_
        replace H := kif H; obtain ⟨g20, H⟩ := H
        refine x_getR (q := 50) dX12_qKind_47 rfl kl_RX12_161 rfl (k243 g1 (by decide) n18) g20 ?_
        replace H := kbe H; obtain ⟨r21, c22, H⟩ := H
        have m23 := s_X12_takes (Z := Z) r15.2 v0 (kR r15.2 v0 67) n18 c22
        refine x_callV (q := 53) (as := [.ref (kR r15.2 v0 67)]) (rest := []) dX12_qKind_50 rfl kc_RX12_257 kh_X12_takes (by decide) (Nat.le_of_ble_eq_true rfl) m23 (ci := 12) (by exact ⟨rfl, by decide⟩) (k243 g1 (by decide) n18) ?_
        have n24 : (r21.2).1 = 243 := m23.1.full n18
        replace H := kite H; rcases H with ⟨g25, H⟩ | ⟨g25, H⟩
        · refine x_if_eq_t dX12_qKind_53 (q := 60) (by decide) g25 ?_
          refine x_aload_n (q := 61) dX12_qKind_60 rfl rfl ?_
          refine x_aload_n (q := 62) dX12_qKind_61 rfl rfl ?_
          replace H := kif H; obtain ⟨g26, H⟩ := H
          refine x_getR (q := 65) dX12_qKind_62 rfl kl_RX12_164 rfl (k243 g1 (by decide) n24) g26 ?_
          replace H := kbe H; obtain ⟨r27, c28, H⟩ := H
          have m29 := s_X12_takes (Z := Z) r21.2 v0 (kR r21.2 v0 68) n24 c28
          refine x_callV (q := 68) (as := [.ref (kR r21.2 v0 68)]) (rest := []) dX12_qKind_65 rfl kc_RX12_257 kh_X12_takes (by decide) (Nat.le_of_ble_eq_true rfl) m29 (ci := 12) (by exact ⟨rfl, by decide⟩) (k243 g1 (by decide) n24) ?_
          have n30 : (r27.2).1 = 243 := m29.1.full n24
          replace H := kite H; rcases H with ⟨g31, H⟩ | ⟨g31, H⟩
          · refine x_if_eq_t dX12_qKind_68 (q := 75) (by decide) g31 ?_
            refine x_iconst (q := 76) (v := (5 : Int32)) dX12_qKind_75 rfl (by decide) ?_
            refine x_sub (ls2 := [(0, .ref v0)]) [0] rfl ?_
            exact s_X12_qKind_b76 r27.2 v0 (5 : Int32) n30 H
          · refine x_if_eq_f (q := 71) dX12_qKind_68 (t := 75) (by decide) rfl g31 ?_
            refine x_iconst (q := 72) (v := (4 : Int32)) dX12_qKind_71 rfl (by decide) ?_
            refine x_goto dX12_qKind_72 (q := 76) (by decide) ?_
            refine x_sub (ls2 := [(0, .ref v0)]) [0] rfl ?_
            exact s_X12_qKind_b76 r27.2 v0 (4 : Int32) n30 H
        · refine x_if_eq_f (q := 56) dX12_qKind_53 (t := 60) (by decide) rfl g25 ?_
          refine x_iconst (q := 57) (v := (3 : Int32)) dX12_qKind_56 rfl (by decide) ?_
          refine x_goto dX12_qKind_57 (q := 76) (by decide) ?_
          refine x_sub (ls2 := [(0, .ref v0)]) [0] rfl ?_
          exact s_X12_qKind_b76 r21.2 v0 (3 : Int32) n24 H
      · refine x_if_eq_f (q := 41) dX12_qKind_38 (t := 45) (by decide) rfl g19 ?_
        refine x_iconst (q := 42) (v := (2 : Int32)) dX12_qKind_41 rfl (by decide) ?_
        refine x_goto dX12_qKind_42 (q := 76) (by decide) ?_
        refine x_sub (ls2 := [(0, .ref v0)]) [0] rfl ?_
        exact s_X12_qKind_b76 r15.2 v0 (2 : Int32) n18 H
    · refine x_if_eq_f (q := 26) dX12_qKind_23 (t := 30) (by decide) rfl g13 ?_
      refine x_iconst (q := 27) (v := (1 : Int32)) dX12_qKind_26 rfl (by decide) ?_
      refine x_goto dX12_qKind_27 (q := 76) (by decide) ?_
      refine x_sub (ls2 := [(0, .ref v0)]) [0] rfl ?_
      exact s_X12_qKind_b76 r9.2 v0 (1 : Int32) n12 H
  · refine x_if_eq_f (q := 11) dX12_qKind_8 (t := 15) (by decide) rfl g7 ?_
    refine x_iconst (q := 12) (v := (0 : Int32)) dX12_qKind_11 rfl (by decide) ?_
    refine x_goto dX12_qKind_12 (q := 76) (by decide) ?_
    refine x_sub (ls2 := [(0, .ref v0)]) [0] rfl ?_
    exact s_X12_qKind_b76 r3.2 v0 (0 : Int32) n6 H
theorem s_X12_qKind {Z : Nat → (Nat → Nat) → State → Prop} (h : KH) (v0 : Nat) {t : Int32 × KH} (hn : h.1 = 243) (H : f_X12_qKind h v0 = some t) : KM Z yX12_qKind cX12_qKind 2 (some .int) 5 [.ref v0] h (some (.int t.1)) t.2 :=
  kx_i (own := RX12) (ini := false) (by decide +kernel) (by decide +kernel) rfl (Nat.le_of_ble_eq_true rfl) (s0_X12_qKind h v0 hn H)
theorem dX12_qTakes_0 : decode cX12_qTakes 0 = .ok (.iload_n 1, 1) := by decide +kernel
theorem dX12_qTakes_1 : decode cX12_qTakes 1 = .ok (.iconst 3, 1) := by decide +kernel
theorem dX12_qTakes_2 : decode cX12_qTakes 2 = .ok (.if_icmp .ge 13, 3) := by decide +kernel
theorem dX12_qTakes_5 : decode cX12_qTakes 5 = .ok (.lload_n 2, 1) := by decide +kernel
theorem dX12_qTakes_6 : decode cX12_qTakes 6 = .ok (.lconst 1, 1) := by decide +kernel
theorem dX12_qTakes_7 : decode cX12_qTakes 7 = .ok (.lcmp, 1) := by decide +kernel
theorem dX12_qTakes_8 : decode cX12_qTakes 8 = .ok (.ifCond .ne 7, 3) := by decide +kernel
theorem dX12_qTakes_11 : decode cX12_qTakes 11 = .ok (.iconst 1, 1) := by decide +kernel
theorem dX12_qTakes_12 : decode cX12_qTakes 12 = .ok (.goto 4, 3) := by decide +kernel
theorem dX12_qTakes_15 : decode cX12_qTakes 15 = .ok (.iconst 0, 1) := by decide +kernel
theorem dX12_qTakes_16 : decode cX12_qTakes 16 = .ok (.istore 5, 2) := by decide +kernel
theorem dX12_qTakes_18 : decode cX12_qTakes 18 = .ok (.iload_n 1, 1) := by decide +kernel
theorem dX12_qTakes_19 : decode cX12_qTakes 19 = .ok (.ifCond .ne 19, 3) := by decide +kernel
theorem dX12_qTakes_22 : decode cX12_qTakes 22 = .ok (.iload 5, 2) := by decide +kernel
theorem dX12_qTakes_24 : decode cX12_qTakes 24 = .ok (.ifCond .eq 14, 3) := by decide +kernel
theorem dX12_qTakes_27 : decode cX12_qTakes 27 = .ok (.aload_n 0, 1) := by decide +kernel
theorem dX12_qTakes_28 : decode cX12_qTakes 28 = .ok (.getfield 623, 3) := by decide +kernel
theorem dX12_qTakes_31 : decode cX12_qTakes 31 = .ok (.ldc2_w 626, 3) := by decide +kernel
theorem dX12_qTakes_34 : decode cX12_qTakes 34 = .ok (.lcmp, 1) := by decide +kernel
theorem dX12_qTakes_35 : decode cX12_qTakes 35 = .ok (.ifCond .eq 13, 3) := by decide +kernel
theorem dX12_qTakes_38 : decode cX12_qTakes 38 = .ok (.iload_n 1, 1) := by decide +kernel
theorem dX12_qTakes_39 : decode cX12_qTakes 39 = .ok (.iconst 1, 1) := by decide +kernel
theorem dX12_qTakes_40 : decode cX12_qTakes 40 = .ok (.if_icmp .ne 15, 3) := by decide +kernel
theorem dX12_qTakes_43 : decode cX12_qTakes 43 = .ok (.iload 5, 2) := by decide +kernel
theorem dX12_qTakes_45 : decode cX12_qTakes 45 = .ok (.ifCond .eq 10, 3) := by decide +kernel
theorem dX12_qTakes_48 : decode cX12_qTakes 48 = .ok (.aload_n 0, 1) := by decide +kernel
theorem dX12_qTakes_49 : decode cX12_qTakes 49 = .ok (.iload 4, 2) := by decide +kernel
theorem dX12_qTakes_51 : decode cX12_qTakes 51 = .ok (.i2l, 1) := by decide +kernel
theorem dX12_qTakes_52 : decode cX12_qTakes 52 = .ok (.putfield 623, 3) := by decide +kernel
theorem dX12_qTakes_55 : decode cX12_qTakes 55 = .ok (.iload_n 1, 1) := by decide +kernel
theorem dX12_qTakes_56 : decode cX12_qTakes 56 = .ok (.iconst 2, 1) := by decide +kernel
theorem dX12_qTakes_57 : decode cX12_qTakes 57 = .ok (.if_icmp .ne 18, 3) := by decide +kernel
theorem dX12_qTakes_60 : decode cX12_qTakes 60 = .ok (.iload 5, 2) := by decide +kernel
theorem dX12_qTakes_62 : decode cX12_qTakes 62 = .ok (.ifCond .eq 13, 3) := by decide +kernel
theorem dX12_qTakes_65 : decode cX12_qTakes 65 = .ok (.aload_n 0, 1) := by decide +kernel
theorem dX12_qTakes_66 : decode cX12_qTakes 66 = .ok (.dup, 1) := by decide +kernel
theorem dX12_qTakes_67 : decode cX12_qTakes 67 = .ok (.getfield 623, 3) := by decide +kernel
theorem dX12_qTakes_70 : decode cX12_qTakes 70 = .ok (.lconst 1, 1) := by decide +kernel
theorem dX12_qTakes_71 : decode cX12_qTakes 71 = .ok (.ladd, 1) := by decide +kernel
theorem dX12_qTakes_72 : decode cX12_qTakes 72 = .ok (.putfield 623, 3) := by decide +kernel
theorem dX12_qTakes_75 : decode cX12_qTakes 75 = .ok (.iload_n 1, 1) := by decide +kernel
theorem dX12_qTakes_76 : decode cX12_qTakes 76 = .ok (.iconst 3, 1) := by decide +kernel
theorem dX12_qTakes_77 : decode cX12_qTakes 77 = .ok (.if_icmp .ne 13, 3) := by decide +kernel
theorem dX12_qTakes_80 : decode cX12_qTakes 80 = .ok (.aload_n 0, 1) := by decide +kernel
theorem dX12_qTakes_81 : decode cX12_qTakes 81 = .ok (.dup, 1) := by decide +kernel
theorem dX12_qTakes_82 : decode cX12_qTakes 82 = .ok (.getfield 623, 3) := by decide +kernel
theorem dX12_qTakes_85 : decode cX12_qTakes 85 = .ok (.lload_n 2, 1) := by decide +kernel
theorem dX12_qTakes_86 : decode cX12_qTakes 86 = .ok (.ladd, 1) := by decide +kernel
theorem dX12_qTakes_87 : decode cX12_qTakes 87 = .ok (.putfield 623, 3) := by decide +kernel
theorem dX12_qTakes_90 : decode cX12_qTakes 90 = .ok (.iload_n 1, 1) := by decide +kernel
theorem dX12_qTakes_91 : decode cX12_qTakes 91 = .ok (.iconst 3, 1) := by decide +kernel
theorem dX12_qTakes_92 : decode cX12_qTakes 92 = .ok (.if_icmp .le 41, 3) := by decide +kernel
theorem dX12_qTakes_95 : decode cX12_qTakes 95 = .ok (.aload_n 0, 1) := by decide +kernel
theorem dX12_qTakes_96 : decode cX12_qTakes 96 = .ok (.getfield 628, 3) := by decide +kernel
theorem dX12_qTakes_99 : decode cX12_qTakes 99 = .ok (.ifCond .ne 29, 3) := by decide +kernel
theorem dX12_qTakes_102 : decode cX12_qTakes 102 = .ok (.iload_n 1, 1) := by decide +kernel
theorem dX12_qTakes_103 : decode cX12_qTakes 103 = .ok (.iconst 4, 1) := by decide +kernel
theorem dX12_qTakes_104 : decode cX12_qTakes 104 = .ok (.if_icmp .ne 15, 3) := by decide +kernel
theorem dX12_qTakes_107 : decode cX12_qTakes 107 = .ok (.lload_n 2, 1) := by decide +kernel
theorem dX12_qTakes_108 : decode cX12_qTakes 108 = .ok (.aload_n 0, 1) := by decide +kernel
theorem dX12_qTakes_109 : decode cX12_qTakes 109 = .ok (.getfield 623, 3) := by decide +kernel
theorem dX12_qTakes_112 : decode cX12_qTakes 112 = .ok (.lcmp, 1) := by decide +kernel
theorem dX12_qTakes_113 : decode cX12_qTakes 113 = .ok (.ifCond .le 20, 3) := by decide +kernel
theorem dX12_qTakes_116 : decode cX12_qTakes 116 = .ok (.goto 12, 3) := by decide +kernel
theorem dX12_qTakes_119 : decode cX12_qTakes 119 = .ok (.lload_n 2, 1) := by decide +kernel
theorem dX12_qTakes_120 : decode cX12_qTakes 120 = .ok (.aload_n 0, 1) := by decide +kernel
theorem dX12_qTakes_121 : decode cX12_qTakes 121 = .ok (.getfield 623, 3) := by decide +kernel
theorem dX12_qTakes_124 : decode cX12_qTakes 124 = .ok (.lcmp, 1) := by decide +kernel
theorem dX12_qTakes_125 : decode cX12_qTakes 125 = .ok (.ifCond .ge 8, 3) := by decide +kernel
theorem dX12_qTakes_128 : decode cX12_qTakes 128 = .ok (.aload_n 0, 1) := by decide +kernel
theorem dX12_qTakes_129 : decode cX12_qTakes 129 = .ok (.lload_n 2, 1) := by decide +kernel
theorem dX12_qTakes_130 : decode cX12_qTakes 130 = .ok (.putfield 623, 3) := by decide +kernel
theorem dX12_qTakes_133 : decode cX12_qTakes 133 = .ok (.aload_n 0, 1) := by decide +kernel
theorem dX12_qTakes_134 : decode cX12_qTakes 134 = .ok (.iconst 0, 1) := by decide +kernel
theorem dX12_qTakes_135 : decode cX12_qTakes 135 = .ok (.putfield 628, 3) := by decide +kernel
theorem dX12_qTakes_138 : decode cX12_qTakes 138 = .ok (.return_, 1) := by decide +kernel
theorem kl_RX12_628 : KLk RX12 628 12 94 := ⟨RX12, TX12, 97, rfl, by decide, Or.inl (kwm 1291 (by decide +kernel) (by decide +kernel))⟩
theorem kl_RX12_623 : KLk RX12 623 12 93 := ⟨RX12, TX12, 97, rfl, by decide, Or.inl (kwm 1290 (by decide +kernel) (by decide +kernel))⟩
theorem kk_RX12_626 : Jvm.Cond.constantLong RX12 626 (-1 : Int64) ∈ ktG := kwm 1972 (by decide +kernel) (by decide +kernel)
def f_X12_qTakes_b133 (h : KH) (v0 : Nat) : Option (KH) :=
  if kkind v0 = 12 then kl (ksI h v0 94 (0 : Int32)) fun h2 =>
  some h2 else none
set_option maxHeartbeats 4000000 in
set_option maxRecDepth 100000 in
theorem s_X12_qTakes_b133 {Z : Nat → (Nat → Nat) → State → Prop} (h : KH) (v0 : Nat) {t : KH} (hn : h.1 = 243) (H : f_X12_qTakes_b133 h v0 = some t) : KX Z RX12 cX12_qTakes 6 false 1 (KRv cX12_qTakes t) 133 [(0, .ref v0)] [] h := by
  unfold f_X12_qTakes_b133 at H
  refine x_aload_n (q := 134) dX12_qTakes_133 rfl rfl ?_
  refine x_iconst (q := 135) (v := (0 : Int32)) dX12_qTakes_134 rfl (by decide) ?_
  replace H := kif H; obtain ⟨g1, H⟩ := H
  replace H := kle H; obtain ⟨h2, q3, H⟩ := H
  refine x_putZ (q := 138) dX12_qTakes_135 rfl kl_RX12_628 (Or.inl rfl) rfl (by decide) (k243 g1 (by decide) hn) ?_
  refine x_nmH q3 ?_
  have n4 : h2.1 = 243 := by rw [q3]; exact hn
  cases H
  exact x_end ⟨dX12_qTakes_138, rfl, rfl⟩
def f_X12_qTakes_b128 (h : KH) (v0 : Nat) (v2 : Int64) : Option (KH) :=
  if kkind v0 = 12 then kl (ksL h v0 93 v2) fun h2 =>
  f_X12_qTakes_b133 h2 v0 else none
set_option maxHeartbeats 4000000 in
set_option maxRecDepth 100000 in
theorem s_X12_qTakes_b128 {Z : Nat → (Nat → Nat) → State → Prop} (h : KH) (v0 : Nat) (v2 : Int64) {t : KH} (hn : h.1 = 243) (H : f_X12_qTakes_b128 h v0 v2 = some t) : KX Z RX12 cX12_qTakes 6 false 1 (KRv cX12_qTakes t) 128 [(0, .ref v0), (2, .long v2)] [] h := by
  unfold f_X12_qTakes_b128 at H
  refine x_aload_n (q := 129) dX12_qTakes_128 rfl rfl ?_
  refine x_lload_n (q := 130) dX12_qTakes_129 rfl rfl ?_
  replace H := kif H; obtain ⟨g1, H⟩ := H
  replace H := kle H; obtain ⟨h2, q3, H⟩ := H
  refine x_putL (q := 133) dX12_qTakes_130 rfl kl_RX12_623 (Or.inl rfl) rfl (k243 g1 (by decide) hn) ?_
  refine x_nmH q3 ?_
  have n4 : h2.1 = 243 := by rw [q3]; exact hn
  refine x_sub (ls2 := [(0, .ref v0)]) [0] rfl ?_
  exact s_X12_qTakes_b133 h2 v0 n4 H
def f_X12_qTakes_b90 (h : KH) (v0 : Nat) (v1 : Int32) (v2 : Int64) : Option (KH) :=
  if v1 ≤ (3 : Int32) then
  f_X12_qTakes_b133 h v0
  else
  if kkind v0 = 12 then if (kI h v0 94) = 0 then
  if v1 = (4 : Int32) then
  if (lg_cmp v2 (kL h v0 93)) ≤ 0 then
  f_X12_qTakes_b133 h v0
  else
  f_X12_qTakes_b128 h v0 v2
  else
  if 0 ≤ (lg_cmp v2 (kL h v0 93)) then
  f_X12_qTakes_b133 h v0
  else
  f_X12_qTakes_b128 h v0 v2
  else
  f_X12_qTakes_b128 h v0 v2 else none
set_option maxHeartbeats 4000000 in
set_option maxRecDepth 100000 in
theorem s_X12_qTakes_b90 {Z : Nat → (Nat → Nat) → State → Prop} (h : KH) (v0 : Nat) (v1 : Int32) (v2 : Int64) {t : KH} (hn : h.1 = 243) (H : f_X12_qTakes_b90 h v0 v1 v2 = some t) : KX Z RX12 cX12_qTakes 6 false 1 (KRv cX12_qTakes t) 90 [(0, .ref v0), (1, .int v1), (2, .long v2)] [] h := by
  unfold f_X12_qTakes_b90 at H
  refine x_iload_n (q := 91) dX12_qTakes_90 rfl rfl ?_
  refine x_iconst (q := 92) (v := (3 : Int32)) dX12_qTakes_91 rfl (by decide) ?_
  replace H := kite H; rcases H with ⟨g1, H⟩ | ⟨g1, H⟩
  · refine x_icmp_le_t dX12_qTakes_92 (q := 133) (by decide) g1 ?_
    refine x_sub (ls2 := [(0, .ref v0)]) [0] rfl ?_
    exact s_X12_qTakes_b133 h v0 hn H
  · refine x_icmp_le_f (q := 95) dX12_qTakes_92 (t := 133) (by decide) rfl g1 ?_
    refine x_aload_n (q := 96) dX12_qTakes_95 rfl rfl ?_
    replace H := kif H; obtain ⟨g2, H⟩ := H
    refine x_getI (q := 99) dX12_qTakes_96 rfl kl_RX12_628 (Or.inr rfl) (k243 g2 (by decide) hn) ?_
    replace H := kite H; rcases H with ⟨g3, H⟩ | ⟨g3, H⟩
    · refine x_if_ne_f (q := 102) dX12_qTakes_99 (t := 128) (by decide) rfl g3 ?_
      refine x_iload_n (q := 103) dX12_qTakes_102 rfl rfl ?_
      refine x_iconst (q := 104) (v := (4 : Int32)) dX12_qTakes_103 rfl (by decide) ?_
      replace H := kite H; rcases H with ⟨g4, H⟩ | ⟨g4, H⟩
      · refine x_icmp_ne_f (q := 107) dX12_qTakes_104 (t := 119) (by decide) rfl g4 ?_
        refine x_lload_n (q := 108) dX12_qTakes_107 rfl rfl ?_
        refine x_aload_n (q := 109) dX12_qTakes_108 rfl rfl ?_
        refine x_getL (q := 112) dX12_qTakes_109 rfl kl_RX12_623 rfl (k243 g2 (by decide) hn) ?_
        refine x_lcmp (q := 113) dX12_qTakes_112 rfl ?_
        replace H := kite H; rcases H with ⟨g6, H⟩ | ⟨g6, H⟩
        · refine x_if_le_t dX12_qTakes_113 (q := 133) (by decide) g6 ?_
          refine x_sub (ls2 := [(0, .ref v0)]) [0] rfl ?_
          exact s_X12_qTakes_b133 h v0 hn H
        · refine x_if_le_f (q := 116) dX12_qTakes_113 (t := 133) (by decide) rfl g6 ?_
          refine x_goto dX12_qTakes_116 (q := 128) (by decide) ?_
          refine x_sub (ls2 := [(0, .ref v0), (2, .long v2)]) [0, 2] rfl ?_
          exact s_X12_qTakes_b128 h v0 v2 hn H
      · refine x_icmp_ne_t dX12_qTakes_104 (q := 119) (by decide) g4 ?_
        refine x_lload_n (q := 120) dX12_qTakes_119 rfl rfl ?_
        refine x_aload_n (q := 121) dX12_qTakes_120 rfl rfl ?_
        refine x_getL (q := 124) dX12_qTakes_121 rfl kl_RX12_623 rfl (k243 g2 (by decide) hn) ?_
        refine x_lcmp (q := 125) dX12_qTakes_124 rfl ?_
        replace H := kite H; rcases H with ⟨g5, H⟩ | ⟨g5, H⟩
        · refine x_if_ge_t dX12_qTakes_125 (q := 133) (by decide) g5 ?_
          refine x_sub (ls2 := [(0, .ref v0)]) [0] rfl ?_
          exact s_X12_qTakes_b133 h v0 hn H
        · refine x_if_ge_f (q := 128) dX12_qTakes_125 (t := 133) (by decide) rfl g5 ?_
          refine x_sub (ls2 := [(0, .ref v0), (2, .long v2)]) [0, 2] rfl ?_
          exact s_X12_qTakes_b128 h v0 v2 hn H
    · refine x_if_ne_t dX12_qTakes_99 (q := 128) (by decide) g3 ?_
      refine x_sub (ls2 := [(0, .ref v0), (2, .long v2)]) [0, 2] rfl ?_
      exact s_X12_qTakes_b128 h v0 v2 hn H
def f_X12_qTakes_b75 (h : KH) (v0 : Nat) (v1 : Int32) (v2 : Int64) : Option (KH) :=
  if v1 = (3 : Int32) then
  if kkind v0 = 12 then kl (ksL h v0 93 ((kL h v0 93) + v2)) fun h3 =>
  f_X12_qTakes_b90 h3 v0 v1 v2 else none
  else
  f_X12_qTakes_b90 h v0 v1 v2
set_option maxHeartbeats 4000000 in
set_option maxRecDepth 100000 in
theorem s_X12_qTakes_b75 {Z : Nat → (Nat → Nat) → State → Prop} (h : KH) (v0 : Nat) (v1 : Int32) (v2 : Int64) {t : KH} (hn : h.1 = 243) (H : f_X12_qTakes_b75 h v0 v1 v2 = some t) : KX Z RX12 cX12_qTakes 6 false 1 (KRv cX12_qTakes t) 75 [(0, .ref v0), (1, .int v1), (2, .long v2)] [] h := by
  unfold f_X12_qTakes_b75 at H
  refine x_iload_n (q := 76) dX12_qTakes_75 rfl rfl ?_
  refine x_iconst (q := 77) (v := (3 : Int32)) dX12_qTakes_76 rfl (by decide) ?_
  replace H := kite H; rcases H with ⟨g1, H⟩ | ⟨g1, H⟩
  · refine x_icmp_ne_f (q := 80) dX12_qTakes_77 (t := 90) (by decide) rfl g1 ?_
    refine x_aload_n (q := 81) dX12_qTakes_80 rfl rfl ?_
    refine x_dup (q := 82) dX12_qTakes_81 rfl rfl ?_
    replace H := kif H; obtain ⟨g2, H⟩ := H
    refine x_getL (q := 85) dX12_qTakes_82 rfl kl_RX12_623 rfl (k243 g2 (by decide) hn) ?_
    refine x_lload_n (q := 86) dX12_qTakes_85 rfl rfl ?_
    refine x_ladd (q := 87) dX12_qTakes_86 rfl ?_
    replace H := kle H; obtain ⟨h3, q4, H⟩ := H
    refine x_putL (q := 90) dX12_qTakes_87 rfl kl_RX12_623 (Or.inl rfl) rfl (k243 g2 (by decide) hn) ?_
    refine x_nmH q4 ?_
    have n5 : h3.1 = 243 := by rw [q4]; exact hn
    refine x_sub (ls2 := [(0, .ref v0), (1, .int v1), (2, .long v2)]) [0, 1, 2] rfl ?_
    exact s_X12_qTakes_b90 h3 v0 v1 v2 n5 H
  · refine x_icmp_ne_t dX12_qTakes_77 (q := 90) (by decide) g1 ?_
    refine x_sub (ls2 := [(0, .ref v0), (1, .int v1), (2, .long v2)]) [0, 1, 2] rfl ?_
    exact s_X12_qTakes_b90 h v0 v1 v2 hn H
def f_X12_qTakes_b55 (h : KH) (v0 : Nat) (v1 : Int32) (v2 : Int64) (v5 : Int32) : Option (KH) :=
  if v1 = (2 : Int32) then
  if v5 = 0 then
  f_X12_qTakes_b75 h v0 v1 v2
  else
  if kkind v0 = 12 then kl (ksL h v0 93 ((kL h v0 93) + (1 : Int64))) fun h4 =>
  f_X12_qTakes_b75 h4 v0 v1 v2 else none
  else
  f_X12_qTakes_b75 h v0 v1 v2
set_option maxHeartbeats 4000000 in
set_option maxRecDepth 100000 in
theorem s_X12_qTakes_b55 {Z : Nat → (Nat → Nat) → State → Prop} (h : KH) (v0 : Nat) (v1 : Int32) (v2 : Int64) (v5 : Int32) {t : KH} (hn : h.1 = 243) (H : f_X12_qTakes_b55 h v0 v1 v2 v5 = some t) : KX Z RX12 cX12_qTakes 6 false 1 (KRv cX12_qTakes t) 55 [(0, .ref v0), (1, .int v1), (2, .long v2), (5, .int v5)] [] h := by
  unfold f_X12_qTakes_b55 at H
  refine x_iload_n (q := 56) dX12_qTakes_55 rfl rfl ?_
  refine x_iconst (q := 57) (v := (2 : Int32)) dX12_qTakes_56 rfl (by decide) ?_
  replace H := kite H; rcases H with ⟨g1, H⟩ | ⟨g1, H⟩
  · refine x_icmp_ne_f (q := 60) dX12_qTakes_57 (t := 75) (by decide) rfl g1 ?_
    refine x_iload (q := 62) dX12_qTakes_60 rfl rfl ?_
    replace H := kite H; rcases H with ⟨g2, H⟩ | ⟨g2, H⟩
    · refine x_if_eq_t dX12_qTakes_62 (q := 75) (by decide) g2 ?_
      refine x_sub (ls2 := [(0, .ref v0), (1, .int v1), (2, .long v2)]) [0, 1, 2] rfl ?_
      exact s_X12_qTakes_b75 h v0 v1 v2 hn H
    · refine x_if_eq_f (q := 65) dX12_qTakes_62 (t := 75) (by decide) rfl g2 ?_
      refine x_aload_n (q := 66) dX12_qTakes_65 rfl rfl ?_
      refine x_dup (q := 67) dX12_qTakes_66 rfl rfl ?_
      replace H := kif H; obtain ⟨g3, H⟩ := H
      refine x_getL (q := 70) dX12_qTakes_67 rfl kl_RX12_623 rfl (k243 g3 (by decide) hn) ?_
      refine x_lconst (q := 71) (v := (1 : Int64)) dX12_qTakes_70 rfl (by decide) ?_
      refine x_ladd (q := 72) dX12_qTakes_71 rfl ?_
      replace H := kle H; obtain ⟨h4, q5, H⟩ := H
      refine x_putL (q := 75) dX12_qTakes_72 rfl kl_RX12_623 (Or.inl rfl) rfl (k243 g3 (by decide) hn) ?_
      refine x_nmH q5 ?_
      have n6 : h4.1 = 243 := by rw [q5]; exact hn
      refine x_sub (ls2 := [(0, .ref v0), (1, .int v1), (2, .long v2)]) [0, 1, 2] rfl ?_
      exact s_X12_qTakes_b75 h4 v0 v1 v2 n6 H
  · refine x_icmp_ne_t dX12_qTakes_57 (q := 75) (by decide) g1 ?_
    refine x_sub (ls2 := [(0, .ref v0), (1, .int v1), (2, .long v2)]) [0, 1, 2] rfl ?_
    exact s_X12_qTakes_b75 h v0 v1 v2 hn H
def f_X12_qTakes_b48 (h : KH) (v0 : Nat) (v1 : Int32) (v2 : Int64) (v4 : Int32) (v5 : Int32) : Option (KH) :=
  if kkind v0 = 12 then kl (ksL h v0 93 ((v4).toInt64)) fun h2 =>
  f_X12_qTakes_b55 h2 v0 v1 v2 v5 else none
set_option maxHeartbeats 4000000 in
set_option maxRecDepth 100000 in
theorem s_X12_qTakes_b48 {Z : Nat → (Nat → Nat) → State → Prop} (h : KH) (v0 : Nat) (v1 : Int32) (v2 : Int64) (v4 : Int32) (v5 : Int32) {t : KH} (hn : h.1 = 243) (H : f_X12_qTakes_b48 h v0 v1 v2 v4 v5 = some t) : KX Z RX12 cX12_qTakes 6 false 1 (KRv cX12_qTakes t) 48 [(0, .ref v0), (1, .int v1), (2, .long v2), (4, .int v4), (5, .int v5)] [] h := by
  unfold f_X12_qTakes_b48 at H
  refine x_aload_n (q := 49) dX12_qTakes_48 rfl rfl ?_
  refine x_iload (q := 51) dX12_qTakes_49 rfl rfl ?_
  refine x_i2l (q := 52) dX12_qTakes_51 rfl ?_
  replace H := kif H; obtain ⟨g1, H⟩ := H
  replace H := kle H; obtain ⟨h2, q3, H⟩ := H
  refine x_putL (q := 55) dX12_qTakes_52 rfl kl_RX12_623 (Or.inl rfl) rfl (k243 g1 (by decide) hn) ?_
  refine x_nmH q3 ?_
  have n4 : h2.1 = 243 := by rw [q3]; exact hn
  refine x_sub (ls2 := [(0, .ref v0), (1, .int v1), (2, .long v2), (5, .int v5)]) [0, 1, 2, 4] rfl ?_
  exact s_X12_qTakes_b55 h2 v0 v1 v2 v5 n4 H
def f_X12_qTakes_b38 (h : KH) (v0 : Nat) (v1 : Int32) (v2 : Int64) (v4 : Int32) (v5 : Int32) : Option (KH) :=
  if v1 = (1 : Int32) then
  if v5 = 0 then
  f_X12_qTakes_b55 h v0 v1 v2 v5
  else
  f_X12_qTakes_b48 h v0 v1 v2 v4 v5
  else
  f_X12_qTakes_b55 h v0 v1 v2 v5
set_option maxHeartbeats 4000000 in
set_option maxRecDepth 100000 in
theorem s_X12_qTakes_b38 {Z : Nat → (Nat → Nat) → State → Prop} (h : KH) (v0 : Nat) (v1 : Int32) (v2 : Int64) (v4 : Int32) (v5 : Int32) {t : KH} (hn : h.1 = 243) (H : f_X12_qTakes_b38 h v0 v1 v2 v4 v5 = some t) : KX Z RX12 cX12_qTakes 6 false 1 (KRv cX12_qTakes t) 38 [(0, .ref v0), (1, .int v1), (2, .long v2), (4, .int v4), (5, .int v5)] [] h := by
  unfold f_X12_qTakes_b38 at H
  refine x_iload_n (q := 39) dX12_qTakes_38 rfl rfl ?_
  refine x_iconst (q := 40) (v := (1 : Int32)) dX12_qTakes_39 rfl (by decide) ?_
  replace H := kite H; rcases H with ⟨g1, H⟩ | ⟨g1, H⟩
  · refine x_icmp_ne_f (q := 43) dX12_qTakes_40 (t := 55) (by decide) rfl g1 ?_
    refine x_iload (q := 45) dX12_qTakes_43 rfl rfl ?_
    replace H := kite H; rcases H with ⟨g2, H⟩ | ⟨g2, H⟩
    · refine x_if_eq_t dX12_qTakes_45 (q := 55) (by decide) g2 ?_
      refine x_sub (ls2 := [(0, .ref v0), (1, .int v1), (2, .long v2), (5, .int v5)]) [0, 1, 2, 4] rfl ?_
      exact s_X12_qTakes_b55 h v0 v1 v2 v5 hn H
    · refine x_if_eq_f (q := 48) dX12_qTakes_45 (t := 55) (by decide) rfl g2 ?_
      refine x_sub (ls2 := [(0, .ref v0), (1, .int v1), (2, .long v2), (4, .int v4), (5, .int v5)]) [0, 1, 2, 3, 4] rfl ?_
      exact s_X12_qTakes_b48 h v0 v1 v2 v4 v5 hn H
  · refine x_icmp_ne_t dX12_qTakes_40 (q := 55) (by decide) g1 ?_
    refine x_sub (ls2 := [(0, .ref v0), (1, .int v1), (2, .long v2), (5, .int v5)]) [0, 1, 2, 4] rfl ?_
    exact s_X12_qTakes_b55 h v0 v1 v2 v5 hn H
def f_X12_qTakes_b16 (h : KH) (v0 : Nat) (v1 : Int32) (v2 : Int64) (v4 : Int32) (w0 : Int32) : Option (KH) :=
  if v1 = 0 then
  if w0 = 0 then
  f_X12_qTakes_b38 h v0 v1 v2 v4 w0
  else
  if kkind v0 = 12 then if (lg_cmp (kL h v0 93) (-1 : Int64)) = 0 then
  f_X12_qTakes_b48 h v0 v1 v2 v4 w0
  else
  f_X12_qTakes_b38 h v0 v1 v2 v4 w0 else none
  else
  f_X12_qTakes_b38 h v0 v1 v2 v4 w0
set_option maxHeartbeats 4000000 in
set_option maxRecDepth 100000 in
theorem s_X12_qTakes_b16 {Z : Nat → (Nat → Nat) → State → Prop} (h : KH) (v0 : Nat) (v1 : Int32) (v2 : Int64) (v4 : Int32) (w0 : Int32) {t : KH} (hn : h.1 = 243) (H : f_X12_qTakes_b16 h v0 v1 v2 v4 w0 = some t) : KX Z RX12 cX12_qTakes 6 false 1 (KRv cX12_qTakes t) 16 [(0, .ref v0), (1, .int v1), (2, .long v2), (4, .int v4)] [.int w0] h := by
  unfold f_X12_qTakes_b16 at H
  refine x_istore (q := 18) (i := 5) (ls2 := [(5, .int w0), (0, .ref v0), (1, .int v1), (2, .long v2), (4, .int v4)]) dX12_qTakes_16 rfl (by decide) rfl ?_
  refine x_iload_n (q := 19) dX12_qTakes_18 rfl rfl ?_
  replace H := kite H; rcases H with ⟨g1, H⟩ | ⟨g1, H⟩
  · refine x_if_ne_f (q := 22) dX12_qTakes_19 (t := 38) (by decide) rfl g1 ?_
    refine x_iload (q := 24) dX12_qTakes_22 rfl rfl ?_
    replace H := kite H; rcases H with ⟨g2, H⟩ | ⟨g2, H⟩
    · refine x_if_eq_t dX12_qTakes_24 (q := 38) (by decide) g2 ?_
      refine x_sub (ls2 := [(0, .ref v0), (1, .int v1), (2, .long v2), (4, .int v4), (5, .int w0)]) [1, 2, 3, 4, 0] rfl ?_
      exact s_X12_qTakes_b38 h v0 v1 v2 v4 w0 hn H
    · refine x_if_eq_f (q := 27) dX12_qTakes_24 (t := 38) (by decide) rfl g2 ?_
      refine x_aload_n (q := 28) dX12_qTakes_27 rfl rfl ?_
      replace H := kif H; obtain ⟨g3, H⟩ := H
      refine x_getL (q := 31) dX12_qTakes_28 rfl kl_RX12_623 rfl (k243 g3 (by decide) hn) ?_
      refine x_ldc2 (q := 34) (v := (-1 : Int64)) dX12_qTakes_31 rfl kk_RX12_626 ?_
      refine x_lcmp (q := 35) dX12_qTakes_34 rfl ?_
      replace H := kite H; rcases H with ⟨g4, H⟩ | ⟨g4, H⟩
      · refine x_if_eq_t dX12_qTakes_35 (q := 48) (by decide) g4 ?_
        refine x_sub (ls2 := [(0, .ref v0), (1, .int v1), (2, .long v2), (4, .int v4), (5, .int w0)]) [1, 2, 3, 4, 0] rfl ?_
        exact s_X12_qTakes_b48 h v0 v1 v2 v4 w0 hn H
      · refine x_if_eq_f (q := 38) dX12_qTakes_35 (t := 48) (by decide) rfl g4 ?_
        refine x_sub (ls2 := [(0, .ref v0), (1, .int v1), (2, .long v2), (4, .int v4), (5, .int w0)]) [1, 2, 3, 4, 0] rfl ?_
        exact s_X12_qTakes_b38 h v0 v1 v2 v4 w0 hn H
  · refine x_if_ne_t dX12_qTakes_19 (q := 38) (by decide) g1 ?_
    refine x_sub (ls2 := [(0, .ref v0), (1, .int v1), (2, .long v2), (4, .int v4), (5, .int w0)]) [1, 2, 3, 4, 0] rfl ?_
    exact s_X12_qTakes_b38 h v0 v1 v2 v4 w0 hn H
def f_X12_qTakes_b15 (h : KH) (v0 : Nat) (v1 : Int32) (v2 : Int64) (v4 : Int32) : Option (KH) :=
  f_X12_qTakes_b16 h v0 v1 v2 v4 (0 : Int32)
set_option maxHeartbeats 4000000 in
set_option maxRecDepth 100000 in
theorem s_X12_qTakes_b15 {Z : Nat → (Nat → Nat) → State → Prop} (h : KH) (v0 : Nat) (v1 : Int32) (v2 : Int64) (v4 : Int32) {t : KH} (hn : h.1 = 243) (H : f_X12_qTakes_b15 h v0 v1 v2 v4 = some t) : KX Z RX12 cX12_qTakes 6 false 1 (KRv cX12_qTakes t) 15 [(0, .ref v0), (1, .int v1), (2, .long v2), (4, .int v4)] [] h := by
  unfold f_X12_qTakes_b15 at H
  refine x_iconst (q := 16) (v := (0 : Int32)) dX12_qTakes_15 rfl (by decide) ?_
  refine x_sub (ls2 := [(0, .ref v0), (1, .int v1), (2, .long v2), (4, .int v4)]) [0, 1, 2, 3] rfl ?_
  exact s_X12_qTakes_b16 h v0 v1 v2 v4 (0 : Int32) hn H
def f_X12_qTakes (h : KH) (v0 : Nat) (v1 : Int32) (v2 : Int64) (v4 : Int32) : Option (KH) :=
  if (3 : Int32) ≤ v1 then
  f_X12_qTakes_b15 h v0 v1 v2 v4
  else
  if (lg_cmp v2 (1 : Int64)) = 0 then
  f_X12_qTakes_b16 h v0 v1 v2 v4 (1 : Int32)
  else
  f_X12_qTakes_b15 h v0 v1 v2 v4
set_option maxHeartbeats 4000000 in
set_option maxRecDepth 100000 in
theorem s0_X12_qTakes {Z : Nat → (Nat → Nat) → State → Prop} (h : KH) (v0 : Nat) (v1 : Int32) (v2 : Int64) (v4 : Int32) {t : KH} (hn : h.1 = 243) (H : f_X12_qTakes h v0 v1 v2 v4 = some t) : KX Z RX12 cX12_qTakes 6 false 1 (KRv cX12_qTakes t) 0 [(0, .ref v0), (1, .int v1), (2, .long v2), (4, .int v4)] [] h := by
  unfold f_X12_qTakes at H
  refine x_iload_n (q := 1) dX12_qTakes_0 rfl rfl ?_
  refine x_iconst (q := 2) (v := (3 : Int32)) dX12_qTakes_1 rfl (by decide) ?_
  replace H := kite H; rcases H with ⟨g1, H⟩ | ⟨g1, H⟩
  · refine x_icmp_ge_t dX12_qTakes_2 (q := 15) (by decide) g1 ?_
    refine x_sub (ls2 := [(0, .ref v0), (1, .int v1), (2, .long v2), (4, .int v4)]) [0, 1, 2, 3] rfl ?_
    exact s_X12_qTakes_b15 h v0 v1 v2 v4 hn H
  · refine x_icmp_ge_f (q := 5) dX12_qTakes_2 (t := 15) (by decide) rfl g1 ?_
    refine x_lload_n (q := 6) dX12_qTakes_5 rfl rfl ?_
    refine x_lconst (q := 7) (v := (1 : Int64)) dX12_qTakes_6 rfl (by decide) ?_
    refine x_lcmp (q := 8) dX12_qTakes_7 rfl ?_
    replace H := kite H; rcases H with ⟨g2, H⟩ | ⟨g2, H⟩
    · refine x_if_ne_f (q := 11) dX12_qTakes_8 (t := 15) (by decide) rfl g2 ?_
      refine x_iconst (q := 12) (v := (1 : Int32)) dX12_qTakes_11 rfl (by decide) ?_
      refine x_goto dX12_qTakes_12 (q := 16) (by decide) ?_
      refine x_sub (ls2 := [(0, .ref v0), (1, .int v1), (2, .long v2), (4, .int v4)]) [0, 1, 2, 3] rfl ?_
      exact s_X12_qTakes_b16 h v0 v1 v2 v4 (1 : Int32) hn H
    · refine x_if_ne_t dX12_qTakes_8 (q := 15) (by decide) g2 ?_
      refine x_sub (ls2 := [(0, .ref v0), (1, .int v1), (2, .long v2), (4, .int v4)]) [0, 1, 2, 3] rfl ?_
      exact s_X12_qTakes_b15 h v0 v1 v2 v4 hn H
theorem s_X12_qTakes {Z : Nat → (Nat → Nat) → State → Prop} (h : KH) (v0 : Nat) (v1 : Int32) (v2 : Int64) (v4 : Int32) {t : KH} (hn : h.1 = 243) (H : f_X12_qTakes h v0 v1 v2 v4 = some t) : KM Z yX12_qTakes cX12_qTakes 6 none 1 [.ref v0, .int v1, .long v2, .int v4] h none t :=
  kx_v (own := RX12) (ini := false) (by decide +kernel) (by decide +kernel) rfl (Nat.le_of_ble_eq_true rfl) (s0_X12_qTakes h v0 v1 v2 v4 hn H)
theorem dX12_ask_0 : decode cX12_ask 0 = .ok (.aload_n 0, 1) := by decide +kernel
theorem dX12_ask_1 : decode cX12_ask 1 = .ok (.aload_n 0, 1) := by decide +kernel
theorem dX12_ask_2 : decode cX12_ask 2 = .ok (.getfield 227, 3) := by decide +kernel
theorem dX12_ask_5 : decode cX12_ask 5 = .ok (.putfield 239, 3) := by decide +kernel
theorem dX12_ask_8 : decode cX12_ask 8 = .ok (.aload_n 0, 1) := by decide +kernel
theorem dX12_ask_9 : decode cX12_ask 9 = .ok (.iconst 0, 1) := by decide +kernel
theorem dX12_ask_10 : decode cX12_ask 10 = .ok (.putfield 227, 3) := by decide +kernel
theorem dX12_ask_13 : decode cX12_ask 13 = .ok (.aload_n 0, 1) := by decide +kernel
theorem dX12_ask_14 : decode cX12_ask 14 = .ok (.iconst 0, 1) := by decide +kernel
theorem dX12_ask_15 : decode cX12_ask 15 = .ok (.putfield 236, 3) := by decide +kernel
theorem dX12_ask_18 : decode cX12_ask 18 = .ok (.aload_n 0, 1) := by decide +kernel
theorem dX12_ask_19 : decode cX12_ask 19 = .ok (.iconst (-1), 1) := by decide +kernel
theorem dX12_ask_20 : decode cX12_ask 20 = .ok (.putfield 250, 3) := by decide +kernel
theorem dX12_ask_23 : decode cX12_ask 23 = .ok (.aload_n 0, 1) := by decide +kernel
theorem dX12_ask_24 : decode cX12_ask 24 = .ok (.iconst 0, 1) := by decide +kernel
theorem dX12_ask_25 : decode cX12_ask 25 = .ok (.putfield 230, 3) := by decide +kernel
theorem dX12_ask_28 : decode cX12_ask 28 = .ok (.aload_n 0, 1) := by decide +kernel
theorem dX12_ask_29 : decode cX12_ask 29 = .ok (.iconst (-1), 1) := by decide +kernel
theorem dX12_ask_30 : decode cX12_ask 30 = .ok (.putfield 233, 3) := by decide +kernel
theorem dX12_ask_33 : decode cX12_ask 33 = .ok (.aload_n 0, 1) := by decide +kernel
theorem dX12_ask_34 : decode cX12_ask 34 = .ok (.iconst 0, 1) := by decide +kernel
theorem dX12_ask_35 : decode cX12_ask 35 = .ok (.putfield 285, 3) := by decide +kernel
theorem dX12_ask_38 : decode cX12_ask 38 = .ok (.aload_n 0, 1) := by decide +kernel
theorem dX12_ask_39 : decode cX12_ask 39 = .ok (.iconst 0, 1) := by decide +kernel
theorem dX12_ask_40 : decode cX12_ask 40 = .ok (.putfield 312, 3) := by decide +kernel
theorem dX12_ask_43 : decode cX12_ask 43 = .ok (.aload_n 0, 1) := by decide +kernel
theorem dX12_ask_44 : decode cX12_ask 44 = .ok (.iconst 0, 1) := by decide +kernel
theorem dX12_ask_45 : decode cX12_ask 45 = .ok (.putfield 315, 3) := by decide +kernel
theorem dX12_ask_48 : decode cX12_ask 48 = .ok (.aload_n 0, 1) := by decide +kernel
theorem dX12_ask_49 : decode cX12_ask 49 = .ok (.iconst 0, 1) := by decide +kernel
theorem dX12_ask_50 : decode cX12_ask 50 = .ok (.putfield 318, 3) := by decide +kernel
theorem dX12_ask_53 : decode cX12_ask 53 = .ok (.aload_n 0, 1) := by decide +kernel
theorem dX12_ask_54 : decode cX12_ask 54 = .ok (.iconst 0, 1) := by decide +kernel
theorem dX12_ask_55 : decode cX12_ask 55 = .ok (.putfield 321, 3) := by decide +kernel
theorem dX12_ask_58 : decode cX12_ask 58 = .ok (.aload_n 0, 1) := by decide +kernel
theorem dX12_ask_59 : decode cX12_ask 59 = .ok (.invokevirtual 631, 3) := by decide +kernel
theorem dX12_ask_62 : decode cX12_ask 62 = .ok (.istore_n 1, 1) := by decide +kernel
theorem dX12_ask_63 : decode cX12_ask 63 = .ok (.aload_n 0, 1) := by decide +kernel
theorem dX12_ask_64 : decode cX12_ask 64 = .ok (.getfield 230, 3) := by decide +kernel
theorem dX12_ask_67 : decode cX12_ask 67 = .ok (.ifCond .ne 15, 3) := by decide +kernel
theorem dX12_ask_70 : decode cX12_ask 70 = .ok (.iload_n 1, 1) := by decide +kernel
theorem dX12_ask_71 : decode cX12_ask 71 = .ok (.iconst 3, 1) := by decide +kernel
theorem dX12_ask_72 : decode cX12_ask 72 = .ok (.if_icmp .ge 10, 3) := by decide +kernel
theorem dX12_ask_75 : decode cX12_ask 75 = .ok (.aload_n 0, 1) := by decide +kernel
theorem dX12_ask_76 : decode cX12_ask 76 = .ok (.invokevirtual 324, 3) := by decide +kernel
theorem dX12_ask_79 : decode cX12_ask 79 = .ok (.goto 14, 3) := by decide +kernel
theorem dX12_ask_82 : decode cX12_ask 82 = .ok (.aload_n 0, 1) := by decide +kernel
theorem dX12_ask_83 : decode cX12_ask 83 = .ok (.getfield 230, 3) := by decide +kernel
theorem dX12_ask_86 : decode cX12_ask 86 = .ok (.ifCond .ne 7, 3) := by decide +kernel
theorem dX12_ask_89 : decode cX12_ask 89 = .ok (.aload_n 0, 1) := by decide +kernel
theorem dX12_ask_90 : decode cX12_ask 90 = .ok (.invokevirtual 592, 3) := by decide +kernel
theorem dX12_ask_93 : decode cX12_ask 93 = .ok (.aload_n 0, 1) := by decide +kernel
theorem dX12_ask_94 : decode cX12_ask 94 = .ok (.getfield 230, 3) := by decide +kernel
theorem dX12_ask_97 : decode cX12_ask 97 = .ok (.ifCond .ne 20, 3) := by decide +kernel
theorem dX12_ask_100 : decode cX12_ask 100 = .ok (.aload_n 0, 1) := by decide +kernel
theorem dX12_ask_101 : decode cX12_ask 101 = .ok (.invokevirtual 242, 3) := by decide +kernel
theorem dX12_ask_104 : decode cX12_ask 104 = .ok (.iconst (-1), 1) := by decide +kernel
theorem dX12_ask_105 : decode cX12_ask 105 = .ok (.if_icmp .eq 12, 3) := by decide +kernel
theorem dX12_ask_108 : decode cX12_ask 108 = .ok (.aload_n 0, 1) := by decide +kernel
theorem dX12_ask_109 : decode cX12_ask 109 = .ok (.iconst 1, 1) := by decide +kernel
theorem dX12_ask_110 : decode cX12_ask 110 = .ok (.aload_n 0, 1) := by decide +kernel
theorem dX12_ask_111 : decode cX12_ask 111 = .ok (.getfield 236, 3) := by decide +kernel
theorem dX12_ask_114 : decode cX12_ask 114 = .ok (.invokevirtual 260, 3) := by decide +kernel
theorem dX12_ask_117 : decode cX12_ask 117 = .ok (.aload_n 0, 1) := by decide +kernel
theorem dX12_ask_118 : decode cX12_ask 118 = .ok (.aload_n 0, 1) := by decide +kernel
theorem dX12_ask_119 : decode cX12_ask 119 = .ok (.getfield 230, 3) := by decide +kernel
theorem dX12_ask_122 : decode cX12_ask 122 = .ok (.putfield 352, 3) := by decide +kernel
theorem dX12_ask_125 : decode cX12_ask 125 = .ok (.aload_n 0, 1) := by decide +kernel
theorem dX12_ask_126 : decode cX12_ask 126 = .ok (.aload_n 0, 1) := by decide +kernel
theorem dX12_ask_127 : decode cX12_ask 127 = .ok (.getfield 233, 3) := by decide +kernel
theorem dX12_ask_130 : decode cX12_ask 130 = .ok (.putfield 13, 3) := by decide +kernel
theorem dX12_ask_133 : decode cX12_ask 133 = .ok (.aload_n 0, 1) := by decide +kernel
theorem dX12_ask_134 : decode cX12_ask 134 = .ok (.getfield 230, 3) := by decide +kernel
theorem dX12_ask_137 : decode cX12_ask 137 = .ok (.ifCond .eq 7, 3) := by decide +kernel
theorem dX12_ask_140 : decode cX12_ask 140 = .ok (.ldc2_w 476, 3) := by decide +kernel
theorem dX12_ask_143 : decode cX12_ask 143 = .ok (.lreturn, 1) := by decide +kernel
theorem dX12_ask_144 : decode cX12_ask 144 = .ok (.aload_n 0, 1) := by decide +kernel
theorem dX12_ask_145 : decode cX12_ask 145 = .ok (.iload_n 1, 1) := by decide +kernel
theorem dX12_ask_146 : decode cX12_ask 146 = .ok (.iconst 2, 1) := by decide +kernel
theorem dX12_ask_147 : decode cX12_ask 147 = .ok (.if_icmp .ge 9, 3) := by decide +kernel
theorem dX12_ask_150 : decode cX12_ask 150 = .ok (.ldc2_w 626, 3) := by decide +kernel
theorem dX12_ask_153 : decode cX12_ask 153 = .ok (.goto 4, 3) := by decide +kernel
theorem dX12_ask_156 : decode cX12_ask 156 = .ok (.lconst 0, 1) := by decide +kernel
theorem dX12_ask_157 : decode cX12_ask 157 = .ok (.putfield 623, 3) := by decide +kernel
theorem dX12_ask_160 : decode cX12_ask 160 = .ok (.aload_n 0, 1) := by decide +kernel
theorem dX12_ask_161 : decode cX12_ask 161 = .ok (.iconst 1, 1) := by decide +kernel
theorem dX12_ask_162 : decode cX12_ask 162 = .ok (.putfield 628, 3) := by decide +kernel
theorem dX12_ask_165 : decode cX12_ask 165 = .ok (.aload_n 0, 1) := by decide +kernel
theorem dX12_ask_166 : decode cX12_ask 166 = .ok (.iconst 0, 1) := by decide +kernel
theorem dX12_ask_167 : decode cX12_ask 167 = .ok (.invokevirtual 478, 3) := by decide +kernel
theorem dX12_ask_170 : decode cX12_ask 170 = .ok (.iconst 0, 1) := by decide +kernel
theorem dX12_ask_171 : decode cX12_ask 171 = .ok (.istore_n 2, 1) := by decide +kernel
theorem dX12_ask_172 : decode cX12_ask 172 = .ok (.iload_n 2, 1) := by decide +kernel
theorem dX12_ask_173 : decode cX12_ask 173 = .ok (.aload_n 0, 1) := by decide +kernel
theorem dX12_ask_174 : decode cX12_ask 174 = .ok (.invokevirtual 367, 3) := by decide +kernel
theorem dX12_ask_177 : decode cX12_ask 177 = .ok (.if_icmp .ge 141, 3) := by decide +kernel
theorem dX12_ask_180 : decode cX12_ask 180 = .ok (.aload_n 0, 1) := by decide +kernel
theorem dX12_ask_181 : decode cX12_ask 181 = .ok (.getfield 422, 3) := by decide +kernel
theorem dX12_ask_184 : decode cX12_ask 184 = .ok (.lconst 0, 1) := by decide +kernel
theorem dX12_ask_185 : decode cX12_ask 185 = .ok (.lcmp, 1) := by decide +kernel
theorem dX12_ask_186 : decode cX12_ask 186 = .ok (.ifCond .le 15, 3) := by decide +kernel
theorem dX12_ask_189 : decode cX12_ask 189 = .ok (.aload_n 0, 1) := by decide +kernel
theorem dX12_ask_190 : decode cX12_ask 190 = .ok (.iload_n 2, 1) := by decide +kernel
theorem dX12_ask_191 : decode cX12_ask 191 = .ok (.invokevirtual 400, 3) := by decide +kernel
theorem dX12_ask_194 : decode cX12_ask 194 = .ok (.ifCond .ne 7, 3) := by decide +kernel
theorem dX12_ask_197 : decode cX12_ask 197 = .ok (.iconst 1, 1) := by decide +kernel
theorem dX12_ask_198 : decode cX12_ask 198 = .ok (.goto 4, 3) := by decide +kernel
theorem dX12_ask_201 : decode cX12_ask 201 = .ok (.iconst 0, 1) := by decide +kernel
theorem dX12_ask_202 : decode cX12_ask 202 = .ok (.istore_n 3, 1) := by decide +kernel
theorem dX12_ask_203 : decode cX12_ask 203 = .ok (.aload_n 0, 1) := by decide +kernel
theorem dX12_ask_204 : decode cX12_ask 204 = .ok (.getfield 127, 3) := by decide +kernel
theorem dX12_ask_207 : decode cX12_ask 207 = .ok (.iload_n 2, 1) := by decide +kernel
theorem dX12_ask_208 : decode cX12_ask 208 = .ok (.iload_n 3, 1) := by decide +kernel
theorem dX12_ask_209 : decode cX12_ask 209 = .ok (.ifCond .eq 13, 3) := by decide +kernel
theorem dX12_ask_212 : decode cX12_ask 212 = .ok (.aload_n 0, 1) := by decide +kernel
theorem dX12_ask_213 : decode cX12_ask 213 = .ok (.iconst 1, 1) := by decide +kernel
theorem dX12_ask_214 : decode cX12_ask 214 = .ok (.iload_n 2, 1) := by decide +kernel
theorem dX12_ask_215 : decode cX12_ask 215 = .ok (.ishl, 1) := by decide +kernel
theorem dX12_ask_216 : decode cX12_ask 216 = .ok (.invokevirtual 449, 3) := by decide +kernel
theorem dX12_ask_219 : decode cX12_ask 219 = .ok (.goto 4, 3) := by decide +kernel
theorem dX12_ask_222 : decode cX12_ask 222 = .ok (.lconst 0, 1) := by decide +kernel
theorem dX12_ask_223 : decode cX12_ask 223 = .ok (.lastore, 1) := by decide +kernel
theorem dX12_ask_224 : decode cX12_ask 224 = .ok (.aload_n 0, 1) := by decide +kernel
theorem dX12_ask_225 : decode cX12_ask 225 = .ok (.getfield 130, 3) := by decide +kernel
theorem dX12_ask_228 : decode cX12_ask 228 = .ok (.iload_n 2, 1) := by decide +kernel
theorem dX12_ask_229 : decode cX12_ask 229 = .ok (.iload_n 3, 1) := by decide +kernel
theorem dX12_ask_230 : decode cX12_ask 230 = .ok (.ifCond .eq 22, 3) := by decide +kernel
theorem dX12_ask_233 : decode cX12_ask 233 = .ok (.aload_n 0, 1) := by decide +kernel
theorem dX12_ask_234 : decode cX12_ask 234 = .ok (.iconst 1, 1) := by decide +kernel
theorem dX12_ask_235 : decode cX12_ask 235 = .ok (.iload_n 2, 1) := by decide +kernel
theorem dX12_ask_236 : decode cX12_ask 236 = .ok (.ishl, 1) := by decide +kernel
theorem dX12_ask_237 : decode cX12_ask 237 = .ok (.invokevirtual 438, 3) := by decide +kernel
theorem dX12_ask_240 : decode cX12_ask 240 = .ok (.aload_n 0, 1) := by decide +kernel
theorem dX12_ask_241 : decode cX12_ask 241 = .ok (.getfield 422, 3) := by decide +kernel
theorem dX12_ask_244 : decode cX12_ask 244 = .ok (.lcmp, 1) := by decide +kernel
theorem dX12_ask_245 : decode cX12_ask 245 = .ok (.ifCond .ne 7, 3) := by decide +kernel
theorem dX12_ask_248 : decode cX12_ask 248 = .ok (.iconst 1, 1) := by decide +kernel
theorem dX12_ask_249 : decode cX12_ask 249 = .ok (.goto 4, 3) := by decide +kernel
theorem dX12_ask_252 : decode cX12_ask 252 = .ok (.iconst 0, 1) := by decide +kernel
theorem dX12_ask_253 : decode cX12_ask 253 = .ok (.iastore, 1) := by decide +kernel
theorem dX12_ask_254 : decode cX12_ask 254 = .ok (.iconst 0, 1) := by decide +kernel
theorem dX12_ask_255 : decode cX12_ask 255 = .ok (.istore 4, 2) := by decide +kernel
theorem dX12_ask_257 : decode cX12_ask 257 = .ok (.iload 4, 2) := by decide +kernel
theorem dX12_ask_259 : decode cX12_ask 259 = .ok (.aload_n 0, 1) := by decide +kernel
theorem dX12_ask_260 : decode cX12_ask 260 = .ok (.invokevirtual 364, 3) := by decide +kernel
theorem dX12_ask_263 : decode cX12_ask 263 = .ok (.if_icmp .ge 49, 3) := by decide +kernel
theorem dX12_ask_266 : decode cX12_ask 266 = .ok (.aload_n 0, 1) := by decide +kernel
theorem dX12_ask_267 : decode cX12_ask 267 = .ok (.getfield 124, 3) := by decide +kernel
theorem dX12_ask_270 : decode cX12_ask 270 = .ok (.bipush 6, 2) := by decide +kernel
theorem dX12_ask_272 : decode cX12_ask 272 = .ok (.iload_n 2, 1) := by decide +kernel
theorem dX12_ask_273 : decode cX12_ask 273 = .ok (.imul, 1) := by decide +kernel
theorem dX12_ask_274 : decode cX12_ask 274 = .ok (.iload 4, 2) := by decide +kernel
theorem dX12_ask_276 : decode cX12_ask 276 = .ok (.iadd, 1) := by decide +kernel
theorem dX12_ask_277 : decode cX12_ask 277 = .ok (.aload_n 0, 1) := by decide +kernel
theorem dX12_ask_278 : decode cX12_ask 278 = .ok (.getfield 121, 3) := by decide +kernel
theorem dX12_ask_281 : decode cX12_ask 281 = .ok (.bipush 36, 2) := by decide +kernel
theorem dX12_ask_283 : decode cX12_ask 283 = .ok (.bipush 6, 2) := by decide +kernel
theorem dX12_ask_285 : decode cX12_ask 285 = .ok (.iload_n 2, 1) := by decide +kernel
theorem dX12_ask_286 : decode cX12_ask 286 = .ok (.imul, 1) := by decide +kernel
theorem dX12_ask_287 : decode cX12_ask 287 = .ok (.iadd, 1) := by decide +kernel
theorem dX12_ask_288 : decode cX12_ask 288 = .ok (.iload 4, 2) := by decide +kernel
theorem dX12_ask_290 : decode cX12_ask 290 = .ok (.iadd, 1) := by decide +kernel
theorem dX12_ask_291 : decode cX12_ask 291 = .ok (.iaload, 1) := by decide +kernel
theorem dX12_ask_292 : decode cX12_ask 292 = .ok (.aload_n 0, 1) := by decide +kernel
theorem dX12_ask_293 : decode cX12_ask 293 = .ok (.getfield 121, 3) := by decide +kernel
theorem dX12_ask_296 : decode cX12_ask 296 = .ok (.bipush 6, 2) := by decide +kernel
theorem dX12_ask_298 : decode cX12_ask 298 = .ok (.iload_n 2, 1) := by decide +kernel
theorem dX12_ask_299 : decode cX12_ask 299 = .ok (.imul, 1) := by decide +kernel
theorem dX12_ask_300 : decode cX12_ask 300 = .ok (.iload 4, 2) := by decide +kernel
theorem dX12_ask_302 : decode cX12_ask 302 = .ok (.iadd, 1) := by decide +kernel
theorem dX12_ask_303 : decode cX12_ask 303 = .ok (.iaload, 1) := by decide +kernel
theorem dX12_ask_304 : decode cX12_ask 304 = .ok (.iadd, 1) := by decide +kernel
theorem dX12_ask_305 : decode cX12_ask 305 = .ok (.iastore, 1) := by decide +kernel
theorem dX12_ask_306 : decode cX12_ask 306 = .ok (.iinc 4 1, 3) := by decide +kernel
theorem dX12_ask_309 : decode cX12_ask 309 = .ok (.goto (-52), 3) := by decide +kernel
theorem dX12_ask_312 : decode cX12_ask 312 = .ok (.iinc 2 1, 3) := by decide +kernel
theorem dX12_ask_315 : decode cX12_ask 315 = .ok (.goto (-143), 3) := by decide +kernel
theorem dX12_ask_318 : decode cX12_ask 318 = .ok (.aload_n 0, 1) := by decide +kernel
theorem dX12_ask_319 : decode cX12_ask 319 = .ok (.iconst 0, 1) := by decide +kernel
theorem dX12_ask_320 : decode cX12_ask 320 = .ok (.putfield 285, 3) := by decide +kernel
theorem dX12_ask_323 : decode cX12_ask 323 = .ok (.iconst 0, 1) := by decide +kernel
theorem dX12_ask_324 : decode cX12_ask 324 = .ok (.istore_n 2, 1) := by decide +kernel
theorem dX12_ask_325 : decode cX12_ask 325 = .ok (.iload_n 2, 1) := by decide +kernel
theorem dX12_ask_326 : decode cX12_ask 326 = .ok (.aload_n 0, 1) := by decide +kernel
theorem dX12_ask_327 : decode cX12_ask 327 = .ok (.invokevirtual 367, 3) := by decide +kernel
theorem dX12_ask_330 : decode cX12_ask 330 = .ok (.if_icmp .ge 20, 3) := by decide +kernel
theorem dX12_ask_333 : decode cX12_ask 333 = .ok (.aload_n 0, 1) := by decide +kernel
theorem dX12_ask_334 : decode cX12_ask 334 = .ok (.iload_n 1, 1) := by decide +kernel
theorem dX12_ask_335 : decode cX12_ask 335 = .ok (.aload_n 0, 1) := by decide +kernel
theorem dX12_ask_336 : decode cX12_ask 336 = .ok (.iload_n 2, 1) := by decide +kernel
theorem dX12_ask_337 : decode cX12_ask 337 = .ok (.invokevirtual 634, 3) := by decide +kernel
theorem dX12_ask_340 : decode cX12_ask 340 = .ok (.iload_n 2, 1) := by decide +kernel
theorem dX12_ask_341 : decode cX12_ask 341 = .ok (.invokevirtual 637, 3) := by decide +kernel
theorem dX12_ask_344 : decode cX12_ask 344 = .ok (.iinc 2 1, 3) := by decide +kernel
theorem dX12_ask_347 : decode cX12_ask 347 = .ok (.goto (-22), 3) := by decide +kernel
theorem dX12_ask_350 : decode cX12_ask 350 = .ok (.aload_n 0, 1) := by decide +kernel
theorem dX12_ask_351 : decode cX12_ask 351 = .ok (.getfield 623, 3) := by decide +kernel
theorem dX12_ask_354 : decode cX12_ask 354 = .ok (.lreturn, 1) := by decide +kernel
theorem kc_RX12_631 : Cond.methodLink RX12 631 yX12_qKind ∈ ktG ∧ (Cond.instanceMethod yX12_qKind ∈ ktG ∧ Cond.selects yX12_qKind.cls yX12_qKind yX12_qKind ∈ ktG) ∧ Cond.initialized yX12_qKind.cls ∈ ktG ∧ Cond.code yX12_qKind cX12_qKind 2 (some .int) ∈ ktG := ⟨(kwm 1968 (by decide +kernel) (by decide +kernel)), ⟨(kwm 1970 (by decide +kernel) (by decide +kernel)), (kwm 114 (by decide +kernel) (by decide +kernel))⟩, (kwm 139 (by decide +kernel) (by decide +kernel)), kwm 1971 (by decide +kernel) (by decide +kernel)⟩
theorem kh_X12_qKind : yX12_qKind.cls ≠ "java/lang/invoke/MethodHandle" ∧ yX12_qKind.cls ≠ "java/lang/invoke/VarHandle" ∧ (parseMethodDescriptor yX12_qKind.desc).map (fun d => d.parameters.length) = some 0 := by decide +kernel
theorem kc_RX12_634 : Cond.methodLink RX12 634 yX12_qTold ∈ ktG ∧ (Cond.instanceMethod yX12_qTold ∈ ktG ∧ Cond.selects yX12_qTold.cls yX12_qTold yX12_qTold ∈ ktG) ∧ Cond.initialized yX12_qTold.cls ∈ ktG ∧ Cond.code yX12_qTold cX12_qTold 4 (some .long) ∈ ktG := ⟨(kwm 1973 (by decide +kernel) (by decide +kernel)), ⟨(kwm 1975 (by decide +kernel) (by decide +kernel)), (kwm 115 (by decide +kernel) (by decide +kernel))⟩, (kwm 139 (by decide +kernel) (by decide +kernel)), kwm 1976 (by decide +kernel) (by decide +kernel)⟩
theorem kh_X12_qTold : yX12_qTold.cls ≠ "java/lang/invoke/MethodHandle" ∧ yX12_qTold.cls ≠ "java/lang/invoke/VarHandle" ∧ (parseMethodDescriptor yX12_qTold.desc).map (fun d => d.parameters.length) = some 1 := by decide +kernel
theorem kc_RX12_637 : Cond.methodLink RX12 637 yX12_qTakes ∈ ktG ∧ (Cond.instanceMethod yX12_qTakes ∈ ktG ∧ Cond.selects yX12_qTakes.cls yX12_qTakes yX12_qTakes ∈ ktG) ∧ Cond.initialized yX12_qTakes.cls ∈ ktG ∧ Cond.code yX12_qTakes cX12_qTakes 6 none ∈ ktG := ⟨(kwm 1981 (by decide +kernel) (by decide +kernel)), ⟨(kwm 1983 (by decide +kernel) (by decide +kernel)), (kwm 117 (by decide +kernel) (by decide +kernel))⟩, (kwm 139 (by decide +kernel) (by decide +kernel)), kwm 1984 (by decide +kernel) (by decide +kernel)⟩
theorem kh_X12_qTakes : yX12_qTakes.cls ≠ "java/lang/invoke/MethodHandle" ∧ yX12_qTakes.cls ≠ "java/lang/invoke/VarHandle" ∧ (parseMethodDescriptor yX12_qTakes.desc).map (fun d => d.parameters.length) = some 3 := by decide +kernel
def E_X12_ask_l172 (v0 : Nat) (v1 : Int32) : KH → Nat → List (Nat × Value) → List Value → KH → Prop := fun (e : KH) pc ls st hh => pc = 318 ∧ ls = [(0, .ref v0), (1, .int v1)] ∧ st = [] ∧ e = hh
def B_X12_ask_l172 (v0 : Nat) (v1 : Int32) : ((Int32 × KH) ⊕ (KH)) → Nat → List (Nat × Value) → List Value → KH → Prop := Sum.elim (fun (s : Int32 × KH) pc ls st hh => pc = 172 ∧ ls = [(0, .ref v0), (1, .int v1), (2, .int s.1)] ∧ st = [] ∧ hh = s.2) (E_X12_ask_l172 v0 v1)
def E_X12_ask_l257 (v0 : Nat) (v1 : Int32) (v2 : Int32) : KH → Nat → List (Nat × Value) → List Value → KH → Prop := fun (e : KH) pc ls st hh => pc = 312 ∧ ls = [(0, .ref v0), (1, .int v1), (2, .int v2)] ∧ st = [] ∧ e = hh
def B_X12_ask_l257 (v0 : Nat) (v1 : Int32) (v2 : Int32) : ((Int32 × KH) ⊕ (KH)) → Nat → List (Nat × Value) → List Value → KH → Prop := Sum.elim (fun (s : Int32 × KH) pc ls st hh => pc = 257 ∧ ls = [(0, .ref v0), (1, .int v1), (2, .int v2), (4, .int s.1)] ∧ st = [] ∧ hh = s.2) (E_X12_ask_l257 v0 v1 v2)
def f_X12_ask_l257 (v0 : Nat) (v1 : Int32) (v2 : Int32) (s : Int32 × KH) : Option ((Int32 × KH) ⊕ (KH)) :=
  if kkind v0 = 12 then kb (f_X12_kindMany s.2 v0) fun r2 =>
  if r2 ≤ s.1 then
  some (.inr s.2)
  else
  if (kR s.2 v0 51) < 999999 then if (kR s.2 v0 50) < 999999 then if kkind (kR s.2 v0 50) = 20 then if ((((36 : Int32) + ((6 : Int32) * v2)) + s.1) < 0 ∨ klen (kR s.2 v0 50) ≤ ((((36 : Int32) + ((6 : Int32) * v2)) + s.1)).toNatClampNeg) then none else if ((((6 : Int32) * v2) + s.1) < 0 ∨ klen (kR s.2 v0 50) ≤ ((((6 : Int32) * v2) + s.1)).toNatClampNeg) then none else if kkind (kR s.2 v0 51) = 20 then if ((((6 : Int32) * v2) + s.1) < 0 ∨ klen (kR s.2 v0 51) ≤ ((((6 : Int32) * v2) + s.1)).toNatClampNeg) then none else kl (ksI s.2 (kR s.2 v0 51) (((((6 : Int32) * v2) + s.1)).toNatClampNeg) ((kI s.2 (kR s.2 v0 50) (((((36 : Int32) + ((6 : Int32) * v2)) + s.1)).toNatClampNeg)) + (kI s.2 (kR s.2 v0 50) (((((6 : Int32) * v2) + s.1)).toNatClampNeg)))) fun h13 =>
  kl (s.1 + (1 : Int32)) fun x16 =>
  some (.inl (x16, h13)) else none else none else none else none else none
set_option maxHeartbeats 4000000 in
set_option maxRecDepth 100000 in
theorem s_X12_ask_l257 {Z : Nat → (Nat → Nat) → State → Prop} (v0 : Nat) (v1 : Int32) (v2 : Int32) (s : Int32 × KH) (t : (Int32 × KH) ⊕ (KH)) (hn : (s.2).1 = 243) (H : f_X12_ask_l257 v0 v1 v2 s = some t) : KX Z RX12 cX12_ask 5 false 10 (B_X12_ask_l257 v0 v1 v2 t) 257 [(0, .ref v0), (1, .int v1), (2, .int v2), (4, .int s.1)] [] s.2 := by
  unfold f_X12_ask_l257 at H
  refine x_iload (q := 259) dX12_ask_257 rfl rfl ?_
  refine x_aload_n (q := 260) dX12_ask_259 rfl rfl ?_
  replace H := kif H; obtain ⟨g1, H⟩ := H
  replace H := kbe H; obtain ⟨r2, c3, H⟩ := H
  have m4 := s_X12_kindMany (Z := Z) s.2 v0 hn c3
  refine x_callV (q := 263) (as := []) (rest := [.int s.1]) dX12_ask_260 rfl kc_RX12_364 kh_X12_kindMany (by decide) (Nat.le_of_ble_eq_true rfl) m4 (ci := 12) (by exact ⟨rfl, by decide⟩) (k243 g1 (by decide) hn) ?_
  replace H := kite H; rcases H with ⟨g5, H⟩ | ⟨g5, H⟩
  · refine x_icmp_ge_t dX12_ask_263 (q := 312) (by decide) g5 ?_
    cases H
    refine x_sub (ls2 := [(0, .ref v0), (1, .int v1), (2, .int v2)]) [0, 1, 2] rfl ?_
    exact x_end (x_cfg rfl)
  · refine x_icmp_ge_f (q := 266) dX12_ask_263 (t := 312) (by decide) rfl g5 ?_
    refine x_aload_n (q := 267) dX12_ask_266 rfl rfl ?_
    replace H := kif H; obtain ⟨g6, H⟩ := H
    refine x_getR (q := 270) dX12_ask_267 rfl kl_RX12_124 rfl (k243 g1 (by decide) hn) g6 ?_
    refine x_bipush (q := 272) (v := (6 : Int32)) dX12_ask_270 rfl (by decide) ?_
    refine x_iload_n (q := 273) dX12_ask_272 rfl rfl ?_
    refine x_imul (q := 274) dX12_ask_273 rfl ?_
    refine x_iload (q := 276) dX12_ask_274 rfl rfl ?_
    refine x_iadd (q := 277) dX12_ask_276 rfl ?_
    refine x_aload_n (q := 278) dX12_ask_277 rfl rfl ?_
    replace H := kif H; obtain ⟨g7, H⟩ := H
    refine x_getR (q := 281) dX12_ask_278 rfl kl_RX12_121 rfl (k243 g1 (by decide) hn) g7 ?_
    refine x_bipush (q := 283) (v := (36 : Int32)) dX12_ask_281 rfl (by decide) ?_
    refine x_bipush (q := 285) (v := (6 : Int32)) dX12_ask_283 rfl (by decide) ?_
    refine x_iload_n (q := 286) dX12_ask_285 rfl rfl ?_
    refine x_imul (q := 287) dX12_ask_286 rfl ?_
    refine x_iadd (q := 288) dX12_ask_287 rfl ?_
    refine x_iload (q := 290) dX12_ask_288 rfl rfl ?_
    refine x_iadd (q := 291) dX12_ask_290 rfl ?_
    replace H := kif H; obtain ⟨g8, H⟩ := H
    replace H := kifn H; obtain ⟨g9, H⟩ := H
    refine x_iald (q := 292) dX12_ask_291 rfl (k243 g8 (by decide) hn) g9 ?_
    refine x_aload_n (q := 293) dX12_ask_292 rfl rfl ?_
    refine x_getR (q := 296) dX12_ask_293 rfl kl_RX12_121 rfl (k243 g1 (by decide) hn) g7 ?_
    refine x_bipush (q := 298) (v := (6 : Int32)) dX12_ask_296 rfl (by decide) ?_
    refine x_iload_n (q := 299) dX12_ask_298 rfl rfl ?_
    refine x_imul (q := 300) dX12_ask_299 rfl ?_
    refine x_iload (q := 302) dX12_ask_300 rfl rfl ?_
    refine x_iadd (q := 303) dX12_ask_302 rfl ?_
    replace H := kifn H; obtain ⟨g10, H⟩ := H
    refine x_iald (q := 304) dX12_ask_303 rfl (k243 g8 (by decide) hn) g10 ?_
    refine x_iadd (q := 305) dX12_ask_304 rfl ?_
    replace H := kif H; obtain ⟨g11, H⟩ := H
    replace H := kifn H; obtain ⟨g12, H⟩ := H
    replace H := kle H; obtain ⟨h13, q14, H⟩ := H
    refine x_iast (q := 306) dX12_ask_305 rfl (k243 g11 (by decide) hn) g12 ?_
    refine x_nmH q14 ?_
    have n15 : h13.1 = 243 := by rw [q14]; exact hn
    replace H := kle H; obtain ⟨x16, q17, H⟩ := H
    refine x_iinc (q := 309) (i := 4) (ls2 := [(4, .int x16), (0, .ref v0), (1, .int v1), (2, .int v2)]) dX12_ask_306 rfl rfl (by decide) (by rw [q17]; rfl) ?_
    refine x_goto dX12_ask_309 (q := 257) (by decide) ?_
    cases H
    refine x_sub (ls2 := [(0, .ref v0), (1, .int v1), (2, .int v2), (4, .int x16)]) [1, 2, 3, 0] rfl ?_
    exact x_end (x_cfg rfl)
theorem sl_X12_ask_l257 {Z : Nat → (Nat → Nat) → State → Prop} (v0 : Nat) (v1 : Int32) (v2 : Int32) (n : Nat) (s : Int32 × KH) (r : KH) (hn : (s.2).1 = 243) (H : kloop (f_X12_ask_l257 v0 v1 v2) n s = some r) : KX Z RX12 cX12_ask 5 false 10 (E_X12_ask_l257 v0 v1 v2 r) 257 [(0, .ref v0), (1, .int v1), (2, .int v2), (4, .int s.1)] [] s.2 :=
  k_loop (ls := (fun (s : Int32 × KH) => ([(0, .ref v0), (1, .int v1), (2, .int v2), (4, .int s.1)] : List (Nat × Value)))) (hp := (fun (s : Int32 × KH) => (s.2 : KH))) (G := E_X12_ask_l257 v0 v1 v2) (fun s t hn H => s_X12_ask_l257 v0 v1 v2 s t hn H) n s r hn H
def f_X12_ask_b253 (h : KH) (v0 : Nat) (v1 : Int32) (v2 : Int32) (w0 : Nat) (w1 : Int32) (w2 : Int32) : Option ((Int32 × KH) ⊕ (KH)) :=
  if kkind w0 = 20 then if (w1 < 0 ∨ klen w0 ≤ (w1).toNatClampNeg) then none else kl (ksI h w0 ((w1).toNatClampNeg) w2) fun h3 =>
  kb (kloop (f_X12_ask_l257 v0 v1 v2) KF ((0 : Int32), h3)) fun e6 =>
  kl (v2 + (1 : Int32)) fun x9 =>
  some (.inl (x9, e6)) else none
set_option maxHeartbeats 4000000 in
set_option maxRecDepth 100000 in
theorem s_X12_ask_b253 {Z : Nat → (Nat → Nat) → State → Prop} (h : KH) (v0 : Nat) (v1 : Int32) (v2 : Int32) (w0 : Nat) (w1 : Int32) (w2 : Int32) {t : (Int32 × KH) ⊕ (KH)} (hn : h.1 = 243) (H : f_X12_ask_b253 h v0 v1 v2 w0 w1 w2 = some t) : KX Z RX12 cX12_ask 5 false 10 (B_X12_ask_l172 v0 v1 t) 253 [(0, .ref v0), (1, .int v1), (2, .int v2)] [.int w2, .int w1, .ref w0] h := by
  unfold f_X12_ask_b253 at H
  replace H := kif H; obtain ⟨g1, H⟩ := H
  replace H := kifn H; obtain ⟨g2, H⟩ := H
  replace H := kle H; obtain ⟨h3, q4, H⟩ := H
  refine x_iast (q := 254) dX12_ask_253 rfl (k243 g1 (by decide) hn) g2 ?_
  refine x_nmH q4 ?_
  have n5 : h3.1 = 243 := by rw [q4]; exact hn
  refine x_iconst (q := 255) (v := (0 : Int32)) dX12_ask_254 rfl (by decide) ?_
  refine x_istore (q := 257) (i := 4) (ls2 := [(4, .int (0 : Int32)), (0, .ref v0), (1, .int v1), (2, .int v2)]) dX12_ask_255 rfl (by decide) rfl ?_
  refine x_sub (ls2 := [(0, .ref v0), (1, .int v1), (2, .int v2), (4, .int (0 : Int32))]) [1, 2, 3, 0] rfl ?_
  replace H := kbe H; obtain ⟨e6, c7, H⟩ := H
  refine x_app (sl_X12_ask_l257 v0 v1 v2 KF ((0 : Int32), h3) e6 n5 c7) fun pc2 ls2 st2 h2 hg m8 => ?_
  obtain ⟨rfl, rfl, rfl, rfl⟩ := hg
  replace H := kle H; obtain ⟨x9, q10, H⟩ := H
  refine x_iinc (q := 315) (i := 2) (ls2 := [(2, .int x9), (0, .ref v0), (1, .int v1)]) dX12_ask_312 rfl rfl (by decide) (by rw [q10]; rfl) ?_
  refine x_goto dX12_ask_315 (q := 172) (by decide) ?_
  cases H
  refine x_sub (ls2 := [(0, .ref v0), (1, .int v1), (2, .int x9)]) [1, 2, 0] rfl ?_
  exact x_end (x_cfg rfl)
def f_X12_ask_b252 (h : KH) (v0 : Nat) (v1 : Int32) (v2 : Int32) (w0 : Nat) (w1 : Int32) : Option ((Int32 × KH) ⊕ (KH)) :=
  f_X12_ask_b253 h v0 v1 v2 w0 w1 (0 : Int32)
set_option maxHeartbeats 4000000 in
set_option maxRecDepth 100000 in
theorem s_X12_ask_b252 {Z : Nat → (Nat → Nat) → State → Prop} (h : KH) (v0 : Nat) (v1 : Int32) (v2 : Int32) (w0 : Nat) (w1 : Int32) {t : (Int32 × KH) ⊕ (KH)} (hn : h.1 = 243) (H : f_X12_ask_b252 h v0 v1 v2 w0 w1 = some t) : KX Z RX12 cX12_ask 5 false 10 (B_X12_ask_l172 v0 v1 t) 252 [(0, .ref v0), (1, .int v1), (2, .int v2)] [.int w1, .ref w0] h := by
  unfold f_X12_ask_b252 at H
  refine x_iconst (q := 253) (v := (0 : Int32)) dX12_ask_252 rfl (by decide) ?_
  refine x_sub (ls2 := [(0, .ref v0), (1, .int v1), (2, .int v2)]) [0, 1, 2] rfl ?_
  exact s_X12_ask_b253 h v0 v1 v2 w0 w1 (0 : Int32) hn H
def f_X12_ask_b223 (h : KH) (v0 : Nat) (v1 : Int32) (v2 : Int32) (v3 : Int32) (w0 : Nat) (w1 : Int32) (w2 : Int64) : Option ((Int32 × KH) ⊕ (KH)) :=
  if kkind w0 = 21 then if (w1 < 0 ∨ klen w0 ≤ (w1).toNatClampNeg) then none else kl (ksL h w0 ((w1).toNatClampNeg) w2) fun h3 =>
  if kkind v0 = 12 then if (kR h3 v0 53) < 999999 then if v3 = 0 then
  f_X12_ask_b252 h3 v0 v1 v2 (kR h3 v0 53) v2
  else
  kb (f_X12_rightBy h3 v0 ((1 : Int32) <<< (v2 &&& 31))) fun r9 =>
  if (lg_cmp r9.1 (kL r9.2 v0 56)) = 0 then
  f_X12_ask_b253 r9.2 v0 v1 v2 (kR h3 v0 53) v2 (1 : Int32)
  else
  f_X12_ask_b252 r9.2 v0 v1 v2 (kR h3 v0 53) v2 else none else none else none
set_option maxHeartbeats 4000000 in
set_option maxRecDepth 100000 in
theorem s_X12_ask_b223 {Z : Nat → (Nat → Nat) → State → Prop} (h : KH) (v0 : Nat) (v1 : Int32) (v2 : Int32) (v3 : Int32) (w0 : Nat) (w1 : Int32) (w2 : Int64) {t : (Int32 × KH) ⊕ (KH)} (hn : h.1 = 243) (H : f_X12_ask_b223 h v0 v1 v2 v3 w0 w1 w2 = some t) : KX Z RX12 cX12_ask 5 false 10 (B_X12_ask_l172 v0 v1 t) 223 [(0, .ref v0), (1, .int v1), (2, .int v2), (3, .int v3)] [.long w2, .int w1, .ref w0] h := by
  unfold f_X12_ask_b223 at H
  replace H := kif H; obtain ⟨g1, H⟩ := H
  replace H := kifn H; obtain ⟨g2, H⟩ := H
  replace H := kle H; obtain ⟨h3, q4, H⟩ := H
  refine x_last (q := 224) dX12_ask_223 rfl (k243 g1 (by decide) hn) g2 ?_
  refine x_nmH q4 ?_
  have n5 : h3.1 = 243 := by rw [q4]; exact hn
  refine x_aload_n (q := 225) dX12_ask_224 rfl rfl ?_
  replace H := kif H; obtain ⟨g6, H⟩ := H
  replace H := kif H; obtain ⟨g7, H⟩ := H
  refine x_getR (q := 228) dX12_ask_225 rfl kl_RX12_130 rfl (k243 g6 (by decide) n5) g7 ?_
  refine x_iload_n (q := 229) dX12_ask_228 rfl rfl ?_
  refine x_iload_n (q := 230) dX12_ask_229 rfl rfl ?_
  replace H := kite H; rcases H with ⟨g8, H⟩ | ⟨g8, H⟩
  · refine x_if_eq_t dX12_ask_230 (q := 252) (by decide) g8 ?_
    refine x_sub (ls2 := [(0, .ref v0), (1, .int v1), (2, .int v2)]) [0, 1, 2] rfl ?_
    exact s_X12_ask_b252 h3 v0 v1 v2 (kR h3 v0 53) v2 n5 H
  · refine x_if_eq_f (q := 233) dX12_ask_230 (t := 252) (by decide) rfl g8 ?_
    refine x_aload_n (q := 234) dX12_ask_233 rfl rfl ?_
    refine x_iconst (q := 235) (v := (1 : Int32)) dX12_ask_234 rfl (by decide) ?_
    refine x_iload_n (q := 236) dX12_ask_235 rfl rfl ?_
    refine x_ishl (q := 237) dX12_ask_236 rfl ?_
    replace H := kbe H; obtain ⟨r9, c10, H⟩ := H
    have m11 := s_X12_rightBy (Z := Z) h3 v0 ((1 : Int32) <<< (v2 &&& 31)) n5 c10
    refine x_callV (q := 240) (as := [.int ((1 : Int32) <<< (v2 &&& 31))]) (rest := [.int v2, .ref (kR h3 v0 53)]) dX12_ask_237 rfl kc_RX12_438 kh_X12_rightBy (by decide) (Nat.le_of_ble_eq_true rfl) m11 (ci := 12) (by exact ⟨rfl, by decide⟩) (k243 g6 (by decide) n5) ?_
    have n12 : (r9.2).1 = 243 := m11.1.full n5
    refine x_aload_n (q := 241) dX12_ask_240 rfl rfl ?_
    refine x_getL (q := 244) dX12_ask_241 rfl kl_RX12_422 rfl (k243 g6 (by decide) n12) ?_
    refine x_lcmp (q := 245) dX12_ask_244 rfl ?_
    replace H := kite H; rcases H with ⟨g13, H⟩ | ⟨g13, H⟩
    · refine x_if_ne_f (q := 248) dX12_ask_245 (t := 252) (by decide) rfl g13 ?_
      refine x_iconst (q := 249) (v := (1 : Int32)) dX12_ask_248 rfl (by decide) ?_
      refine x_goto dX12_ask_249 (q := 253) (by decide) ?_
      refine x_sub (ls2 := [(0, .ref v0), (1, .int v1), (2, .int v2)]) [0, 1, 2] rfl ?_
      exact s_X12_ask_b253 r9.2 v0 v1 v2 (kR h3 v0 53) v2 (1 : Int32) n12 H
    · refine x_if_ne_t dX12_ask_245 (q := 252) (by decide) g13 ?_
      refine x_sub (ls2 := [(0, .ref v0), (1, .int v1), (2, .int v2)]) [0, 1, 2] rfl ?_
      exact s_X12_ask_b252 r9.2 v0 v1 v2 (kR h3 v0 53) v2 n12 H
def f_X12_ask_b202 (h : KH) (v0 : Nat) (v1 : Int32) (v2 : Int32) (w0 : Int32) : Option ((Int32 × KH) ⊕ (KH)) :=
  if kkind v0 = 12 then if (kR h v0 52) < 999999 then if w0 = 0 then
  f_X12_ask_b223 h v0 v1 v2 w0 (kR h v0 52) v2 (0 : Int64)
  else
  kb (f_X12_meritOf h v0 ((1 : Int32) <<< (v2 &&& 31))) fun r4 =>
  f_X12_ask_b223 r4.2 v0 v1 v2 w0 (kR h v0 52) v2 r4.1 else none else none
set_option maxHeartbeats 4000000 in
set_option maxRecDepth 100000 in
theorem s_X12_ask_b202 {Z : Nat → (Nat → Nat) → State → Prop} (h : KH) (v0 : Nat) (v1 : Int32) (v2 : Int32) (w0 : Int32) {t : (Int32 × KH) ⊕ (KH)} (hn : h.1 = 243) (H : f_X12_ask_b202 h v0 v1 v2 w0 = some t) : KX Z RX12 cX12_ask 5 false 10 (B_X12_ask_l172 v0 v1 t) 202 [(0, .ref v0), (1, .int v1), (2, .int v2)] [.int w0] h := by
  unfold f_X12_ask_b202 at H
  refine x_istore_n (q := 203) (i := 3) (ls2 := [(3, .int w0), (0, .ref v0), (1, .int v1), (2, .int v2)]) dX12_ask_202 rfl rfl (by decide) rfl ?_
  refine x_aload_n (q := 204) dX12_ask_203 rfl rfl ?_
  replace H := kif H; obtain ⟨g1, H⟩ := H
  replace H := kif H; obtain ⟨g2, H⟩ := H
  refine x_getR (q := 207) dX12_ask_204 rfl kl_RX12_127 rfl (k243 g1 (by decide) hn) g2 ?_
  refine x_iload_n (q := 208) dX12_ask_207 rfl rfl ?_
  refine x_iload_n (q := 209) dX12_ask_208 rfl rfl ?_
  replace H := kite H; rcases H with ⟨g3, H⟩ | ⟨g3, H⟩
  · refine x_if_eq_t dX12_ask_209 (q := 222) (by decide) g3 ?_
    refine x_lconst (q := 223) (v := (0 : Int64)) dX12_ask_222 rfl (by decide) ?_
    refine x_sub (ls2 := [(0, .ref v0), (1, .int v1), (2, .int v2), (3, .int w0)]) [1, 2, 3, 0] rfl ?_
    exact s_X12_ask_b223 h v0 v1 v2 w0 (kR h v0 52) v2 (0 : Int64) hn H
  · refine x_if_eq_f (q := 212) dX12_ask_209 (t := 222) (by decide) rfl g3 ?_
    refine x_aload_n (q := 213) dX12_ask_212 rfl rfl ?_
    refine x_iconst (q := 214) (v := (1 : Int32)) dX12_ask_213 rfl (by decide) ?_
    refine x_iload_n (q := 215) dX12_ask_214 rfl rfl ?_
    refine x_ishl (q := 216) dX12_ask_215 rfl ?_
    replace H := kbe H; obtain ⟨r4, c5, H⟩ := H
    have m6 := s_X12_meritOf (Z := Z) h v0 ((1 : Int32) <<< (v2 &&& 31)) hn c5
    refine x_callV (q := 219) (as := [.int ((1 : Int32) <<< (v2 &&& 31))]) (rest := [.int v2, .ref (kR h v0 52)]) dX12_ask_216 rfl kc_RX12_449 kh_X12_meritOf (by decide) (Nat.le_of_ble_eq_true rfl) m6 (ci := 12) (by exact ⟨rfl, by decide⟩) (k243 g1 (by decide) hn) ?_
    have n7 : (r4.2).1 = 243 := m6.1.full hn
    refine x_goto dX12_ask_219 (q := 223) (by decide) ?_
    refine x_sub (ls2 := [(0, .ref v0), (1, .int v1), (2, .int v2), (3, .int w0)]) [1, 2, 3, 0] rfl ?_
    exact s_X12_ask_b223 r4.2 v0 v1 v2 w0 (kR h v0 52) v2 r4.1 n7 H
def f_X12_ask_b201 (h : KH) (v0 : Nat) (v1 : Int32) (v2 : Int32) : Option ((Int32 × KH) ⊕ (KH)) :=
  f_X12_ask_b202 h v0 v1 v2 (0 : Int32)
set_option maxHeartbeats 4000000 in
set_option maxRecDepth 100000 in
theorem s_X12_ask_b201 {Z : Nat → (Nat → Nat) → State → Prop} (h : KH) (v0 : Nat) (v1 : Int32) (v2 : Int32) {t : (Int32 × KH) ⊕ (KH)} (hn : h.1 = 243) (H : f_X12_ask_b201 h v0 v1 v2 = some t) : KX Z RX12 cX12_ask 5 false 10 (B_X12_ask_l172 v0 v1 t) 201 [(0, .ref v0), (1, .int v1), (2, .int v2)] [] h := by
  unfold f_X12_ask_b201 at H
  refine x_iconst (q := 202) (v := (0 : Int32)) dX12_ask_201 rfl (by decide) ?_
  refine x_sub (ls2 := [(0, .ref v0), (1, .int v1), (2, .int v2)]) [0, 1, 2] rfl ?_
  exact s_X12_ask_b202 h v0 v1 v2 (0 : Int32) hn H
def f_X12_ask_l172 (v0 : Nat) (v1 : Int32) (s : Int32 × KH) : Option ((Int32 × KH) ⊕ (KH)) :=
  if kkind v0 = 12 then kb (f_X12_testMany s.2 v0) fun r2 =>
  if r2 ≤ s.1 then
  some (.inr s.2)
  else
  if (lg_cmp (kL s.2 v0 56) (0 : Int64)) ≤ 0 then
  f_X12_ask_b201 s.2 v0 v1 s.1
  else
  kb (f_X12_stateOf s.2 v0 s.1) fun r7 =>
  if r7 = 0 then
  f_X12_ask_b202 s.2 v0 v1 s.1 (1 : Int32)
  else
  f_X12_ask_b201 s.2 v0 v1 s.1 else none
set_option maxHeartbeats 4000000 in
set_option maxRecDepth 100000 in
theorem s_X12_ask_l172 {Z : Nat → (Nat → Nat) → State → Prop} (v0 : Nat) (v1 : Int32) (s : Int32 × KH) (t : (Int32 × KH) ⊕ (KH)) (hn : (s.2).1 = 243) (H : f_X12_ask_l172 v0 v1 s = some t) : KX Z RX12 cX12_ask 5 false 10 (B_X12_ask_l172 v0 v1 t) 172 [(0, .ref v0), (1, .int v1), (2, .int s.1)] [] s.2 := by
  unfold f_X12_ask_l172 at H
  refine x_iload_n (q := 173) dX12_ask_172 rfl rfl ?_
  refine x_aload_n (q := 174) dX12_ask_173 rfl rfl ?_
  replace H := kif H; obtain ⟨g1, H⟩ := H
  replace H := kbe H; obtain ⟨r2, c3, H⟩ := H
  have m4 := s_X12_testMany (Z := Z) s.2 v0 hn c3
  refine x_callV (q := 177) (as := []) (rest := [.int s.1]) dX12_ask_174 rfl kc_RX12_367 kh_X12_testMany (by decide) (Nat.le_of_ble_eq_true rfl) m4 (ci := 12) (by exact ⟨rfl, by decide⟩) (k243 g1 (by decide) hn) ?_
  replace H := kite H; rcases H with ⟨g5, H⟩ | ⟨g5, H⟩
  · refine x_icmp_ge_t dX12_ask_177 (q := 318) (by decide) g5 ?_
    cases H
    refine x_sub (ls2 := [(0, .ref v0), (1, .int v1)]) [0, 1] rfl ?_
    exact x_end (x_cfg rfl)
  · refine x_icmp_ge_f (q := 180) dX12_ask_177 (t := 318) (by decide) rfl g5 ?_
    refine x_aload_n (q := 181) dX12_ask_180 rfl rfl ?_
    refine x_getL (q := 184) dX12_ask_181 rfl kl_RX12_422 rfl (k243 g1 (by decide) hn) ?_
    refine x_lconst (q := 185) (v := (0 : Int64)) dX12_ask_184 rfl (by decide) ?_
    refine x_lcmp (q := 186) dX12_ask_185 rfl ?_
    replace H := kite H; rcases H with ⟨g6, H⟩ | ⟨g6, H⟩
    · refine x_if_le_t dX12_ask_186 (q := 201) (by decide) g6 ?_
      refine x_sub (ls2 := [(0, .ref v0), (1, .int v1), (2, .int s.1)]) [0, 1, 2] rfl ?_
      exact s_X12_ask_b201 s.2 v0 v1 s.1 hn H
    · refine x_if_le_f (q := 189) dX12_ask_186 (t := 201) (by decide) rfl g6 ?_
      refine x_aload_n (q := 190) dX12_ask_189 rfl rfl ?_
      refine x_iload_n (q := 191) dX12_ask_190 rfl rfl ?_
      replace H := kbe H; obtain ⟨r7, c8, H⟩ := H
      have m9 := s_X12_stateOf (Z := Z) s.2 v0 s.1 hn c8
      refine x_callV (q := 194) (as := [.int s.1]) (rest := []) dX12_ask_191 rfl kc_RX12_400 kh_X12_stateOf (by decide) (Nat.le_of_ble_eq_true rfl) m9 (ci := 12) (by exact ⟨rfl, by decide⟩) (k243 g1 (by decide) hn) ?_
      replace H := kite H; rcases H with ⟨g10, H⟩ | ⟨g10, H⟩
      · refine x_if_ne_f (q := 197) dX12_ask_194 (t := 201) (by decide) rfl g10 ?_
        refine x_iconst (q := 198) (v := (1 : Int32)) dX12_ask_197 rfl (by decide) ?_
        refine x_goto dX12_ask_198 (q := 202) (by decide) ?_
        refine x_sub (ls2 := [(0, .ref v0), (1, .int v1), (2, .int s.1)]) [0, 1, 2] rfl ?_
        exact s_X12_ask_b202 s.2 v0 v1 s.1 (1 : Int32) hn H
      · refine x_if_ne_t dX12_ask_194 (q := 201) (by decide) g10 ?_
        refine x_sub (ls2 := [(0, .ref v0), (1, .int v1), (2, .int s.1)]) [0, 1, 2] rfl ?_
        exact s_X12_ask_b201 s.2 v0 v1 s.1 hn H
theorem sl_X12_ask_l172 {Z : Nat → (Nat → Nat) → State → Prop} (v0 : Nat) (v1 : Int32) (n : Nat) (s : Int32 × KH) (r : KH) (hn : (s.2).1 = 243) (H : kloop (f_X12_ask_l172 v0 v1) n s = some r) : KX Z RX12 cX12_ask 5 false 10 (E_X12_ask_l172 v0 v1 r) 172 [(0, .ref v0), (1, .int v1), (2, .int s.1)] [] s.2 :=
  k_loop (ls := (fun (s : Int32 × KH) => ([(0, .ref v0), (1, .int v1), (2, .int s.1)] : List (Nat × Value)))) (hp := (fun (s : Int32 × KH) => (s.2 : KH))) (G := E_X12_ask_l172 v0 v1) (fun s t hn H => s_X12_ask_l172 v0 v1 s t hn H) n s r hn H
def E_X12_ask_l325 (v0 : Nat) (v1 : Int32) : KH → Nat → List (Nat × Value) → List Value → KH → Prop := fun (e : KH) pc ls st hh => pc = 350 ∧ ls = [(0, .ref v0)] ∧ st = [] ∧ e = hh
def B_X12_ask_l325 (v0 : Nat) (v1 : Int32) : ((Int32 × KH) ⊕ (KH)) → Nat → List (Nat × Value) → List Value → KH → Prop := Sum.elim (fun (s : Int32 × KH) pc ls st hh => pc = 325 ∧ ls = [(0, .ref v0), (1, .int v1), (2, .int s.1)] ∧ st = [] ∧ hh = s.2) (E_X12_ask_l325 v0 v1)
def f_X12_ask_l325 (v0 : Nat) (v1 : Int32) (s : Int32 × KH) : Option ((Int32 × KH) ⊕ (KH)) :=
  if kkind v0 = 12 then kb (f_X12_testMany s.2 v0) fun r2 =>
  if r2 ≤ s.1 then
  some (.inr s.2)
  else
  kb (f_X12_qTold s.2 v0 s.1) fun r6 =>
  kb (f_X12_qTakes r6.2 v0 v1 r6.1 s.1) fun r10 =>
  kl (s.1 + (1 : Int32)) fun x14 =>
  some (.inl (x14, r10)) else none
set_option maxHeartbeats 4000000 in
set_option maxRecDepth 100000 in
theorem s_X12_ask_l325 {Z : Nat → (Nat → Nat) → State → Prop} (v0 : Nat) (v1 : Int32) (s : Int32 × KH) (t : (Int32 × KH) ⊕ (KH)) (hn : (s.2).1 = 243) (H : f_X12_ask_l325 v0 v1 s = some t) : KX Z RX12 cX12_ask 5 false 10 (B_X12_ask_l325 v0 v1 t) 325 [(0, .ref v0), (1, .int v1), (2, .int s.1)] [] s.2 := by
  unfold f_X12_ask_l325 at H
  refine x_iload_n (q := 326) dX12_ask_325 rfl rfl ?_
  refine x_aload_n (q := 327) dX12_ask_326 rfl rfl ?_
  replace H := kif H; obtain ⟨g1, H⟩ := H
  replace H := kbe H; obtain ⟨r2, c3, H⟩ := H
  have m4 := s_X12_testMany (Z := Z) s.2 v0 hn c3
  refine x_callV (q := 330) (as := []) (rest := [.int s.1]) dX12_ask_327 rfl kc_RX12_367 kh_X12_testMany (by decide) (Nat.le_of_ble_eq_true rfl) m4 (ci := 12) (by exact ⟨rfl, by decide⟩) (k243 g1 (by decide) hn) ?_
  replace H := kite H; rcases H with ⟨g5, H⟩ | ⟨g5, H⟩
  · refine x_icmp_ge_t dX12_ask_330 (q := 350) (by decide) g5 ?_
    cases H
    refine x_sub (ls2 := [(0, .ref v0)]) [0] rfl ?_
    exact x_end (x_cfg rfl)
  · refine x_icmp_ge_f (q := 333) dX12_ask_330 (t := 350) (by decide) rfl g5 ?_
    refine x_aload_n (q := 334) dX12_ask_333 rfl rfl ?_
    refine x_iload_n (q := 335) dX12_ask_334 rfl rfl ?_
    refine x_aload_n (q := 336) dX12_ask_335 rfl rfl ?_
    refine x_iload_n (q := 337) dX12_ask_336 rfl rfl ?_
    replace H := kbe H; obtain ⟨r6, c7, H⟩ := H
    have m8 := s_X12_qTold (Z := Z) s.2 v0 s.1 hn c7
    refine x_callV (q := 340) (as := [.int s.1]) (rest := [.int v1, .ref v0]) dX12_ask_337 rfl kc_RX12_634 kh_X12_qTold (by decide) (Nat.le_of_ble_eq_true rfl) m8 (ci := 12) (by exact ⟨rfl, by decide⟩) (k243 g1 (by decide) hn) ?_
    have n9 : (r6.2).1 = 243 := m8.1.full hn
    refine x_iload_n (q := 341) dX12_ask_340 rfl rfl ?_
    replace H := kbe H; obtain ⟨r10, c11, H⟩ := H
    have m12 := s_X12_qTakes (Z := Z) r6.2 v0 v1 r6.1 s.1 n9 c11
    refine x_callV (q := 344) (as := [.int v1, .long r6.1, .int s.1]) (rest := []) dX12_ask_341 rfl kc_RX12_637 kh_X12_qTakes (by decide) (Nat.le_of_ble_eq_true rfl) m12 (ci := 12) (by exact ⟨rfl, by decide⟩) (k243 g1 (by decide) n9) ?_
    have n13 : (r10).1 = 243 := m12.1.full n9
    replace H := kle H; obtain ⟨x14, q15, H⟩ := H
    refine x_iinc (q := 347) (i := 2) (ls2 := [(2, .int x14), (0, .ref v0), (1, .int v1)]) dX12_ask_344 rfl rfl (by decide) (by rw [q15]; rfl) ?_
    refine x_goto dX12_ask_347 (q := 325) (by decide) ?_
    cases H
    refine x_sub (ls2 := [(0, .ref v0), (1, .int v1), (2, .int x14)]) [1, 2, 0] rfl ?_
    exact x_end (x_cfg rfl)
theorem sl_X12_ask_l325 {Z : Nat → (Nat → Nat) → State → Prop} (v0 : Nat) (v1 : Int32) (n : Nat) (s : Int32 × KH) (r : KH) (hn : (s.2).1 = 243) (H : kloop (f_X12_ask_l325 v0 v1) n s = some r) : KX Z RX12 cX12_ask 5 false 10 (E_X12_ask_l325 v0 v1 r) 325 [(0, .ref v0), (1, .int v1), (2, .int s.1)] [] s.2 :=
  k_loop (ls := (fun (s : Int32 × KH) => ([(0, .ref v0), (1, .int v1), (2, .int s.1)] : List (Nat × Value)))) (hp := (fun (s : Int32 × KH) => (s.2 : KH))) (G := E_X12_ask_l325 v0 v1) (fun s t hn H => s_X12_ask_l325 v0 v1 s t hn H) n s r hn H
def f_X12_ask_b157 (h : KH) (v0 : Nat) (v1 : Int32) (w0 : Nat) (w1 : Int64) : Option (Int64 × KH) :=
  if kkind w0 = 12 then kl (ksL h w0 93 w1) fun h2 =>
  if kkind v0 = 12 then kl (ksI h2 v0 94 (1 : Int32)) fun h6 =>
  kb (f_X12_laysWorlds h6 v0 (0 : Int32)) fun r9 =>
  kb (kloop (f_X12_ask_l172 v0 v1) KF ((0 : Int32), r9)) fun e13 =>
  kl (ksI e13 v0 44 (0 : Int32)) fun h16 =>
  kb (kloop (f_X12_ask_l325 v0 v1) KF ((0 : Int32), h16)) fun e19 =>
  some ((kL e19 v0 93), e19) else none else none
set_option maxHeartbeats 4000000 in
set_option maxRecDepth 100000 in
theorem s_X12_ask_b157 {Z : Nat → (Nat → Nat) → State → Prop} (h : KH) (v0 : Nat) (v1 : Int32) (w0 : Nat) (w1 : Int64) {t : Int64 × KH} (hn : h.1 = 243) (H : f_X12_ask_b157 h v0 v1 w0 w1 = some t) : KX Z RX12 cX12_ask 5 false 10 (KRl cX12_ask t.1 t.2) 157 [(0, .ref v0), (1, .int v1)] [.long w1, .ref w0] h := by
  unfold f_X12_ask_b157 at H
  replace H := kif H; obtain ⟨g1, H⟩ := H
  replace H := kle H; obtain ⟨h2, q3, H⟩ := H
  refine x_putL (q := 160) dX12_ask_157 rfl kl_RX12_623 (Or.inl rfl) rfl (k243 g1 (by decide) hn) ?_
  refine x_nmH q3 ?_
  have n4 : h2.1 = 243 := by rw [q3]; exact hn
  refine x_aload_n (q := 161) dX12_ask_160 rfl rfl ?_
  refine x_iconst (q := 162) (v := (1 : Int32)) dX12_ask_161 rfl (by decide) ?_
  replace H := kif H; obtain ⟨g5, H⟩ := H
  replace H := kle H; obtain ⟨h6, q7, H⟩ := H
  refine x_putZ (q := 165) dX12_ask_162 rfl kl_RX12_628 (Or.inl rfl) rfl (by decide) (k243 g5 (by decide) n4) ?_
  refine x_nmH q7 ?_
  have n8 : h6.1 = 243 := by rw [q7]; exact n4
  refine x_aload_n (q := 166) dX12_ask_165 rfl rfl ?_
  refine x_iconst (q := 167) (v := (0 : Int32)) dX12_ask_166 rfl (by decide) ?_
  replace H := kbe H; obtain ⟨r9, c10, H⟩ := H
  have m11 := s_X12_laysWorlds (Z := Z) h6 v0 (0 : Int32) n8 c10
  refine x_callV (q := 170) (as := [.int (0 : Int32)]) (rest := []) dX12_ask_167 rfl kc_RX12_478 kh_X12_laysWorlds (by decide) (Nat.le_of_ble_eq_true rfl) m11 (ci := 12) (by exact ⟨rfl, by decide⟩) (k243 g5 (by decide) n8) ?_
  have n12 : (r9).1 = 243 := m11.1.full n8
  refine x_iconst (q := 171) (v := (0 : Int32)) dX12_ask_170 rfl (by decide) ?_
  refine x_istore_n (q := 172) (i := 2) (ls2 := [(2, .int (0 : Int32)), (0, .ref v0), (1, .int v1)]) dX12_ask_171 rfl rfl (by decide) rfl ?_
  refine x_sub (ls2 := [(0, .ref v0), (1, .int v1), (2, .int (0 : Int32))]) [1, 2, 0] rfl ?_
  replace H := kbe H; obtain ⟨e13, c14, H⟩ := H
  refine x_app (sl_X12_ask_l172 v0 v1 KF ((0 : Int32), r9) e13 n12 c14) fun pc2 ls2 st2 h2 hg m15 => ?_
  obtain ⟨rfl, rfl, rfl, rfl⟩ := hg
  refine x_aload_n (q := 319) dX12_ask_318 rfl rfl ?_
  refine x_iconst (q := 320) (v := (0 : Int32)) dX12_ask_319 rfl (by decide) ?_
  replace H := kle H; obtain ⟨h16, q17, H⟩ := H
  refine x_putZ (q := 323) dX12_ask_320 rfl kl_RX12_285 (Or.inl rfl) rfl (by decide) (k243 g5 (by decide) (m15.full n12)) ?_
  refine x_nmH q17 ?_
  have n18 : h16.1 = 243 := by rw [q17]; exact (m15.full n12)
  refine x_iconst (q := 324) (v := (0 : Int32)) dX12_ask_323 rfl (by decide) ?_
  refine x_istore_n (q := 325) (i := 2) (ls2 := [(2, .int (0 : Int32)), (0, .ref v0), (1, .int v1)]) dX12_ask_324 rfl rfl (by decide) rfl ?_
  refine x_sub (ls2 := [(0, .ref v0), (1, .int v1), (2, .int (0 : Int32))]) [1, 2, 0] rfl ?_
  replace H := kbe H; obtain ⟨e19, c20, H⟩ := H
  refine x_app (sl_X12_ask_l325 v0 v1 KF ((0 : Int32), h16) e19 n18 c20) fun pc2 ls2 st2 h2 hg m21 => ?_
  obtain ⟨rfl, rfl, rfl, rfl⟩ := hg
  refine x_aload_n (q := 351) dX12_ask_350 rfl rfl ?_
  refine x_getL (q := 354) dX12_ask_351 rfl kl_RX12_623 rfl (k243 g5 (by decide) (m21.full n18)) ?_
  cases H
  exact x_end ⟨dX12_ask_354, rfl, rfl⟩
def f_X12_ask_b117 (h : KH) (v0 : Nat) (v1 : Int32) : Option (Int64 × KH) :=
  if kkind v0 = 12 then kl (ksI h v0 7 (kI h v0 5)) fun h2 =>
  kl (ksI h2 v0 8 (kI h2 v0 6)) fun h5 =>
  if (kI h5 v0 5) = 0 then
  if (2 : Int32) ≤ v1 then
  f_X12_ask_b157 h5 v0 v1 v0 (0 : Int64)
  else
  f_X12_ask_b157 h5 v0 v1 v0 (-1 : Int64)
  else
  some ((-1000000000000000 : Int64), h5) else none
set_option maxHeartbeats 4000000 in
set_option maxRecDepth 100000 in
theorem s_X12_ask_b117 {Z : Nat → (Nat → Nat) → State → Prop} (h : KH) (v0 : Nat) (v1 : Int32) {t : Int64 × KH} (hn : h.1 = 243) (H : f_X12_ask_b117 h v0 v1 = some t) : KX Z RX12 cX12_ask 5 false 10 (KRl cX12_ask t.1 t.2) 117 [(0, .ref v0), (1, .int v1)] [] h := by
  unfold f_X12_ask_b117 at H
  refine x_aload_n (q := 118) dX12_ask_117 rfl rfl ?_
  refine x_aload_n (q := 119) dX12_ask_118 rfl rfl ?_
  replace H := kif H; obtain ⟨g1, H⟩ := H
  refine x_getI (q := 122) dX12_ask_119 rfl kl_RX12_230 (Or.inl rfl) (k243 g1 (by decide) hn) ?_
  replace H := kle H; obtain ⟨h2, q3, H⟩ := H
  refine x_putI (q := 125) dX12_ask_122 rfl kl_RX12_352 (Or.inl rfl) rfl (k243 g1 (by decide) hn) ?_
  refine x_nmH q3 ?_
  have n4 : h2.1 = 243 := by rw [q3]; exact hn
  refine x_aload_n (q := 126) dX12_ask_125 rfl rfl ?_
  refine x_aload_n (q := 127) dX12_ask_126 rfl rfl ?_
  refine x_getI (q := 130) dX12_ask_127 rfl kl_RX12_233 (Or.inl rfl) (k243 g1 (by decide) n4) ?_
  replace H := kle H; obtain ⟨h5, q6, H⟩ := H
  refine x_putI (q := 133) dX12_ask_130 rfl kl_RX12_13 (Or.inl rfl) rfl (k243 g1 (by decide) n4) ?_
  refine x_nmH q6 ?_
  have n7 : h5.1 = 243 := by rw [q6]; exact n4
  refine x_aload_n (q := 134) dX12_ask_133 rfl rfl ?_
  refine x_getI (q := 137) dX12_ask_134 rfl kl_RX12_230 (Or.inl rfl) (k243 g1 (by decide) n7) ?_
  replace H := kite H; rcases H with ⟨g8, H⟩ | ⟨g8, H⟩
  · refine x_if_eq_t dX12_ask_137 (q := 144) (by decide) g8 ?_
    refine x_aload_n (q := 145) dX12_ask_144 rfl rfl ?_
    refine x_iload_n (q := 146) dX12_ask_145 rfl rfl ?_
    refine x_iconst (q := 147) (v := (2 : Int32)) dX12_ask_146 rfl (by decide) ?_
    replace H := kite H; rcases H with ⟨g9, H⟩ | ⟨g9, H⟩
    · refine x_icmp_ge_t dX12_ask_147 (q := 156) (by decide) g9 ?_
      refine x_lconst (q := 157) (v := (0 : Int64)) dX12_ask_156 rfl (by decide) ?_
      refine x_sub (ls2 := [(0, .ref v0), (1, .int v1)]) [0, 1] rfl ?_
      exact s_X12_ask_b157 h5 v0 v1 v0 (0 : Int64) n7 H
    · refine x_icmp_ge_f (q := 150) dX12_ask_147 (t := 156) (by decide) rfl g9 ?_
      refine x_ldc2 (q := 153) (v := (-1 : Int64)) dX12_ask_150 rfl kk_RX12_626 ?_
      refine x_goto dX12_ask_153 (q := 157) (by decide) ?_
      refine x_sub (ls2 := [(0, .ref v0), (1, .int v1)]) [0, 1] rfl ?_
      exact s_X12_ask_b157 h5 v0 v1 v0 (-1 : Int64) n7 H
  · refine x_if_eq_f (q := 140) dX12_ask_137 (t := 144) (by decide) rfl g8 ?_
    refine x_ldc2 (q := 143) (v := (-1000000000000000 : Int64)) dX12_ask_140 rfl kk_RX12_476 ?_
    cases H
    exact x_end ⟨dX12_ask_143, rfl, rfl⟩
def f_X12_ask_b93 (h : KH) (v0 : Nat) (v1 : Int32) : Option (Int64 × KH) :=
  if kkind v0 = 12 then if (kI h v0 5) = 0 then
  kb (f_X12_look0 h v0) fun r3 =>
  if r3.1 = (-1 : Int32) then
  f_X12_ask_b117 r3.2 v0 v1
  else
  kb (f_X12_fail r3.2 v0 (1 : Int32) (kI r3.2 v0 2)) fun r8 =>
  f_X12_ask_b117 r8 v0 v1
  else
  f_X12_ask_b117 h v0 v1 else none
set_option maxHeartbeats 4000000 in
set_option maxRecDepth 100000 in
theorem s_X12_ask_b93 {Z : Nat → (Nat → Nat) → State → Prop} (h : KH) (v0 : Nat) (v1 : Int32) {t : Int64 × KH} (hn : h.1 = 243) (H : f_X12_ask_b93 h v0 v1 = some t) : KX Z RX12 cX12_ask 5 false 10 (KRl cX12_ask t.1 t.2) 93 [(0, .ref v0), (1, .int v1)] [] h := by
  unfold f_X12_ask_b93 at H
  refine x_aload_n (q := 94) dX12_ask_93 rfl rfl ?_
  replace H := kif H; obtain ⟨g1, H⟩ := H
  refine x_getI (q := 97) dX12_ask_94 rfl kl_RX12_230 (Or.inl rfl) (k243 g1 (by decide) hn) ?_
  replace H := kite H; rcases H with ⟨g2, H⟩ | ⟨g2, H⟩
  · refine x_if_ne_f (q := 100) dX12_ask_97 (t := 117) (by decide) rfl g2 ?_
    refine x_aload_n (q := 101) dX12_ask_100 rfl rfl ?_
    replace H := kbe H; obtain ⟨r3, c4, H⟩ := H
    have m5 := s_X12_look0 (Z := Z) h v0 hn c4
    refine x_callV (q := 104) (as := []) (rest := []) dX12_ask_101 rfl kc_RX12_242 kh_X12_look0 (by decide) (Nat.le_of_ble_eq_true rfl) m5 (ci := 12) (by exact ⟨rfl, by decide⟩) (k243 g1 (by decide) hn) ?_
    have n6 : (r3.2).1 = 243 := m5.1.full hn
    refine x_iconst (q := 105) (v := (-1 : Int32)) dX12_ask_104 rfl (by decide) ?_
    replace H := kite H; rcases H with ⟨g7, H⟩ | ⟨g7, H⟩
    · refine x_icmp_eq_t dX12_ask_105 (q := 117) (by decide) g7 ?_
      refine x_sub (ls2 := [(0, .ref v0), (1, .int v1)]) [0, 1] rfl ?_
      exact s_X12_ask_b117 r3.2 v0 v1 n6 H
    · refine x_icmp_eq_f (q := 108) dX12_ask_105 (t := 117) (by decide) rfl g7 ?_
      refine x_aload_n (q := 109) dX12_ask_108 rfl rfl ?_
      refine x_iconst (q := 110) (v := (1 : Int32)) dX12_ask_109 rfl (by decide) ?_
      refine x_aload_n (q := 111) dX12_ask_110 rfl rfl ?_
      refine x_getI (q := 114) dX12_ask_111 rfl kl_RX12_236 (Or.inl rfl) (k243 g1 (by decide) n6) ?_
      replace H := kbe H; obtain ⟨r8, c9, H⟩ := H
      have m10 := s_X12_fail (Z := Z) r3.2 v0 (1 : Int32) (kI r3.2 v0 2) n6 c9
      refine x_callV (q := 117) (as := [.int (1 : Int32), .int (kI r3.2 v0 2)]) (rest := []) dX12_ask_114 rfl kc_RX12_260 kh_X12_fail (by decide) (Nat.le_of_ble_eq_true rfl) m10 (ci := 12) (by exact ⟨rfl, by decide⟩) (k243 g1 (by decide) n6) ?_
      have n11 : (r8).1 = 243 := m10.1.full n6
      refine x_sub (ls2 := [(0, .ref v0), (1, .int v1)]) [0, 1] rfl ?_
      exact s_X12_ask_b117 r8 v0 v1 n11 H
  · refine x_if_ne_t dX12_ask_97 (q := 117) (by decide) g2 ?_
    refine x_sub (ls2 := [(0, .ref v0), (1, .int v1)]) [0, 1] rfl ?_
    exact s_X12_ask_b117 h v0 v1 hn H
def f_X12_ask_b82 (h : KH) (v0 : Nat) (v1 : Int32) : Option (Int64 × KH) :=
  if kkind v0 = 12 then if (kI h v0 5) = 0 then
  kb (f_X12_qSums h v0) fun r3 =>
  f_X12_ask_b93 r3 v0 v1
  else
  f_X12_ask_b93 h v0 v1 else none
set_option maxHeartbeats 4000000 in
set_option maxRecDepth 100000 in
theorem s_X12_ask_b82 {Z : Nat → (Nat → Nat) → State → Prop} (h : KH) (v0 : Nat) (v1 : Int32) {t : Int64 × KH} (hn : h.1 = 243) (H : f_X12_ask_b82 h v0 v1 = some t) : KX Z RX12 cX12_ask 5 false 10 (KRl cX12_ask t.1 t.2) 82 [(0, .ref v0), (1, .int v1)] [] h := by
  unfold f_X12_ask_b82 at H
  refine x_aload_n (q := 83) dX12_ask_82 rfl rfl ?_
  replace H := kif H; obtain ⟨g1, H⟩ := H
  refine x_getI (q := 86) dX12_ask_83 rfl kl_RX12_230 (Or.inl rfl) (k243 g1 (by decide) hn) ?_
  replace H := kite H; rcases H with ⟨g2, H⟩ | ⟨g2, H⟩
  · refine x_if_ne_f (q := 89) dX12_ask_86 (t := 93) (by decide) rfl g2 ?_
    refine x_aload_n (q := 90) dX12_ask_89 rfl rfl ?_
    replace H := kbe H; obtain ⟨r3, c4, H⟩ := H
    have m5 := s_X12_qSums (Z := Z) h v0 hn c4
    refine x_callV (q := 93) (as := []) (rest := []) dX12_ask_90 rfl kc_RX12_592 kh_X12_qSums (by decide) (Nat.le_of_ble_eq_true rfl) m5 (ci := 12) (by exact ⟨rfl, by decide⟩) (k243 g1 (by decide) hn) ?_
    have n6 : (r3).1 = 243 := m5.1.full hn
    refine x_sub (ls2 := [(0, .ref v0), (1, .int v1)]) [0, 1] rfl ?_
    exact s_X12_ask_b93 r3 v0 v1 n6 H
  · refine x_if_ne_t dX12_ask_86 (q := 93) (by decide) g2 ?_
    refine x_sub (ls2 := [(0, .ref v0), (1, .int v1)]) [0, 1] rfl ?_
    exact s_X12_ask_b93 h v0 v1 hn H
def f_X12_ask (h : KH) (v0 : Nat) : Option (Int64 × KH) :=
  if kkind v0 = 12 then kl (ksI h v0 3 (kI h v0 1)) fun h2 =>
  kl (ksI h2 v0 1 (0 : Int32)) fun h5 =>
  kl (ksI h5 v0 2 (0 : Int32)) fun h8 =>
  kl (ksI h8 v0 4 (-1 : Int32)) fun h11 =>
  kl (ksI h11 v0 5 (0 : Int32)) fun h14 =>
  kl (ksI h14 v0 6 (-1 : Int32)) fun h17 =>
  kl (ksI h17 v0 44 (0 : Int32)) fun h20 =>
  kl (ksI h20 v0 86 (0 : Int32)) fun h23 =>
  kl (ksI h23 v0 88 (0 : Int32)) fun h26 =>
  kl (ksI h26 v0 89 (0 : Int32)) fun h29 =>
  kl (ksI h29 v0 90 (0 : Int32)) fun h32 =>
  kb (f_X12_qKind h32 v0) fun r35 =>
  if (kI r35.2 v0 5) = 0 then
  if (3 : Int32) ≤ r35.1 then
  f_X12_ask_b82 r35.2 v0 r35.1
  else
  kb (f_X12_qTest r35.2 v0) fun r41 =>
  f_X12_ask_b93 r41 v0 r35.1
  else
  f_X12_ask_b82 r35.2 v0 r35.1 else none
set_option maxHeartbeats 4000000 in
set_option maxRecDepth 100000 in
theorem s0_X12_ask {Z : Nat → (Nat → Nat) → State → Prop} (h : KH) (v0 : Nat) {t : Int64 × KH} (hn : h.1 = 243) (H : f_X12_ask h v0 = some t) : KX Z RX12 cX12_ask 5 false 10 (KRl cX12_ask t.1 t.2) 0 [(0, .ref v0)] [] h := by
  unfold f_X12_ask at H
  refine x_aload_n (q := 1) dX12_ask_0 rfl rfl ?_
  refine x_aload_n (q := 2) dX12_ask_1 rfl rfl ?_
  replace H := kif H; obtain ⟨g1, H⟩ := H
  refine x_getI (q := 5) dX12_ask_2 rfl kl_RX12_227 (Or.inl rfl) (k243 g1 (by decide) hn) ?_
  replace H := kle H; obtain ⟨h2, q3, H⟩ := H
  refine x_putI (q := 8) dX12_ask_5 rfl kl_RX12_239 (Or.inl rfl) rfl (k243 g1 (by decide) hn) ?_
  refine x_nmH q3 ?_
  have n4 : h2.1 = 243 := by rw [q3]; exact hn
  refine x_aload_n (q := 9) dX12_ask_8 rfl rfl ?_
  refine x_iconst (q := 10) (v := (0 : Int32)) dX12_ask_9 rfl (by decide) ?_
  replace H := kle H; obtain ⟨h5, q6, H⟩ := H
  refine x_putI (q := 13) dX12_ask_10 rfl kl_RX12_227 (Or.inl rfl) rfl (k243 g1 (by decide) n4) ?_
  refine x_nmH q6 ?_
  have n7 : h5.1 = 243 := by rw [q6]; exact n4
  refine x_aload_n (q := 14) dX12_ask_13 rfl rfl ?_
  refine x_iconst (q := 15) (v := (0 : Int32)) dX12_ask_14 rfl (by decide) ?_
  replace H := kle H; obtain ⟨h8, q9, H⟩ := H
  refine x_putI (q := 18) dX12_ask_15 rfl kl_RX12_236 (Or.inl rfl) rfl (k243 g1 (by decide) n7) ?_
  refine x_nmH q9 ?_
  have n10 : h8.1 = 243 := by rw [q9]; exact n7
  refine x_aload_n (q := 19) dX12_ask_18 rfl rfl ?_
  refine x_iconst (q := 20) (v := (-1 : Int32)) dX12_ask_19 rfl (by decide) ?_
  replace H := kle H; obtain ⟨h11, q12, H⟩ := H
  refine x_putI (q := 23) dX12_ask_20 rfl kl_RX12_250 (Or.inl rfl) rfl (k243 g1 (by decide) n10) ?_
  refine x_nmH q12 ?_
  have n13 : h11.1 = 243 := by rw [q12]; exact n10
  refine x_aload_n (q := 24) dX12_ask_23 rfl rfl ?_
  refine x_iconst (q := 25) (v := (0 : Int32)) dX12_ask_24 rfl (by decide) ?_
  replace H := kle H; obtain ⟨h14, q15, H⟩ := H
  refine x_putI (q := 28) dX12_ask_25 rfl kl_RX12_230 (Or.inl rfl) rfl (k243 g1 (by decide) n13) ?_
  refine x_nmH q15 ?_
  have n16 : h14.1 = 243 := by rw [q15]; exact n13
  refine x_aload_n (q := 29) dX12_ask_28 rfl rfl ?_
  refine x_iconst (q := 30) (v := (-1 : Int32)) dX12_ask_29 rfl (by decide) ?_
  replace H := kle H; obtain ⟨h17, q18, H⟩ := H
  refine x_putI (q := 33) dX12_ask_30 rfl kl_RX12_233 (Or.inl rfl) rfl (k243 g1 (by decide) n16) ?_
  refine x_nmH q18 ?_
  have n19 : h17.1 = 243 := by rw [q18]; exact n16
  refine x_aload_n (q := 34) dX12_ask_33 rfl rfl ?_
  refine x_iconst (q := 35) (v := (0 : Int32)) dX12_ask_34 rfl (by decide) ?_
  replace H := kle H; obtain ⟨h20, q21, H⟩ := H
  refine x_putZ (q := 38) dX12_ask_35 rfl kl_RX12_285 (Or.inl rfl) rfl (by decide) (k243 g1 (by decide) n19) ?_
  refine x_nmH q21 ?_
  have n22 : h20.1 = 243 := by rw [q21]; exact n19
  refine x_aload_n (q := 39) dX12_ask_38 rfl rfl ?_
  refine x_iconst (q := 40) (v := (0 : Int32)) dX12_ask_39 rfl (by decide) ?_
  replace H := kle H; obtain ⟨h23, q24, H⟩ := H
  refine x_putI (q := 43) dX12_ask_40 rfl kl_RX12_312 (Or.inl rfl) rfl (k243 g1 (by decide) n22) ?_
  refine x_nmH q24 ?_
  have n25 : h23.1 = 243 := by rw [q24]; exact n22
  refine x_aload_n (q := 44) dX12_ask_43 rfl rfl ?_
  refine x_iconst (q := 45) (v := (0 : Int32)) dX12_ask_44 rfl (by decide) ?_
  replace H := kle H; obtain ⟨h26, q27, H⟩ := H
  refine x_putI (q := 48) dX12_ask_45 rfl kl_RX12_315 (Or.inl rfl) rfl (k243 g1 (by decide) n25) ?_
  refine x_nmH q27 ?_
  have n28 : h26.1 = 243 := by rw [q27]; exact n25
  refine x_aload_n (q := 49) dX12_ask_48 rfl rfl ?_
  refine x_iconst (q := 50) (v := (0 : Int32)) dX12_ask_49 rfl (by decide) ?_
  replace H := kle H; obtain ⟨h29, q30, H⟩ := H
  refine x_putI (q := 53) dX12_ask_50 rfl kl_RX12_318 (Or.inl rfl) rfl (k243 g1 (by decide) n28) ?_
  refine x_nmH q30 ?_
  have n31 : h29.1 = 243 := by rw [q30]; exact n28
  refine x_aload_n (q := 54) dX12_ask_53 rfl rfl ?_
  refine x_iconst (q := 55) (v := (0 : Int32)) dX12_ask_54 rfl (by decide) ?_
  replace H := kle H; obtain ⟨h32, q33, H⟩ := H
  refine x_putI (q := 58) dX12_ask_55 rfl kl_RX12_321 (Or.inl rfl) rfl (k243 g1 (by decide) n31) ?_
  refine x_nmH q33 ?_
  have n34 : h32.1 = 243 := by rw [q33]; exact n31
  refine x_aload_n (q := 59) dX12_ask_58 rfl rfl ?_
  replace H := kbe H; obtain ⟨r35, c36, H⟩ := H
  have m37 := s_X12_qKind (Z := Z) h32 v0 n34 c36
  refine x_callV (q := 62) (as := []) (rest := []) dX12_ask_59 rfl kc_RX12_631 kh_X12_qKind (by decide) (Nat.le_of_ble_eq_true rfl) m37 (ci := 12) (by exact ⟨rfl, by decide⟩) (k243 g1 (by decide) n34) ?_
  have n38 : (r35.2).1 = 243 := m37.1.full n34
  refine x_istore_n (q := 63) (i := 1) (ls2 := [(1, .int r35.1), (0, .ref v0)]) dX12_ask_62 rfl rfl (by decide) rfl ?_
  refine x_aload_n (q := 64) dX12_ask_63 rfl rfl ?_
  refine x_getI (q := 67) dX12_ask_64 rfl kl_RX12_230 (Or.inl rfl) (k243 g1 (by decide) n38) ?_
  replace H := kite H; rcases H with ⟨g39, H⟩ | ⟨g39, H⟩
  · refine x_if_ne_f (q := 70) dX12_ask_67 (t := 82) (by decide) rfl g39 ?_
    refine x_iload_n (q := 71) dX12_ask_70 rfl rfl ?_
    refine x_iconst (q := 72) (v := (3 : Int32)) dX12_ask_71 rfl (by decide) ?_
    replace H := kite H; rcases H with ⟨g40, H⟩ | ⟨g40, H⟩
    · refine x_icmp_ge_t dX12_ask_72 (q := 82) (by decide) g40 ?_
      refine x_sub (ls2 := [(0, .ref v0), (1, .int r35.1)]) [1, 0] rfl ?_
      exact s_X12_ask_b82 r35.2 v0 r35.1 n38 H
    · refine x_icmp_ge_f (q := 75) dX12_ask_72 (t := 82) (by decide) rfl g40 ?_
      refine x_aload_n (q := 76) dX12_ask_75 rfl rfl ?_
      replace H := kbe H; obtain ⟨r41, c42, H⟩ := H
      have m43 := s_X12_qTest (Z := Z) r35.2 v0 n38 c42
      refine x_callV (q := 79) (as := []) (rest := []) dX12_ask_76 rfl kc_RX12_324 kh_X12_qTest (by decide) (Nat.le_of_ble_eq_true rfl) m43 (ci := 12) (by exact ⟨rfl, by decide⟩) (k243 g1 (by decide) n38) ?_
      have n44 : (r41).1 = 243 := m43.1.full n38
      refine x_goto dX12_ask_79 (q := 93) (by decide) ?_
      refine x_sub (ls2 := [(0, .ref v0), (1, .int r35.1)]) [1, 0] rfl ?_
      exact s_X12_ask_b93 r41 v0 r35.1 n44 H
  · refine x_if_ne_t dX12_ask_67 (q := 82) (by decide) g39 ?_
    refine x_sub (ls2 := [(0, .ref v0), (1, .int r35.1)]) [1, 0] rfl ?_
    exact s_X12_ask_b82 r35.2 v0 r35.1 n38 H
theorem s_X12_ask {Z : Nat → (Nat → Nat) → State → Prop} (h : KH) (v0 : Nat) {t : Int64 × KH} (hn : h.1 = 243) (H : f_X12_ask h v0 = some t) : KM Z yX12_ask cX12_ask 5 (some .long) 10 [.ref v0] h (some (.long t.1)) t.2 :=
  kx_l (own := RX12) (ini := false) (by decide +kernel) (by decide +kernel) rfl (Nat.le_of_ble_eq_true rfl) (s0_X12_ask h v0 hn H)
theorem dX12_checked_0 : decode cX12_checked 0 = .ok (.bipush 61, 2) := by decide +kernel
theorem dX12_checked_2 : decode cX12_checked 2 = .ok (.istore_n 2, 1) := by decide +kernel
theorem dX12_checked_3 : decode cX12_checked 3 = .ok (.iconst 0, 1) := by decide +kernel
theorem dX12_checked_4 : decode cX12_checked 4 = .ok (.istore_n 3, 1) := by decide +kernel
theorem dX12_checked_5 : decode cX12_checked 5 = .ok (.iload_n 3, 1) := by decide +kernel
theorem dX12_checked_6 : decode cX12_checked 6 = .ok (.iload_n 1, 1) := by decide +kernel
theorem dX12_checked_7 : decode cX12_checked 7 = .ok (.if_icmp .ge 21, 3) := by decide +kernel
theorem dX12_checked_10 : decode cX12_checked 10 = .ok (.iconst 3, 1) := by decide +kernel
theorem dX12_checked_11 : decode cX12_checked 11 = .ok (.iload_n 2, 1) := by decide +kernel
theorem dX12_checked_12 : decode cX12_checked 12 = .ok (.imul, 1) := by decide +kernel
theorem dX12_checked_13 : decode cX12_checked 13 = .ok (.aload_n 0, 1) := by decide +kernel
theorem dX12_checked_14 : decode cX12_checked 14 = .ok (.iload_n 3, 1) := by decide +kernel
theorem dX12_checked_15 : decode cX12_checked 15 = .ok (.iaload, 1) := by decide +kernel
theorem dX12_checked_16 : decode cX12_checked 16 = .ok (.iadd, 1) := by decide +kernel
theorem dX12_checked_17 : decode cX12_checked 17 = .ok (.sipush 251, 3) := by decide +kernel
theorem dX12_checked_20 : decode cX12_checked 20 = .ok (.irem, 1) := by decide +kernel
theorem dX12_checked_21 : decode cX12_checked 21 = .ok (.istore_n 2, 1) := by decide +kernel
theorem dX12_checked_22 : decode cX12_checked 22 = .ok (.iinc 3 1, 3) := by decide +kernel
theorem dX12_checked_25 : decode cX12_checked 25 = .ok (.goto (-20), 3) := by decide +kernel
theorem dX12_checked_28 : decode cX12_checked 28 = .ok (.iload_n 2, 1) := by decide +kernel
theorem dX12_checked_29 : decode cX12_checked 29 = .ok (.ireturn, 1) := by decide +kernel
def E_X12_checked_l5 (h : KH) (v0 : Nat) (v1 : Int32) : Int32 → Nat → List (Nat × Value) → List Value → KH → Prop := fun (e : Int32) pc ls st hh => pc = 28 ∧ ls = [(2, .int e)] ∧ st = [] ∧ h = hh
def B_X12_checked_l5 (h : KH) (v0 : Nat) (v1 : Int32) : ((Int32 × Int32) ⊕ (Int32)) → Nat → List (Nat × Value) → List Value → KH → Prop := Sum.elim (fun (s : Int32 × Int32) pc ls st hh => pc = 5 ∧ ls = [(0, .ref v0), (1, .int v1), (2, .int s.1), (3, .int s.2)] ∧ st = [] ∧ hh = h) (E_X12_checked_l5 h v0 v1)
def f_X12_checked_l5 (h : KH) (v0 : Nat) (v1 : Int32) (s : Int32 × Int32) : Option ((Int32 × Int32) ⊕ (Int32)) :=
  if v1 ≤ s.2 then
  some (.inr s.1)
  else
  if kkind v0 = 20 then if (s.2 < 0 ∨ klen v0 ≤ (s.2).toNatClampNeg) then none else kl ((((3 : Int32) * s.1) + (kI h v0 ((s.2).toNatClampNeg))) - (((3 : Int32) * s.1) + (kI h v0 ((s.2).toNatClampNeg))) / (251 : Int32) * (251 : Int32)) fun x4 =>
  kl (s.2 + (1 : Int32)) fun x6 =>
  some (.inl (x4, x6)) else none
set_option maxHeartbeats 4000000 in
set_option maxRecDepth 100000 in
theorem s_X12_checked_l5 {Z : Nat → (Nat → Nat) → State → Prop} (h : KH) (v0 : Nat) (v1 : Int32) (s : Int32 × Int32) (t : (Int32 × Int32) ⊕ (Int32)) (hn : (h).1 = 243) (H : f_X12_checked_l5 h v0 v1 s = some t) : KX Z RX12 cX12_checked 4 false 1 (B_X12_checked_l5 h v0 v1 t) 5 [(0, .ref v0), (1, .int v1), (2, .int s.1), (3, .int s.2)] [] h := by
  unfold f_X12_checked_l5 at H
  refine x_iload_n (q := 6) dX12_checked_5 rfl rfl ?_
  refine x_iload_n (q := 7) dX12_checked_6 rfl rfl ?_
  replace H := kite H; rcases H with ⟨g1, H⟩ | ⟨g1, H⟩
  · refine x_icmp_ge_t dX12_checked_7 (q := 28) (by decide) g1 ?_
    cases H
    refine x_sub (ls2 := [(2, .int s.1)]) [2] rfl ?_
    exact x_end (x_cfg rfl)
  · refine x_icmp_ge_f (q := 10) dX12_checked_7 (t := 28) (by decide) rfl g1 ?_
    refine x_iconst (q := 11) (v := (3 : Int32)) dX12_checked_10 rfl (by decide) ?_
    refine x_iload_n (q := 12) dX12_checked_11 rfl rfl ?_
    refine x_imul (q := 13) dX12_checked_12 rfl ?_
    refine x_aload_n (q := 14) dX12_checked_13 rfl rfl ?_
    refine x_iload_n (q := 15) dX12_checked_14 rfl rfl ?_
    replace H := kif H; obtain ⟨g2, H⟩ := H
    replace H := kifn H; obtain ⟨g3, H⟩ := H
    refine x_iald (q := 16) dX12_checked_15 rfl (k243 g2 (by decide) hn) g3 ?_
    refine x_iadd (q := 17) dX12_checked_16 rfl ?_
    refine x_sipush (q := 20) (v := (251 : Int32)) dX12_checked_17 rfl (by decide) ?_
    refine x_irem (q := 21) dX12_checked_20 rfl (by decide) ?_
    replace H := kle H; obtain ⟨x4, q5, H⟩ := H
    refine x_nmI q5 ?_
    refine x_istore_n (q := 22) (i := 2) (ls2 := [(2, .int x4), (0, .ref v0), (1, .int v1), (3, .int s.2)]) dX12_checked_21 rfl rfl (by decide) rfl ?_
    replace H := kle H; obtain ⟨x6, q7, H⟩ := H
    refine x_iinc (q := 25) (i := 3) (ls2 := [(3, .int x6), (2, .int x4), (0, .ref v0), (1, .int v1)]) dX12_checked_22 rfl rfl (by decide) (by rw [q7]; rfl) ?_
    refine x_goto dX12_checked_25 (q := 5) (by decide) ?_
    cases H
    refine x_sub (ls2 := [(0, .ref v0), (1, .int v1), (2, .int x4), (3, .int x6)]) [2, 3, 1, 0] rfl ?_
    exact x_end (x_cfg rfl)
theorem sl_X12_checked_l5 {Z : Nat → (Nat → Nat) → State → Prop} (h : KH) (v0 : Nat) (v1 : Int32) (n : Nat) (s : Int32 × Int32) (r : Int32) (hn : (h).1 = 243) (H : kloop (f_X12_checked_l5 h v0 v1) n s = some r) : KX Z RX12 cX12_checked 4 false 1 (E_X12_checked_l5 h v0 v1 r) 5 [(0, .ref v0), (1, .int v1), (2, .int s.1), (3, .int s.2)] [] h :=
  k_loop (ls := (fun (s : Int32 × Int32) => ([(0, .ref v0), (1, .int v1), (2, .int s.1), (3, .int s.2)] : List (Nat × Value)))) (hp := (fun (s : Int32 × Int32) => (h : KH))) (G := E_X12_checked_l5 h v0 v1) (fun s t hn H => s_X12_checked_l5 h v0 v1 s t hn H) n s r hn H
def f_X12_checked (h : KH) (v0 : Nat) (v1 : Int32) : Option (Int32) :=
  kb (kloop (f_X12_checked_l5 h v0 v1) KF ((61 : Int32), (0 : Int32))) fun e1 =>
  some e1
set_option maxHeartbeats 4000000 in
set_option maxRecDepth 100000 in
theorem s0_X12_checked {Z : Nat → (Nat → Nat) → State → Prop} (h : KH) (v0 : Nat) (v1 : Int32) {t : Int32} (hn : h.1 = 243) (H : f_X12_checked h v0 v1 = some t) : KX Z RX12 cX12_checked 4 false 1 (KRi cX12_checked t h) 0 [(0, .ref v0), (1, .int v1)] [] h := by
  unfold f_X12_checked at H
  refine x_bipush (q := 2) (v := (61 : Int32)) dX12_checked_0 rfl (by decide) ?_
  refine x_istore_n (q := 3) (i := 2) (ls2 := [(2, .int (61 : Int32)), (0, .ref v0), (1, .int v1)]) dX12_checked_2 rfl rfl (by decide) rfl ?_
  refine x_iconst (q := 4) (v := (0 : Int32)) dX12_checked_3 rfl (by decide) ?_
  refine x_istore_n (q := 5) (i := 3) (ls2 := [(3, .int (0 : Int32)), (2, .int (61 : Int32)), (0, .ref v0), (1, .int v1)]) dX12_checked_4 rfl rfl (by decide) rfl ?_
  refine x_sub (ls2 := [(0, .ref v0), (1, .int v1), (2, .int (61 : Int32)), (3, .int (0 : Int32))]) [2, 3, 1, 0] rfl ?_
  replace H := kbe H; obtain ⟨e1, c2, H⟩ := H
  refine x_app (sl_X12_checked_l5 h v0 v1 KF ((61 : Int32), (0 : Int32)) e1 hn c2) fun pc2 ls2 st2 h2 hg m3 => ?_
  obtain ⟨rfl, rfl, rfl, rfl⟩ := hg
  refine x_iload_n (q := 29) dX12_checked_28 rfl rfl ?_
  cases H
  exact x_end ⟨dX12_checked_29, rfl, rfl⟩
theorem s_X12_checked {Z : Nat → (Nat → Nat) → State → Prop} (h : KH) (v0 : Nat) (v1 : Int32) {t : Int32} (hn : h.1 = 243) (H : f_X12_checked h v0 v1 = some t) : KM Z yX12_checked cX12_checked 4 (some .int) 1 [.ref v0, .int v1] h (some (.int t)) h :=
  kx_i (own := RX12) (ini := false) (by decide +kernel) (by decide +kernel) rfl (Nat.le_of_ble_eq_true rfl) (s0_X12_checked h v0 v1 hn H)
theorem dX12_writes_0 : decode cX12_writes 0 = .ok (.aload_n 0, 1) := by decide +kernel
theorem dX12_writes_1 : decode cX12_writes 1 = .ok (.getfield 224, 3) := by decide +kernel
theorem dX12_writes_4 : decode cX12_writes 4 = .ok (.aload_n 0, 1) := by decide +kernel
theorem dX12_writes_5 : decode cX12_writes 5 = .ok (.getfield 641, 3) := by decide +kernel
theorem dX12_writes_8 : decode cX12_writes 8 = .ok (.iload_n 1, 1) := by decide +kernel
theorem dX12_writes_9 : decode cX12_writes 9 = .ok (.iastore, 1) := by decide +kernel
theorem dX12_writes_10 : decode cX12_writes 10 = .ok (.aload_n 0, 1) := by decide +kernel
theorem dX12_writes_11 : decode cX12_writes 11 = .ok (.dup, 1) := by decide +kernel
theorem dX12_writes_12 : decode cX12_writes 12 = .ok (.getfield 641, 3) := by decide +kernel
theorem dX12_writes_15 : decode cX12_writes 15 = .ok (.iconst 1, 1) := by decide +kernel
theorem dX12_writes_16 : decode cX12_writes 16 = .ok (.iadd, 1) := by decide +kernel
theorem dX12_writes_17 : decode cX12_writes 17 = .ok (.putfield 641, 3) := by decide +kernel
theorem dX12_writes_20 : decode cX12_writes 20 = .ok (.return_, 1) := by decide +kernel
theorem kl_RX12_224 : KLk RX12 224 12 95 := ⟨RX12, TX12, 97, rfl, by decide, Or.inl (kwm 1292 (by decide +kernel) (by decide +kernel))⟩
theorem kl_RX12_641 : KLk RX12 641 12 96 := ⟨RX12, TX12, 97, rfl, by decide, Or.inl (kwm 1293 (by decide +kernel) (by decide +kernel))⟩
def f_X12_writes (h : KH) (v0 : Nat) (v1 : Int32) : Option (KH) :=
  if kkind v0 = 12 then if (kR h v0 95) < 999999 then if kkind (kR h v0 95) = 20 then if ((kI h v0 96) < 0 ∨ klen (kR h v0 95) ≤ ((kI h v0 96)).toNatClampNeg) then none else kl (ksI h (kR h v0 95) (((kI h v0 96)).toNatClampNeg) v1) fun h5 =>
  kl (ksI h5 v0 96 ((kI h5 v0 96) + (1 : Int32))) fun h8 =>
  some h8 else none else none else none
set_option maxHeartbeats 4000000 in
set_option maxRecDepth 100000 in
theorem s0_X12_writes {Z : Nat → (Nat → Nat) → State → Prop} (h : KH) (v0 : Nat) (v1 : Int32) {t : KH} (hn : h.1 = 243) (H : f_X12_writes h v0 v1 = some t) : KX Z RX12 cX12_writes 2 false 1 (KRv cX12_writes t) 0 [(0, .ref v0), (1, .int v1)] [] h := by
  unfold f_X12_writes at H
  refine x_aload_n (q := 1) dX12_writes_0 rfl rfl ?_
  replace H := kif H; obtain ⟨g1, H⟩ := H
  replace H := kif H; obtain ⟨g2, H⟩ := H
  refine x_getR (q := 4) dX12_writes_1 rfl kl_RX12_224 rfl (k243 g1 (by decide) hn) g2 ?_
  refine x_aload_n (q := 5) dX12_writes_4 rfl rfl ?_
  refine x_getI (q := 8) dX12_writes_5 rfl kl_RX12_641 (Or.inl rfl) (k243 g1 (by decide) hn) ?_
  refine x_iload_n (q := 9) dX12_writes_8 rfl rfl ?_
  replace H := kif H; obtain ⟨g3, H⟩ := H
  replace H := kifn H; obtain ⟨g4, H⟩ := H
  replace H := kle H; obtain ⟨h5, q6, H⟩ := H
  refine x_iast (q := 10) dX12_writes_9 rfl (k243 g3 (by decide) hn) g4 ?_
  refine x_nmH q6 ?_
  have n7 : h5.1 = 243 := by rw [q6]; exact hn
  refine x_aload_n (q := 11) dX12_writes_10 rfl rfl ?_
  refine x_dup (q := 12) dX12_writes_11 rfl rfl ?_
  refine x_getI (q := 15) dX12_writes_12 rfl kl_RX12_641 (Or.inl rfl) (k243 g1 (by decide) n7) ?_
  refine x_iconst (q := 16) (v := (1 : Int32)) dX12_writes_15 rfl (by decide) ?_
  refine x_iadd (q := 17) dX12_writes_16 rfl ?_
  replace H := kle H; obtain ⟨h8, q9, H⟩ := H
  refine x_putI (q := 20) dX12_writes_17 rfl kl_RX12_641 (Or.inl rfl) rfl (k243 g1 (by decide) n7) ?_
  refine x_nmH q9 ?_
  have n10 : h8.1 = 243 := by rw [q9]; exact n7
  cases H
  exact x_end ⟨dX12_writes_20, rfl, rfl⟩
theorem s_X12_writes {Z : Nat → (Nat → Nat) → State → Prop} (h : KH) (v0 : Nat) (v1 : Int32) {t : KH} (hn : h.1 = 243) (H : f_X12_writes h v0 v1 = some t) : KM Z yX12_writes cX12_writes 2 none 1 [.ref v0, .int v1] h none t :=
  kx_v (own := RX12) (ini := false) (by decide +kernel) (by decide +kernel) rfl (Nat.le_of_ble_eq_true rfl) (s0_X12_writes h v0 v1 hn H)
theorem dX12_writesTwo_0 : decode cX12_writesTwo 0 = .ok (.aload_n 0, 1) := by decide +kernel
theorem dX12_writesTwo_1 : decode cX12_writesTwo 1 = .ok (.iload_n 1, 1) := by decide +kernel
theorem dX12_writesTwo_2 : decode cX12_writesTwo 2 = .ok (.sipush 256, 3) := by decide +kernel
theorem dX12_writesTwo_5 : decode cX12_writesTwo 5 = .ok (.idiv, 1) := by decide +kernel
theorem dX12_writesTwo_6 : decode cX12_writesTwo 6 = .ok (.invokevirtual 644, 3) := by decide +kernel
theorem dX12_writesTwo_9 : decode cX12_writesTwo 9 = .ok (.aload_n 0, 1) := by decide +kernel
theorem dX12_writesTwo_10 : decode cX12_writesTwo 10 = .ok (.iload_n 1, 1) := by decide +kernel
theorem dX12_writesTwo_11 : decode cX12_writesTwo 11 = .ok (.sipush 256, 3) := by decide +kernel
theorem dX12_writesTwo_14 : decode cX12_writesTwo 14 = .ok (.irem, 1) := by decide +kernel
theorem dX12_writesTwo_15 : decode cX12_writesTwo 15 = .ok (.invokevirtual 644, 3) := by decide +kernel
theorem dX12_writesTwo_18 : decode cX12_writesTwo 18 = .ok (.return_, 1) := by decide +kernel
theorem kc_RX12_644 : Cond.methodLink RX12 644 yX12_writes ∈ ktG ∧ (Cond.instanceMethod yX12_writes ∈ ktG ∧ Cond.selects yX12_writes.cls yX12_writes yX12_writes ∈ ktG) ∧ Cond.initialized yX12_writes.cls ∈ ktG ∧ Cond.code yX12_writes cX12_writes 2 none ∈ ktG := ⟨(kwm 1993 (by decide +kernel) (by decide +kernel)), ⟨(kwm 1995 (by decide +kernel) (by decide +kernel)), (kwm 119 (by decide +kernel) (by decide +kernel))⟩, (kwm 139 (by decide +kernel) (by decide +kernel)), kwm 1996 (by decide +kernel) (by decide +kernel)⟩
theorem kh_X12_writes : yX12_writes.cls ≠ "java/lang/invoke/MethodHandle" ∧ yX12_writes.cls ≠ "java/lang/invoke/VarHandle" ∧ (parseMethodDescriptor yX12_writes.desc).map (fun d => d.parameters.length) = some 1 := by decide +kernel
def f_X12_writesTwo (h : KH) (v0 : Nat) (v1 : Int32) : Option (KH) :=
  if kkind v0 = 12 then kb (f_X12_writes h v0 (v1 / (256 : Int32))) fun r2 =>
  kb (f_X12_writes r2 v0 (v1 - v1 / (256 : Int32) * (256 : Int32))) fun r6 =>
  some r6 else none
set_option maxHeartbeats 4000000 in
set_option maxRecDepth 100000 in
theorem s0_X12_writesTwo {Z : Nat → (Nat → Nat) → State → Prop} (h : KH) (v0 : Nat) (v1 : Int32) {t : KH} (hn : h.1 = 243) (H : f_X12_writesTwo h v0 v1 = some t) : KX Z RX12 cX12_writesTwo 2 false 2 (KRv cX12_writesTwo t) 0 [(0, .ref v0), (1, .int v1)] [] h := by
  unfold f_X12_writesTwo at H
  refine x_aload_n (q := 1) dX12_writesTwo_0 rfl rfl ?_
  refine x_iload_n (q := 2) dX12_writesTwo_1 rfl rfl ?_
  refine x_sipush (q := 5) (v := (256 : Int32)) dX12_writesTwo_2 rfl (by decide) ?_
  refine x_idiv (q := 6) dX12_writesTwo_5 rfl (by decide) ?_
  replace H := kif H; obtain ⟨g1, H⟩ := H
  replace H := kbe H; obtain ⟨r2, c3, H⟩ := H
  have m4 := s_X12_writes (Z := Z) h v0 (v1 / (256 : Int32)) hn c3
  refine x_callV (q := 9) (as := [.int (v1 / (256 : Int32))]) (rest := []) dX12_writesTwo_6 rfl kc_RX12_644 kh_X12_writes (by decide) (Nat.le_of_ble_eq_true rfl) m4 (ci := 12) (by exact ⟨rfl, by decide⟩) (k243 g1 (by decide) hn) ?_
  have n5 : (r2).1 = 243 := m4.1.full hn
  refine x_aload_n (q := 10) dX12_writesTwo_9 rfl rfl ?_
  refine x_iload_n (q := 11) dX12_writesTwo_10 rfl rfl ?_
  refine x_sipush (q := 14) (v := (256 : Int32)) dX12_writesTwo_11 rfl (by decide) ?_
  refine x_irem (q := 15) dX12_writesTwo_14 rfl (by decide) ?_
  replace H := kbe H; obtain ⟨r6, c7, H⟩ := H
  have m8 := s_X12_writes (Z := Z) r2 v0 (v1 - v1 / (256 : Int32) * (256 : Int32)) n5 c7
  refine x_callV (q := 18) (as := [.int (v1 - v1 / (256 : Int32) * (256 : Int32))]) (rest := []) dX12_writesTwo_15 rfl kc_RX12_644 kh_X12_writes (by decide) (Nat.le_of_ble_eq_true rfl) m8 (ci := 12) (by exact ⟨rfl, by decide⟩) (k243 g1 (by decide) n5) ?_
  have n9 : (r6).1 = 243 := m8.1.full n5
  cases H
  exact x_end ⟨dX12_writesTwo_18, rfl, rfl⟩
theorem s_X12_writesTwo {Z : Nat → (Nat → Nat) → State → Prop} (h : KH) (v0 : Nat) (v1 : Int32) {t : KH} (hn : h.1 = 243) (H : f_X12_writesTwo h v0 v1 = some t) : KM Z yX12_writesTwo cX12_writesTwo 2 none 2 [.ref v0, .int v1] h none t :=
  kx_v (own := RX12) (ini := false) (by decide +kernel) (by decide +kernel) rfl (Nat.le_of_ble_eq_true rfl) (s0_X12_writesTwo h v0 v1 hn H)
theorem dX12_image_0 : decode cX12_image 0 = .ok (.aload_n 0, 1) := by decide +kernel
theorem dX12_image_1 : decode cX12_image 1 = .ok (.iconst 0, 1) := by decide +kernel
theorem dX12_image_2 : decode cX12_image 2 = .ok (.putfield 641, 3) := by decide +kernel
theorem dX12_image_5 : decode cX12_image 5 = .ok (.aload_n 0, 1) := by decide +kernel
theorem dX12_image_6 : decode cX12_image 6 = .ok (.aload_n 0, 1) := by decide +kernel
theorem dX12_image_7 : decode cX12_image 7 = .ok (.getfield 115, 3) := by decide +kernel
theorem dX12_image_10 : decode cX12_image 10 = .ok (.iconst 0, 1) := by decide +kernel
theorem dX12_image_11 : decode cX12_image 11 = .ok (.iaload, 1) := by decide +kernel
theorem dX12_image_12 : decode cX12_image 12 = .ok (.invokevirtual 647, 3) := by decide +kernel
theorem dX12_image_15 : decode cX12_image 15 = .ok (.aload_n 0, 1) := by decide +kernel
theorem dX12_image_16 : decode cX12_image 16 = .ok (.aload_n 0, 1) := by decide +kernel
theorem dX12_image_17 : decode cX12_image 17 = .ok (.getfield 115, 3) := by decide +kernel
theorem dX12_image_20 : decode cX12_image 20 = .ok (.iconst 1, 1) := by decide +kernel
theorem dX12_image_21 : decode cX12_image 21 = .ok (.iaload, 1) := by decide +kernel
theorem dX12_image_22 : decode cX12_image 22 = .ok (.invokevirtual 647, 3) := by decide +kernel
theorem dX12_image_25 : decode cX12_image 25 = .ok (.iconst 0, 1) := by decide +kernel
theorem dX12_image_26 : decode cX12_image 26 = .ok (.istore_n 1, 1) := by decide +kernel
theorem dX12_image_27 : decode cX12_image 27 = .ok (.iload_n 1, 1) := by decide +kernel
theorem dX12_image_28 : decode cX12_image 28 = .ok (.iconst 2, 1) := by decide +kernel
theorem dX12_image_29 : decode cX12_image 29 = .ok (.aload_n 0, 1) := by decide +kernel
theorem dX12_image_30 : decode cX12_image 30 = .ok (.invokevirtual 367, 3) := by decide +kernel
theorem dX12_image_33 : decode cX12_image 33 = .ok (.imul, 1) := by decide +kernel
theorem dX12_image_34 : decode cX12_image 34 = .ok (.if_icmp .ge 21, 3) := by decide +kernel
theorem dX12_image_37 : decode cX12_image 37 = .ok (.aload_n 0, 1) := by decide +kernel
theorem dX12_image_38 : decode cX12_image 38 = .ok (.aload_n 0, 1) := by decide +kernel
theorem dX12_image_39 : decode cX12_image 39 = .ok (.getfield 115, 3) := by decide +kernel
theorem dX12_image_42 : decode cX12_image 42 = .ok (.iconst 2, 1) := by decide +kernel
theorem dX12_image_43 : decode cX12_image 43 = .ok (.iload_n 1, 1) := by decide +kernel
theorem dX12_image_44 : decode cX12_image 44 = .ok (.iadd, 1) := by decide +kernel
theorem dX12_image_45 : decode cX12_image 45 = .ok (.iaload, 1) := by decide +kernel
theorem dX12_image_46 : decode cX12_image 46 = .ok (.invokevirtual 644, 3) := by decide +kernel
theorem dX12_image_49 : decode cX12_image 49 = .ok (.iinc 1 1, 3) := by decide +kernel
theorem dX12_image_52 : decode cX12_image 52 = .ok (.goto (-25), 3) := by decide +kernel
theorem dX12_image_55 : decode cX12_image 55 = .ok (.iconst 0, 1) := by decide +kernel
theorem dX12_image_56 : decode cX12_image 56 = .ok (.istore_n 1, 1) := by decide +kernel
theorem dX12_image_57 : decode cX12_image 57 = .ok (.iload_n 1, 1) := by decide +kernel
theorem dX12_image_58 : decode cX12_image 58 = .ok (.iconst 2, 1) := by decide +kernel
theorem dX12_image_59 : decode cX12_image 59 = .ok (.aload_n 0, 1) := by decide +kernel
theorem dX12_image_60 : decode cX12_image 60 = .ok (.invokevirtual 403, 3) := by decide +kernel
theorem dX12_image_63 : decode cX12_image 63 = .ok (.imul, 1) := by decide +kernel
theorem dX12_image_64 : decode cX12_image 64 = .ok (.if_icmp .ge 22, 3) := by decide +kernel
theorem dX12_image_67 : decode cX12_image 67 = .ok (.aload_n 0, 1) := by decide +kernel
theorem dX12_image_68 : decode cX12_image 68 = .ok (.aload_n 0, 1) := by decide +kernel
theorem dX12_image_69 : decode cX12_image 69 = .ok (.getfield 115, 3) := by decide +kernel
theorem dX12_image_72 : decode cX12_image 72 = .ok (.bipush 14, 2) := by decide +kernel
theorem dX12_image_74 : decode cX12_image 74 = .ok (.iload_n 1, 1) := by decide +kernel
theorem dX12_image_75 : decode cX12_image 75 = .ok (.iadd, 1) := by decide +kernel
theorem dX12_image_76 : decode cX12_image 76 = .ok (.iaload, 1) := by decide +kernel
theorem dX12_image_77 : decode cX12_image 77 = .ok (.invokevirtual 644, 3) := by decide +kernel
theorem dX12_image_80 : decode cX12_image 80 = .ok (.iinc 1 1, 3) := by decide +kernel
theorem dX12_image_83 : decode cX12_image 83 = .ok (.goto (-26), 3) := by decide +kernel
theorem dX12_image_86 : decode cX12_image 86 = .ok (.aload_n 0, 1) := by decide +kernel
theorem dX12_image_87 : decode cX12_image 87 = .ok (.aload_n 0, 1) := by decide +kernel
theorem dX12_image_88 : decode cX12_image 88 = .ok (.getfield 224, 3) := by decide +kernel
theorem dX12_image_91 : decode cX12_image 91 = .ok (.aload_n 0, 1) := by decide +kernel
theorem dX12_image_92 : decode cX12_image 92 = .ok (.getfield 641, 3) := by decide +kernel
theorem dX12_image_95 : decode cX12_image 95 = .ok (.invokestatic 650, 3) := by decide +kernel
theorem dX12_image_98 : decode cX12_image 98 = .ok (.invokevirtual 644, 3) := by decide +kernel
theorem dX12_image_101 : decode cX12_image 101 = .ok (.aload_n 0, 1) := by decide +kernel
theorem dX12_image_102 : decode cX12_image 102 = .ok (.getfield 641, 3) := by decide +kernel
theorem dX12_image_105 : decode cX12_image 105 = .ok (.ireturn, 1) := by decide +kernel
theorem kc_RX12_647 : Cond.methodLink RX12 647 yX12_writesTwo ∈ ktG ∧ (Cond.instanceMethod yX12_writesTwo ∈ ktG ∧ Cond.selects yX12_writesTwo.cls yX12_writesTwo yX12_writesTwo ∈ ktG) ∧ Cond.initialized yX12_writesTwo.cls ∈ ktG ∧ Cond.code yX12_writesTwo cX12_writesTwo 2 none ∈ ktG := ⟨(kwm 1989 (by decide +kernel) (by decide +kernel)), ⟨(kwm 1991 (by decide +kernel) (by decide +kernel)), (kwm 118 (by decide +kernel) (by decide +kernel))⟩, (kwm 139 (by decide +kernel) (by decide +kernel)), kwm 1992 (by decide +kernel) (by decide +kernel)⟩
theorem kh_X12_writesTwo : yX12_writesTwo.cls ≠ "java/lang/invoke/MethodHandle" ∧ yX12_writesTwo.cls ≠ "java/lang/invoke/VarHandle" ∧ (parseMethodDescriptor yX12_writesTwo.desc).map (fun d => d.parameters.length) = some 1 := by decide +kernel
theorem kc_RX12_650 : Cond.methodLink RX12 650 yX12_checked ∈ ktG ∧ Cond.static yX12_checked ∈ ktG ∧ Cond.initialized yX12_checked.cls ∈ ktG ∧ Cond.code yX12_checked cX12_checked 4 (some .int) ∈ ktG := ⟨(kwm 1997 (by decide +kernel) (by decide +kernel)), (kwm 1998 (by decide +kernel) (by decide +kernel)), (kwm 139 (by decide +kernel) (by decide +kernel)), kwm 1999 (by decide +kernel) (by decide +kernel)⟩
theorem kh_X12_checked : yX12_checked.cls ≠ "java/lang/invoke/MethodHandle" ∧ yX12_checked.cls ≠ "java/lang/invoke/VarHandle" ∧ (parseMethodDescriptor yX12_checked.desc).map (fun d => d.parameters.length) = some 2 := by decide +kernel
def E_X12_image_l27 (v0 : Nat) : KH → Nat → List (Nat × Value) → List Value → KH → Prop := fun (e : KH) pc ls st hh => pc = 55 ∧ ls = [(0, .ref v0)] ∧ st = [] ∧ e = hh
def B_X12_image_l27 (v0 : Nat) : ((Int32 × KH) ⊕ (KH)) → Nat → List (Nat × Value) → List Value → KH → Prop := Sum.elim (fun (s : Int32 × KH) pc ls st hh => pc = 27 ∧ ls = [(0, .ref v0), (1, .int s.1)] ∧ st = [] ∧ hh = s.2) (E_X12_image_l27 v0)
def f_X12_image_l27 (v0 : Nat) (s : Int32 × KH) : Option ((Int32 × KH) ⊕ (KH)) :=
  if kkind v0 = 12 then kb (f_X12_testMany s.2 v0) fun r2 =>
  if ((2 : Int32) * r2) ≤ s.1 then
  some (.inr s.2)
  else
  if (kR s.2 v0 45) < 999999 then if kkind (kR s.2 v0 45) = 20 then if (((2 : Int32) + s.1) < 0 ∨ klen (kR s.2 v0 45) ≤ (((2 : Int32) + s.1)).toNatClampNeg) then none else kb (f_X12_writes s.2 v0 (kI s.2 (kR s.2 v0 45) ((((2 : Int32) + s.1)).toNatClampNeg))) fun r9 =>
  kl (s.1 + (1 : Int32)) fun x13 =>
  some (.inl (x13, r9)) else none else none else none
set_option maxHeartbeats 4000000 in
set_option maxRecDepth 100000 in
theorem s_X12_image_l27 {Z : Nat → (Nat → Nat) → State → Prop} (v0 : Nat) (s : Int32 × KH) (t : (Int32 × KH) ⊕ (KH)) (hn : (s.2).1 = 243) (H : f_X12_image_l27 v0 s = some t) : KX Z RX12 cX12_image 2 false 3 (B_X12_image_l27 v0 t) 27 [(0, .ref v0), (1, .int s.1)] [] s.2 := by
  unfold f_X12_image_l27 at H
  refine x_iload_n (q := 28) dX12_image_27 rfl rfl ?_
  refine x_iconst (q := 29) (v := (2 : Int32)) dX12_image_28 rfl (by decide) ?_
  refine x_aload_n (q := 30) dX12_image_29 rfl rfl ?_
  replace H := kif H; obtain ⟨g1, H⟩ := H
  replace H := kbe H; obtain ⟨r2, c3, H⟩ := H
  have m4 := s_X12_testMany (Z := Z) s.2 v0 hn c3
  refine x_callV (q := 33) (as := []) (rest := [.int (2 : Int32), .int s.1]) dX12_image_30 rfl kc_RX12_367 kh_X12_testMany (by decide) (Nat.le_of_ble_eq_true rfl) m4 (ci := 12) (by exact ⟨rfl, by decide⟩) (k243 g1 (by decide) hn) ?_
  refine x_imul (q := 34) dX12_image_33 rfl ?_
  replace H := kite H; rcases H with ⟨g5, H⟩ | ⟨g5, H⟩
  · refine x_icmp_ge_t dX12_image_34 (q := 55) (by decide) g5 ?_
    cases H
    refine x_sub (ls2 := [(0, .ref v0)]) [0] rfl ?_
    exact x_end (x_cfg rfl)
  · refine x_icmp_ge_f (q := 37) dX12_image_34 (t := 55) (by decide) rfl g5 ?_
    refine x_aload_n (q := 38) dX12_image_37 rfl rfl ?_
    refine x_aload_n (q := 39) dX12_image_38 rfl rfl ?_
    replace H := kif H; obtain ⟨g6, H⟩ := H
    refine x_getR (q := 42) dX12_image_39 rfl kl_RX12_115 rfl (k243 g1 (by decide) hn) g6 ?_
    refine x_iconst (q := 43) (v := (2 : Int32)) dX12_image_42 rfl (by decide) ?_
    refine x_iload_n (q := 44) dX12_image_43 rfl rfl ?_
    refine x_iadd (q := 45) dX12_image_44 rfl ?_
    replace H := kif H; obtain ⟨g7, H⟩ := H
    replace H := kifn H; obtain ⟨g8, H⟩ := H
    refine x_iald (q := 46) dX12_image_45 rfl (k243 g7 (by decide) hn) g8 ?_
    replace H := kbe H; obtain ⟨r9, c10, H⟩ := H
    have m11 := s_X12_writes (Z := Z) s.2 v0 (kI s.2 (kR s.2 v0 45) ((((2 : Int32) + s.1)).toNatClampNeg)) hn c10
    refine x_callV (q := 49) (as := [.int (kI s.2 (kR s.2 v0 45) ((((2 : Int32) + s.1)).toNatClampNeg))]) (rest := []) dX12_image_46 rfl kc_RX12_644 kh_X12_writes (by decide) (Nat.le_of_ble_eq_true rfl) m11 (ci := 12) (by exact ⟨rfl, by decide⟩) (k243 g1 (by decide) hn) ?_
    have n12 : (r9).1 = 243 := m11.1.full hn
    replace H := kle H; obtain ⟨x13, q14, H⟩ := H
    refine x_iinc (q := 52) (i := 1) (ls2 := [(1, .int x13), (0, .ref v0)]) dX12_image_49 rfl rfl (by decide) (by rw [q14]; rfl) ?_
    refine x_goto dX12_image_52 (q := 27) (by decide) ?_
    cases H
    refine x_sub (ls2 := [(0, .ref v0), (1, .int x13)]) [1, 0] rfl ?_
    exact x_end (x_cfg rfl)
theorem sl_X12_image_l27 {Z : Nat → (Nat → Nat) → State → Prop} (v0 : Nat) (n : Nat) (s : Int32 × KH) (r : KH) (hn : (s.2).1 = 243) (H : kloop (f_X12_image_l27 v0) n s = some r) : KX Z RX12 cX12_image 2 false 3 (E_X12_image_l27 v0 r) 27 [(0, .ref v0), (1, .int s.1)] [] s.2 :=
  k_loop (ls := (fun (s : Int32 × KH) => ([(0, .ref v0), (1, .int s.1)] : List (Nat × Value)))) (hp := (fun (s : Int32 × KH) => (s.2 : KH))) (G := E_X12_image_l27 v0) (fun s t hn H => s_X12_image_l27 v0 s t hn H) n s r hn H
def E_X12_image_l57 (v0 : Nat) : KH → Nat → List (Nat × Value) → List Value → KH → Prop := fun (e : KH) pc ls st hh => pc = 86 ∧ ls = [(0, .ref v0)] ∧ st = [] ∧ e = hh
def B_X12_image_l57 (v0 : Nat) : ((Int32 × KH) ⊕ (KH)) → Nat → List (Nat × Value) → List Value → KH → Prop := Sum.elim (fun (s : Int32 × KH) pc ls st hh => pc = 57 ∧ ls = [(0, .ref v0), (1, .int s.1)] ∧ st = [] ∧ hh = s.2) (E_X12_image_l57 v0)
def f_X12_image_l57 (v0 : Nat) (s : Int32 × KH) : Option ((Int32 × KH) ⊕ (KH)) :=
  if kkind v0 = 12 then kb (f_X12_markMany s.2 v0) fun r2 =>
  if ((2 : Int32) * r2) ≤ s.1 then
  some (.inr s.2)
  else
  if (kR s.2 v0 45) < 999999 then if kkind (kR s.2 v0 45) = 20 then if (((14 : Int32) + s.1) < 0 ∨ klen (kR s.2 v0 45) ≤ (((14 : Int32) + s.1)).toNatClampNeg) then none else kb (f_X12_writes s.2 v0 (kI s.2 (kR s.2 v0 45) ((((14 : Int32) + s.1)).toNatClampNeg))) fun r9 =>
  kl (s.1 + (1 : Int32)) fun x13 =>
  some (.inl (x13, r9)) else none else none else none
set_option maxHeartbeats 4000000 in
set_option maxRecDepth 100000 in
theorem s_X12_image_l57 {Z : Nat → (Nat → Nat) → State → Prop} (v0 : Nat) (s : Int32 × KH) (t : (Int32 × KH) ⊕ (KH)) (hn : (s.2).1 = 243) (H : f_X12_image_l57 v0 s = some t) : KX Z RX12 cX12_image 2 false 3 (B_X12_image_l57 v0 t) 57 [(0, .ref v0), (1, .int s.1)] [] s.2 := by
  unfold f_X12_image_l57 at H
  refine x_iload_n (q := 58) dX12_image_57 rfl rfl ?_
  refine x_iconst (q := 59) (v := (2 : Int32)) dX12_image_58 rfl (by decide) ?_
  refine x_aload_n (q := 60) dX12_image_59 rfl rfl ?_
  replace H := kif H; obtain ⟨g1, H⟩ := H
  replace H := kbe H; obtain ⟨r2, c3, H⟩ := H
  have m4 := s_X12_markMany (Z := Z) s.2 v0 hn c3
  refine x_callV (q := 63) (as := []) (rest := [.int (2 : Int32), .int s.1]) dX12_image_60 rfl kc_RX12_403 kh_X12_markMany (by decide) (Nat.le_of_ble_eq_true rfl) m4 (ci := 12) (by exact ⟨rfl, by decide⟩) (k243 g1 (by decide) hn) ?_
  refine x_imul (q := 64) dX12_image_63 rfl ?_
  replace H := kite H; rcases H with ⟨g5, H⟩ | ⟨g5, H⟩
  · refine x_icmp_ge_t dX12_image_64 (q := 86) (by decide) g5 ?_
    cases H
    refine x_sub (ls2 := [(0, .ref v0)]) [0] rfl ?_
    exact x_end (x_cfg rfl)
  · refine x_icmp_ge_f (q := 67) dX12_image_64 (t := 86) (by decide) rfl g5 ?_
    refine x_aload_n (q := 68) dX12_image_67 rfl rfl ?_
    refine x_aload_n (q := 69) dX12_image_68 rfl rfl ?_
    replace H := kif H; obtain ⟨g6, H⟩ := H
    refine x_getR (q := 72) dX12_image_69 rfl kl_RX12_115 rfl (k243 g1 (by decide) hn) g6 ?_
    refine x_bipush (q := 74) (v := (14 : Int32)) dX12_image_72 rfl (by decide) ?_
    refine x_iload_n (q := 75) dX12_image_74 rfl rfl ?_
    refine x_iadd (q := 76) dX12_image_75 rfl ?_
    replace H := kif H; obtain ⟨g7, H⟩ := H
    replace H := kifn H; obtain ⟨g8, H⟩ := H
    refine x_iald (q := 77) dX12_image_76 rfl (k243 g7 (by decide) hn) g8 ?_
    replace H := kbe H; obtain ⟨r9, c10, H⟩ := H
    have m11 := s_X12_writes (Z := Z) s.2 v0 (kI s.2 (kR s.2 v0 45) ((((14 : Int32) + s.1)).toNatClampNeg)) hn c10
    refine x_callV (q := 80) (as := [.int (kI s.2 (kR s.2 v0 45) ((((14 : Int32) + s.1)).toNatClampNeg))]) (rest := []) dX12_image_77 rfl kc_RX12_644 kh_X12_writes (by decide) (Nat.le_of_ble_eq_true rfl) m11 (ci := 12) (by exact ⟨rfl, by decide⟩) (k243 g1 (by decide) hn) ?_
    have n12 : (r9).1 = 243 := m11.1.full hn
    replace H := kle H; obtain ⟨x13, q14, H⟩ := H
    refine x_iinc (q := 83) (i := 1) (ls2 := [(1, .int x13), (0, .ref v0)]) dX12_image_80 rfl rfl (by decide) (by rw [q14]; rfl) ?_
    refine x_goto dX12_image_83 (q := 57) (by decide) ?_
    cases H
    refine x_sub (ls2 := [(0, .ref v0), (1, .int x13)]) [1, 0] rfl ?_
    exact x_end (x_cfg rfl)
theorem sl_X12_image_l57 {Z : Nat → (Nat → Nat) → State → Prop} (v0 : Nat) (n : Nat) (s : Int32 × KH) (r : KH) (hn : (s.2).1 = 243) (H : kloop (f_X12_image_l57 v0) n s = some r) : KX Z RX12 cX12_image 2 false 3 (E_X12_image_l57 v0 r) 57 [(0, .ref v0), (1, .int s.1)] [] s.2 :=
  k_loop (ls := (fun (s : Int32 × KH) => ([(0, .ref v0), (1, .int s.1)] : List (Nat × Value)))) (hp := (fun (s : Int32 × KH) => (s.2 : KH))) (G := E_X12_image_l57 v0) (fun s t hn H => s_X12_image_l57 v0 s t hn H) n s r hn H
def f_X12_image (h : KH) (v0 : Nat) : Option (Int32 × KH) :=
  if kkind v0 = 12 then kl (ksI h v0 96 (0 : Int32)) fun h2 =>
  if (kR h2 v0 45) < 999999 then if kkind (kR h2 v0 45) = 20 then if klen (kR h2 v0 45) ≤ 0 then none else kb (f_X12_writesTwo h2 v0 (kI h2 (kR h2 v0 45) 0)) fun r8 =>
  if (kR r8 v0 45) < 999999 then if kkind (kR r8 v0 45) = 20 then if klen (kR r8 v0 45) ≤ 1 then none else kb (f_X12_writesTwo r8 v0 (kI r8 (kR r8 v0 45) 1)) fun r15 =>
  kb (kloop (f_X12_image_l27 v0) KF ((0 : Int32), r15)) fun e19 =>
  kb (kloop (f_X12_image_l57 v0) KF ((0 : Int32), e19)) fun e22 =>
  if (kR e22 v0 95) < 999999 then kb (f_X12_checked e22 (kR e22 v0 95) (kI e22 v0 96)) fun r26 =>
  kb (f_X12_writes e22 v0 r26) fun r29 =>
  some ((kI r29 v0 96), r29) else none else none else none else none else none else none
set_option maxHeartbeats 4000000 in
set_option maxRecDepth 100000 in
theorem s0_X12_image {Z : Nat → (Nat → Nat) → State → Prop} (h : KH) (v0 : Nat) {t : Int32 × KH} (hn : h.1 = 243) (H : f_X12_image h v0 = some t) : KX Z RX12 cX12_image 2 false 3 (KRi cX12_image t.1 t.2) 0 [(0, .ref v0)] [] h := by
  unfold f_X12_image at H
  refine x_aload_n (q := 1) dX12_image_0 rfl rfl ?_
  refine x_iconst (q := 2) (v := (0 : Int32)) dX12_image_1 rfl (by decide) ?_
  replace H := kif H; obtain ⟨g1, H⟩ := H
  replace H := kle H; obtain ⟨h2, q3, H⟩ := H
  refine x_putI (q := 5) dX12_image_2 rfl kl_RX12_641 (Or.inl rfl) rfl (k243 g1 (by decide) hn) ?_
  refine x_nmH q3 ?_
  have n4 : h2.1 = 243 := by rw [q3]; exact hn
  refine x_aload_n (q := 6) dX12_image_5 rfl rfl ?_
  refine x_aload_n (q := 7) dX12_image_6 rfl rfl ?_
  replace H := kif H; obtain ⟨g5, H⟩ := H
  refine x_getR (q := 10) dX12_image_7 rfl kl_RX12_115 rfl (k243 g1 (by decide) n4) g5 ?_
  refine x_iconst (q := 11) (v := (0 : Int32)) dX12_image_10 rfl (by decide) ?_
  replace H := kif H; obtain ⟨g6, H⟩ := H
  replace H := kifn H; obtain ⟨g7, H⟩ := H
  refine x_iald (q := 12) dX12_image_11 rfl (k243 g6 (by decide) n4) (fun z => z.elim (by decide) g7) ?_
  replace H := kbe H; obtain ⟨r8, c9, H⟩ := H
  have m10 := s_X12_writesTwo (Z := Z) h2 v0 (kI h2 (kR h2 v0 45) 0) n4 c9
  refine x_callV (q := 15) (as := [.int (kI h2 (kR h2 v0 45) 0)]) (rest := []) dX12_image_12 rfl kc_RX12_647 kh_X12_writesTwo (by decide) (Nat.le_of_ble_eq_true rfl) m10 (ci := 12) (by exact ⟨rfl, by decide⟩) (k243 g1 (by decide) n4) ?_
  have n11 : (r8).1 = 243 := m10.1.full n4
  refine x_aload_n (q := 16) dX12_image_15 rfl rfl ?_
  refine x_aload_n (q := 17) dX12_image_16 rfl rfl ?_
  replace H := kif H; obtain ⟨g12, H⟩ := H
  refine x_getR (q := 20) dX12_image_17 rfl kl_RX12_115 rfl (k243 g1 (by decide) n11) g12 ?_
  refine x_iconst (q := 21) (v := (1 : Int32)) dX12_image_20 rfl (by decide) ?_
  replace H := kif H; obtain ⟨g13, H⟩ := H
  replace H := kifn H; obtain ⟨g14, H⟩ := H
  refine x_iald (q := 22) dX12_image_21 rfl (k243 g13 (by decide) n11) (fun z => z.elim (by decide) g14) ?_
  replace H := kbe H; obtain ⟨r15, c16, H⟩ := H
  have m17 := s_X12_writesTwo (Z := Z) r8 v0 (kI r8 (kR r8 v0 45) 1) n11 c16
  refine x_callV (q := 25) (as := [.int (kI r8 (kR r8 v0 45) 1)]) (rest := []) dX12_image_22 rfl kc_RX12_647 kh_X12_writesTwo (by decide) (Nat.le_of_ble_eq_true rfl) m17 (ci := 12) (by exact ⟨rfl, by decide⟩) (k243 g1 (by decide) n11) ?_
  have n18 : (r15).1 = 243 := m17.1.full n11
  refine x_iconst (q := 26) (v := (0 : Int32)) dX12_image_25 rfl (by decide) ?_
  refine x_istore_n (q := 27) (i := 1) (ls2 := [(1, .int (0 : Int32)), (0, .ref v0)]) dX12_image_26 rfl rfl (by decide) rfl ?_
  refine x_sub (ls2 := [(0, .ref v0), (1, .int (0 : Int32))]) [1, 0] rfl ?_
  replace H := kbe H; obtain ⟨e19, c20, H⟩ := H
  refine x_app (sl_X12_image_l27 v0 KF ((0 : Int32), r15) e19 n18 c20) fun pc2 ls2 st2 h2 hg m21 => ?_
  obtain ⟨rfl, rfl, rfl, rfl⟩ := hg
  refine x_iconst (q := 56) (v := (0 : Int32)) dX12_image_55 rfl (by decide) ?_
  refine x_istore_n (q := 57) (i := 1) (ls2 := [(1, .int (0 : Int32)), (0, .ref v0)]) dX12_image_56 rfl rfl (by decide) rfl ?_
  refine x_sub (ls2 := [(0, .ref v0), (1, .int (0 : Int32))]) [1, 0] rfl ?_
  replace H := kbe H; obtain ⟨e22, c23, H⟩ := H
  refine x_app (sl_X12_image_l57 v0 KF ((0 : Int32), e19) e22 (m21.full n18) c23) fun pc2 ls2 st2 h2 hg m24 => ?_
  obtain ⟨rfl, rfl, rfl, rfl⟩ := hg
  refine x_aload_n (q := 87) dX12_image_86 rfl rfl ?_
  refine x_aload_n (q := 88) dX12_image_87 rfl rfl ?_
  replace H := kif H; obtain ⟨g25, H⟩ := H
  refine x_getR (q := 91) dX12_image_88 rfl kl_RX12_224 rfl (k243 g1 (by decide) (m24.full (m21.full n18))) g25 ?_
  refine x_aload_n (q := 92) dX12_image_91 rfl rfl ?_
  refine x_getI (q := 95) dX12_image_92 rfl kl_RX12_641 (Or.inl rfl) (k243 g1 (by decide) (m24.full (m21.full n18))) ?_
  replace H := kbe H; obtain ⟨r26, c27, H⟩ := H
  have m28 := s_X12_checked (Z := Z) e22 (kR e22 v0 95) (kI e22 v0 96) (m24.full (m21.full n18)) c27
  refine x_callS (q := 98) (as := [.ref (kR e22 v0 95), .int (kI e22 v0 96)]) (rest := [.ref v0]) dX12_image_95 rfl kc_RX12_650 kh_X12_checked (by decide) (Nat.le_of_ble_eq_true rfl) m28 ?_
  replace H := kbe H; obtain ⟨r29, c30, H⟩ := H
  have m31 := s_X12_writes (Z := Z) e22 v0 r26 (m24.full (m21.full n18)) c30
  refine x_callV (q := 101) (as := [.int r26]) (rest := []) dX12_image_98 rfl kc_RX12_644 kh_X12_writes (by decide) (Nat.le_of_ble_eq_true rfl) m31 (ci := 12) (by exact ⟨rfl, by decide⟩) (k243 g1 (by decide) (m24.full (m21.full n18))) ?_
  have n32 : (r29).1 = 243 := m31.1.full (m24.full (m21.full n18))
  refine x_aload_n (q := 102) dX12_image_101 rfl rfl ?_
  refine x_getI (q := 105) dX12_image_102 rfl kl_RX12_641 (Or.inl rfl) (k243 g1 (by decide) n32) ?_
  cases H
  exact x_end ⟨dX12_image_105, rfl, rfl⟩
theorem s_X12_image {Z : Nat → (Nat → Nat) → State → Prop} (h : KH) (v0 : Nat) {t : Int32 × KH} (hn : h.1 = 243) (H : f_X12_image h v0 = some t) : KM Z yX12_image cX12_image 2 (some .int) 3 [.ref v0] h (some (.int t.1)) t.2 :=
  kx_i (own := RX12) (ini := false) (by decide +kernel) (by decide +kernel) rfl (Nat.le_of_ble_eq_true rfl) (s0_X12_image h v0 hn H)
theorem dX12_octet_0 : decode cX12_octet 0 = .ok (.iload_n 1, 1) := by decide +kernel
theorem dX12_octet_1 : decode cX12_octet 1 = .ok (.ifCond .lt 20, 3) := by decide +kernel
theorem dX12_octet_4 : decode cX12_octet 4 = .ok (.iload_n 1, 1) := by decide +kernel
theorem dX12_octet_5 : decode cX12_octet 5 = .ok (.aload_n 0, 1) := by decide +kernel
theorem dX12_octet_6 : decode cX12_octet 6 = .ok (.getfield 641, 3) := by decide +kernel
theorem dX12_octet_9 : decode cX12_octet 9 = .ok (.if_icmp .ge 12, 3) := by decide +kernel
theorem dX12_octet_12 : decode cX12_octet 12 = .ok (.aload_n 0, 1) := by decide +kernel
theorem dX12_octet_13 : decode cX12_octet 13 = .ok (.getfield 224, 3) := by decide +kernel
theorem dX12_octet_16 : decode cX12_octet 16 = .ok (.iload_n 1, 1) := by decide +kernel
theorem dX12_octet_17 : decode cX12_octet 17 = .ok (.iaload, 1) := by decide +kernel
theorem dX12_octet_18 : decode cX12_octet 18 = .ok (.goto 4, 3) := by decide +kernel
theorem dX12_octet_21 : decode cX12_octet 21 = .ok (.iconst (-1), 1) := by decide +kernel
theorem dX12_octet_22 : decode cX12_octet 22 = .ok (.ireturn, 1) := by decide +kernel
def f_X12_octet (h : KH) (v0 : Nat) (v1 : Int32) : Option (Int32) :=
  if v1 < 0 then
  some (-1 : Int32)
  else
  if kkind v0 = 12 then if (kI h v0 96) ≤ v1 then
  some (-1 : Int32)
  else
  if (kR h v0 95) < 999999 then if kkind (kR h v0 95) = 20 then if (v1 < 0 ∨ klen (kR h v0 95) ≤ (v1).toNatClampNeg) then none else some (kI h (kR h v0 95) ((v1).toNatClampNeg)) else none else none else none
set_option maxHeartbeats 4000000 in
set_option maxRecDepth 100000 in
theorem s0_X12_octet {Z : Nat → (Nat → Nat) → State → Prop} (h : KH) (v0 : Nat) (v1 : Int32) {t : Int32} (hn : h.1 = 243) (H : f_X12_octet h v0 v1 = some t) : KX Z RX12 cX12_octet 2 false 1 (KRi cX12_octet t h) 0 [(0, .ref v0), (1, .int v1)] [] h := by
  unfold f_X12_octet at H
  refine x_iload_n (q := 1) dX12_octet_0 rfl rfl ?_
  replace H := kite H; rcases H with ⟨g1, H⟩ | ⟨g1, H⟩
  · refine x_if_lt_t dX12_octet_1 (q := 21) (by decide) g1 ?_
    refine x_iconst (q := 22) (v := (-1 : Int32)) dX12_octet_21 rfl (by decide) ?_
    cases H
    exact x_end ⟨dX12_octet_22, rfl, rfl⟩
  · refine x_if_lt_f (q := 4) dX12_octet_1 (t := 21) (by decide) rfl g1 ?_
    refine x_iload_n (q := 5) dX12_octet_4 rfl rfl ?_
    refine x_aload_n (q := 6) dX12_octet_5 rfl rfl ?_
    replace H := kif H; obtain ⟨g2, H⟩ := H
    refine x_getI (q := 9) dX12_octet_6 rfl kl_RX12_641 (Or.inl rfl) (k243 g2 (by decide) hn) ?_
    replace H := kite H; rcases H with ⟨g3, H⟩ | ⟨g3, H⟩
    · refine x_icmp_ge_t dX12_octet_9 (q := 21) (by decide) g3 ?_
      refine x_iconst (q := 22) (v := (-1 : Int32)) dX12_octet_21 rfl (by decide) ?_
      cases H
      exact x_end ⟨dX12_octet_22, rfl, rfl⟩
    · refine x_icmp_ge_f (q := 12) dX12_octet_9 (t := 21) (by decide) rfl g3 ?_
      refine x_aload_n (q := 13) dX12_octet_12 rfl rfl ?_
      replace H := kif H; obtain ⟨g4, H⟩ := H
      refine x_getR (q := 16) dX12_octet_13 rfl kl_RX12_224 rfl (k243 g2 (by decide) hn) g4 ?_
      refine x_iload_n (q := 17) dX12_octet_16 rfl rfl ?_
      replace H := kif H; obtain ⟨g5, H⟩ := H
      replace H := kifn H; obtain ⟨g6, H⟩ := H
      refine x_iald (q := 18) dX12_octet_17 rfl (k243 g5 (by decide) hn) g6 ?_
      refine x_goto dX12_octet_18 (q := 22) (by decide) ?_
      cases H
      exact x_end ⟨dX12_octet_22, rfl, rfl⟩
theorem s_X12_octet {Z : Nat → (Nat → Nat) → State → Prop} (h : KH) (v0 : Nat) (v1 : Int32) {t : Int32} (hn : h.1 = 243) (H : f_X12_octet h v0 v1 = some t) : KM Z yX12_octet cX12_octet 2 (some .int) 1 [.ref v0, .int v1] h (some (.int t)) h :=
  kx_i (own := RX12) (ini := false) (by decide +kernel) (by decide +kernel) rfl (Nat.le_of_ble_eq_true rfl) (s0_X12_octet h v0 v1 hn H)
theorem dX12_twoAt_0 : decode cX12_twoAt 0 = .ok (.sipush 256, 3) := by decide +kernel
theorem dX12_twoAt_3 : decode cX12_twoAt 3 = .ok (.aload_n 0, 1) := by decide +kernel
theorem dX12_twoAt_4 : decode cX12_twoAt 4 = .ok (.getfield 7, 3) := by decide +kernel
theorem dX12_twoAt_7 : decode cX12_twoAt 7 = .ok (.iload_n 1, 1) := by decide +kernel
theorem dX12_twoAt_8 : decode cX12_twoAt 8 = .ok (.iaload, 1) := by decide +kernel
theorem dX12_twoAt_9 : decode cX12_twoAt 9 = .ok (.imul, 1) := by decide +kernel
theorem dX12_twoAt_10 : decode cX12_twoAt 10 = .ok (.aload_n 0, 1) := by decide +kernel
theorem dX12_twoAt_11 : decode cX12_twoAt 11 = .ok (.getfield 7, 3) := by decide +kernel
theorem dX12_twoAt_14 : decode cX12_twoAt 14 = .ok (.iload_n 1, 1) := by decide +kernel
theorem dX12_twoAt_15 : decode cX12_twoAt 15 = .ok (.iconst 1, 1) := by decide +kernel
theorem dX12_twoAt_16 : decode cX12_twoAt 16 = .ok (.iadd, 1) := by decide +kernel
theorem dX12_twoAt_17 : decode cX12_twoAt 17 = .ok (.iaload, 1) := by decide +kernel
theorem dX12_twoAt_18 : decode cX12_twoAt 18 = .ok (.iadd, 1) := by decide +kernel
theorem dX12_twoAt_19 : decode cX12_twoAt 19 = .ok (.ireturn, 1) := by decide +kernel
def f_X12_twoAt (h : KH) (v0 : Nat) (v1 : Int32) : Option (Int32) :=
  if kkind v0 = 12 then if (kR h v0 0) < 999999 then if kkind (kR h v0 0) = 20 then if (v1 < 0 ∨ klen (kR h v0 0) ≤ (v1).toNatClampNeg) then none else if ((v1 + (1 : Int32)) < 0 ∨ klen (kR h v0 0) ≤ ((v1 + (1 : Int32))).toNatClampNeg) then none else some (((256 : Int32) * (kI h (kR h v0 0) ((v1).toNatClampNeg))) + (kI h (kR h v0 0) (((v1 + (1 : Int32))).toNatClampNeg))) else none else none else none
set_option maxHeartbeats 4000000 in
set_option maxRecDepth 100000 in
theorem s0_X12_twoAt {Z : Nat → (Nat → Nat) → State → Prop} (h : KH) (v0 : Nat) (v1 : Int32) {t : Int32} (hn : h.1 = 243) (H : f_X12_twoAt h v0 v1 = some t) : KX Z RX12 cX12_twoAt 2 false 1 (KRi cX12_twoAt t h) 0 [(0, .ref v0), (1, .int v1)] [] h := by
  unfold f_X12_twoAt at H
  refine x_sipush (q := 3) (v := (256 : Int32)) dX12_twoAt_0 rfl (by decide) ?_
  refine x_aload_n (q := 4) dX12_twoAt_3 rfl rfl ?_
  replace H := kif H; obtain ⟨g1, H⟩ := H
  replace H := kif H; obtain ⟨g2, H⟩ := H
  refine x_getR (q := 7) dX12_twoAt_4 rfl kl_RX12_7 rfl (k243 g1 (by decide) hn) g2 ?_
  refine x_iload_n (q := 8) dX12_twoAt_7 rfl rfl ?_
  replace H := kif H; obtain ⟨g3, H⟩ := H
  replace H := kifn H; obtain ⟨g4, H⟩ := H
  refine x_iald (q := 9) dX12_twoAt_8 rfl (k243 g3 (by decide) hn) g4 ?_
  refine x_imul (q := 10) dX12_twoAt_9 rfl ?_
  refine x_aload_n (q := 11) dX12_twoAt_10 rfl rfl ?_
  refine x_getR (q := 14) dX12_twoAt_11 rfl kl_RX12_7 rfl (k243 g1 (by decide) hn) g2 ?_
  refine x_iload_n (q := 15) dX12_twoAt_14 rfl rfl ?_
  refine x_iconst (q := 16) (v := (1 : Int32)) dX12_twoAt_15 rfl (by decide) ?_
  refine x_iadd (q := 17) dX12_twoAt_16 rfl ?_
  replace H := kifn H; obtain ⟨g5, H⟩ := H
  refine x_iald (q := 18) dX12_twoAt_17 rfl (k243 g3 (by decide) hn) g5 ?_
  refine x_iadd (q := 19) dX12_twoAt_18 rfl ?_
  cases H
  exact x_end ⟨dX12_twoAt_19, rfl, rfl⟩
theorem s_X12_twoAt {Z : Nat → (Nat → Nat) → State → Prop} (h : KH) (v0 : Nat) (v1 : Int32) {t : Int32} (hn : h.1 = 243) (H : f_X12_twoAt h v0 v1 = some t) : KM Z yX12_twoAt cX12_twoAt 2 (some .int) 1 [.ref v0, .int v1] h (some (.int t)) h :=
  kx_i (own := RX12) (ini := false) (by decide +kernel) (by decide +kernel) rfl (Nat.le_of_ble_eq_true rfl) (s0_X12_twoAt h v0 v1 hn H)
theorem dX12_isImage_0 : decode cX12_isImage 0 = .ok (.iconst 4, 1) := by decide +kernel
theorem dX12_isImage_1 : decode cX12_isImage 1 = .ok (.iconst 2, 1) := by decide +kernel
theorem dX12_isImage_2 : decode cX12_isImage 2 = .ok (.aload_n 0, 1) := by decide +kernel
theorem dX12_isImage_3 : decode cX12_isImage 3 = .ok (.invokevirtual 367, 3) := by decide +kernel
theorem dX12_isImage_6 : decode cX12_isImage 6 = .ok (.imul, 1) := by decide +kernel
theorem dX12_isImage_7 : decode cX12_isImage 7 = .ok (.iadd, 1) := by decide +kernel
theorem dX12_isImage_8 : decode cX12_isImage 8 = .ok (.istore_n 2, 1) := by decide +kernel
theorem dX12_isImage_9 : decode cX12_isImage 9 = .ok (.iload_n 1, 1) := by decide +kernel
theorem dX12_isImage_10 : decode cX12_isImage 10 = .ok (.iload_n 2, 1) := by decide +kernel
theorem dX12_isImage_11 : decode cX12_isImage 11 = .ok (.iconst 2, 1) := by decide +kernel
theorem dX12_isImage_12 : decode cX12_isImage 12 = .ok (.aload_n 0, 1) := by decide +kernel
theorem dX12_isImage_13 : decode cX12_isImage 13 = .ok (.invokevirtual 403, 3) := by decide +kernel
theorem dX12_isImage_16 : decode cX12_isImage 16 = .ok (.imul, 1) := by decide +kernel
theorem dX12_isImage_17 : decode cX12_isImage 17 = .ok (.iadd, 1) := by decide +kernel
theorem dX12_isImage_18 : decode cX12_isImage 18 = .ok (.iconst 1, 1) := by decide +kernel
theorem dX12_isImage_19 : decode cX12_isImage 19 = .ok (.iadd, 1) := by decide +kernel
theorem dX12_isImage_20 : decode cX12_isImage 20 = .ok (.if_icmp .ne 46, 3) := by decide +kernel
theorem dX12_isImage_23 : decode cX12_isImage 23 = .ok (.aload_n 0, 1) := by decide +kernel
theorem dX12_isImage_24 : decode cX12_isImage 24 = .ok (.getfield 7, 3) := by decide +kernel
theorem dX12_isImage_27 : decode cX12_isImage 27 = .ok (.iload_n 1, 1) := by decide +kernel
theorem dX12_isImage_28 : decode cX12_isImage 28 = .ok (.iconst 1, 1) := by decide +kernel
theorem dX12_isImage_29 : decode cX12_isImage 29 = .ok (.isub, 1) := by decide +kernel
theorem dX12_isImage_30 : decode cX12_isImage 30 = .ok (.iaload, 1) := by decide +kernel
theorem dX12_isImage_31 : decode cX12_isImage 31 = .ok (.aload_n 0, 1) := by decide +kernel
theorem dX12_isImage_32 : decode cX12_isImage 32 = .ok (.getfield 7, 3) := by decide +kernel
theorem dX12_isImage_35 : decode cX12_isImage 35 = .ok (.iload_n 1, 1) := by decide +kernel
theorem dX12_isImage_36 : decode cX12_isImage 36 = .ok (.iconst 1, 1) := by decide +kernel
theorem dX12_isImage_37 : decode cX12_isImage 37 = .ok (.isub, 1) := by decide +kernel
theorem dX12_isImage_38 : decode cX12_isImage 38 = .ok (.invokestatic 650, 3) := by decide +kernel
theorem dX12_isImage_41 : decode cX12_isImage 41 = .ok (.if_icmp .ne 25, 3) := by decide +kernel
theorem dX12_isImage_44 : decode cX12_isImage 44 = .ok (.aload_n 0, 1) := by decide +kernel
theorem dX12_isImage_45 : decode cX12_isImage 45 = .ok (.iconst 0, 1) := by decide +kernel
theorem dX12_isImage_46 : decode cX12_isImage 46 = .ok (.invokevirtual 654, 3) := by decide +kernel
theorem dX12_isImage_49 : decode cX12_isImage 49 = .ok (.sipush 9999, 3) := by decide +kernel
theorem dX12_isImage_52 : decode cX12_isImage 52 = .ok (.if_icmp .gt 14, 3) := by decide +kernel
theorem dX12_isImage_55 : decode cX12_isImage 55 = .ok (.aload_n 0, 1) := by decide +kernel
theorem dX12_isImage_56 : decode cX12_isImage 56 = .ok (.iconst 2, 1) := by decide +kernel
theorem dX12_isImage_57 : decode cX12_isImage 57 = .ok (.invokevirtual 654, 3) := by decide +kernel
theorem dX12_isImage_60 : decode cX12_isImage 60 = .ok (.sipush 9999, 3) := by decide +kernel
theorem dX12_isImage_63 : decode cX12_isImage 63 = .ok (.if_icmp .le 5, 3) := by decide +kernel
theorem dX12_isImage_66 : decode cX12_isImage 66 = .ok (.iconst 0, 1) := by decide +kernel
theorem dX12_isImage_67 : decode cX12_isImage 67 = .ok (.ireturn, 1) := by decide +kernel
theorem dX12_isImage_68 : decode cX12_isImage 68 = .ok (.iconst 4, 1) := by decide +kernel
theorem dX12_isImage_69 : decode cX12_isImage 69 = .ok (.istore_n 3, 1) := by decide +kernel
theorem dX12_isImage_70 : decode cX12_isImage 70 = .ok (.iload_n 3, 1) := by decide +kernel
theorem dX12_isImage_71 : decode cX12_isImage 71 = .ok (.iload_n 2, 1) := by decide +kernel
theorem dX12_isImage_72 : decode cX12_isImage 72 = .ok (.if_icmp .ge 34, 3) := by decide +kernel
theorem dX12_isImage_75 : decode cX12_isImage 75 = .ok (.aload_n 0, 1) := by decide +kernel
theorem dX12_isImage_76 : decode cX12_isImage 76 = .ok (.getfield 7, 3) := by decide +kernel
theorem dX12_isImage_79 : decode cX12_isImage 79 = .ok (.iload_n 3, 1) := by decide +kernel
theorem dX12_isImage_80 : decode cX12_isImage 80 = .ok (.iaload, 1) := by decide +kernel
theorem dX12_isImage_81 : decode cX12_isImage 81 = .ok (.bipush 99, 2) := by decide +kernel
theorem dX12_isImage_83 : decode cX12_isImage 83 = .ok (.if_icmp .gt 15, 3) := by decide +kernel
theorem dX12_isImage_86 : decode cX12_isImage 86 = .ok (.aload_n 0, 1) := by decide +kernel
theorem dX12_isImage_87 : decode cX12_isImage 87 = .ok (.getfield 7, 3) := by decide +kernel
theorem dX12_isImage_90 : decode cX12_isImage 90 = .ok (.iload_n 3, 1) := by decide +kernel
theorem dX12_isImage_91 : decode cX12_isImage 91 = .ok (.iconst 1, 1) := by decide +kernel
theorem dX12_isImage_92 : decode cX12_isImage 92 = .ok (.iadd, 1) := by decide +kernel
theorem dX12_isImage_93 : decode cX12_isImage 93 = .ok (.iaload, 1) := by decide +kernel
theorem dX12_isImage_94 : decode cX12_isImage 94 = .ok (.iconst 4, 1) := by decide +kernel
theorem dX12_isImage_95 : decode cX12_isImage 95 = .ok (.if_icmp .le 5, 3) := by decide +kernel
theorem dX12_isImage_98 : decode cX12_isImage 98 = .ok (.iconst 0, 1) := by decide +kernel
theorem dX12_isImage_99 : decode cX12_isImage 99 = .ok (.ireturn, 1) := by decide +kernel
theorem dX12_isImage_100 : decode cX12_isImage 100 = .ok (.iinc 3 2, 3) := by decide +kernel
theorem dX12_isImage_103 : decode cX12_isImage 103 = .ok (.goto (-33), 3) := by decide +kernel
theorem dX12_isImage_106 : decode cX12_isImage 106 = .ok (.iload_n 2, 1) := by decide +kernel
theorem dX12_isImage_107 : decode cX12_isImage 107 = .ok (.istore_n 3, 1) := by decide +kernel
theorem dX12_isImage_108 : decode cX12_isImage 108 = .ok (.iload_n 3, 1) := by decide +kernel
theorem dX12_isImage_109 : decode cX12_isImage 109 = .ok (.iload_n 1, 1) := by decide +kernel
theorem dX12_isImage_110 : decode cX12_isImage 110 = .ok (.iconst 1, 1) := by decide +kernel
theorem dX12_isImage_111 : decode cX12_isImage 111 = .ok (.isub, 1) := by decide +kernel
theorem dX12_isImage_112 : decode cX12_isImage 112 = .ok (.if_icmp .ge 21, 3) := by decide +kernel
theorem dX12_isImage_115 : decode cX12_isImage 115 = .ok (.aload_n 0, 1) := by decide +kernel
theorem dX12_isImage_116 : decode cX12_isImage 116 = .ok (.getfield 7, 3) := by decide +kernel
theorem dX12_isImage_119 : decode cX12_isImage 119 = .ok (.iload_n 3, 1) := by decide +kernel
theorem dX12_isImage_120 : decode cX12_isImage 120 = .ok (.iaload, 1) := by decide +kernel
theorem dX12_isImage_121 : decode cX12_isImage 121 = .ok (.iconst 2, 1) := by decide +kernel
theorem dX12_isImage_122 : decode cX12_isImage 122 = .ok (.if_icmp .le 5, 3) := by decide +kernel
theorem dX12_isImage_125 : decode cX12_isImage 125 = .ok (.iconst 0, 1) := by decide +kernel
theorem dX12_isImage_126 : decode cX12_isImage 126 = .ok (.ireturn, 1) := by decide +kernel
theorem dX12_isImage_127 : decode cX12_isImage 127 = .ok (.iinc 3 1, 3) := by decide +kernel
theorem dX12_isImage_130 : decode cX12_isImage 130 = .ok (.goto (-22), 3) := by decide +kernel
theorem dX12_isImage_133 : decode cX12_isImage 133 = .ok (.iconst 1, 1) := by decide +kernel
theorem dX12_isImage_134 : decode cX12_isImage 134 = .ok (.ireturn, 1) := by decide +kernel
theorem kc_RX12_654 : Cond.methodLink RX12 654 yX12_twoAt ∈ ktG ∧ (Cond.instanceMethod yX12_twoAt ∈ ktG ∧ Cond.selects yX12_twoAt.cls yX12_twoAt yX12_twoAt ∈ ktG) ∧ Cond.initialized yX12_twoAt.cls ∈ ktG ∧ Cond.code yX12_twoAt cX12_twoAt 2 (some .int) ∈ ktG := ⟨(kwm 2012 (by decide +kernel) (by decide +kernel)), ⟨(kwm 2014 (by decide +kernel) (by decide +kernel)), (kwm 121 (by decide +kernel) (by decide +kernel))⟩, (kwm 139 (by decide +kernel) (by decide +kernel)), kwm 2015 (by decide +kernel) (by decide +kernel)⟩
theorem kh_X12_twoAt : yX12_twoAt.cls ≠ "java/lang/invoke/MethodHandle" ∧ yX12_twoAt.cls ≠ "java/lang/invoke/VarHandle" ∧ (parseMethodDescriptor yX12_twoAt.desc).map (fun d => d.parameters.length) = some 1 := by decide +kernel
def E_X12_isImage_l70 (h : KH) (v0 : Nat) (v1 : Int32) (v2 : Int32) : ((Unit) ⊕ (Int32)) → Nat → List (Nat × Value) → List Value → KH → Prop := Sum.elim (fun (e : Unit) pc ls st hh => pc = 106 ∧ ls = [(0, .ref v0), (1, .int v1), (2, .int v2)] ∧ st = [] ∧ h = hh) (fun o => (KRz cX12_isImage o h))
def B_X12_isImage_l70 (h : KH) (v0 : Nat) (v1 : Int32) (v2 : Int32) : ((Int32) ⊕ ((Unit) ⊕ (Int32))) → Nat → List (Nat × Value) → List Value → KH → Prop := Sum.elim (fun (s : Int32) pc ls st hh => pc = 70 ∧ ls = [(0, .ref v0), (1, .int v1), (2, .int v2), (3, .int s)] ∧ st = [] ∧ hh = h) (E_X12_isImage_l70 h v0 v1 v2)
def f_X12_isImage_l70 (h : KH) (v0 : Nat) (v1 : Int32) (v2 : Int32) (s : Int32) : Option ((Int32) ⊕ ((Unit) ⊕ (Int32))) :=
  if v2 ≤ s then
  some (.inr (.inl ()))
  else
  if kkind v0 = 12 then if (kR h v0 0) < 999999 then if kkind (kR h v0 0) = 20 then if (s < 0 ∨ klen (kR h v0 0) ≤ (s).toNatClampNeg) then none else if (99 : Int32) < (kI h (kR h v0 0) ((s).toNatClampNeg)) then
  kout2 (some (0 : Int32))
  else
  if ((s + (1 : Int32)) < 0 ∨ klen (kR h v0 0) ≤ ((s + (1 : Int32))).toNatClampNeg) then none else if (kI h (kR h v0 0) (((s + (1 : Int32))).toNatClampNeg)) ≤ (4 : Int32) then
  kl (s + (2 : Int32)) fun x10 =>
  some (.inl x10)
  else
  kout2 (some (0 : Int32)) else none else none else none
set_option maxHeartbeats 4000000 in
set_option maxRecDepth 100000 in
theorem s_X12_isImage_l70 {Z : Nat → (Nat → Nat) → State → Prop} (h : KH) (v0 : Nat) (v1 : Int32) (v2 : Int32) (s : Int32) (t : (Int32) ⊕ ((Unit) ⊕ (Int32))) (hn : (h).1 = 243) (H : f_X12_isImage_l70 h v0 v1 v2 s = some t) : KX Z RX12 cX12_isImage 4 false 2 (B_X12_isImage_l70 h v0 v1 v2 t) 70 [(0, .ref v0), (1, .int v1), (2, .int v2), (3, .int s)] [] h := by
  unfold f_X12_isImage_l70 at H
  refine x_iload_n (q := 71) dX12_isImage_70 rfl rfl ?_
  refine x_iload_n (q := 72) dX12_isImage_71 rfl rfl ?_
  replace H := kite H; rcases H with ⟨g1, H⟩ | ⟨g1, H⟩
  · refine x_icmp_ge_t dX12_isImage_72 (q := 106) (by decide) g1 ?_
    cases H
    refine x_sub (ls2 := [(0, .ref v0), (1, .int v1), (2, .int v2)]) [0, 1, 2] rfl ?_
    exact x_end (x_cfg rfl)
  · refine x_icmp_ge_f (q := 75) dX12_isImage_72 (t := 106) (by decide) rfl g1 ?_
    refine x_aload_n (q := 76) dX12_isImage_75 rfl rfl ?_
    replace H := kif H; obtain ⟨g2, H⟩ := H
    replace H := kif H; obtain ⟨g3, H⟩ := H
    refine x_getR (q := 79) dX12_isImage_76 rfl kl_RX12_7 rfl (k243 g2 (by decide) hn) g3 ?_
    refine x_iload_n (q := 80) dX12_isImage_79 rfl rfl ?_
    replace H := kif H; obtain ⟨g4, H⟩ := H
    replace H := kifn H; obtain ⟨g5, H⟩ := H
    refine x_iald (q := 81) dX12_isImage_80 rfl (k243 g4 (by decide) hn) g5 ?_
    refine x_bipush (q := 83) (v := (99 : Int32)) dX12_isImage_81 rfl (by decide) ?_
    replace H := kite H; rcases H with ⟨g6, H⟩ | ⟨g6, H⟩
    · refine x_icmp_gt_t dX12_isImage_83 (q := 98) (by decide) g6 ?_
      replace H := ko2e H; obtain ⟨o7, H, rfl⟩ := H
      refine x_iconst (q := 99) (v := (0 : Int32)) dX12_isImage_98 rfl (by decide) ?_
      cases H
      exact x_end ⟨(Or.inl rfl), dX12_isImage_99, rfl, rfl⟩
    · refine x_icmp_gt_f (q := 86) dX12_isImage_83 (t := 98) (by decide) rfl g6 ?_
      refine x_aload_n (q := 87) dX12_isImage_86 rfl rfl ?_
      refine x_getR (q := 90) dX12_isImage_87 rfl kl_RX12_7 rfl (k243 g2 (by decide) hn) g3 ?_
      refine x_iload_n (q := 91) dX12_isImage_90 rfl rfl ?_
      refine x_iconst (q := 92) (v := (1 : Int32)) dX12_isImage_91 rfl (by decide) ?_
      refine x_iadd (q := 93) dX12_isImage_92 rfl ?_
      replace H := kifn H; obtain ⟨g8, H⟩ := H
      refine x_iald (q := 94) dX12_isImage_93 rfl (k243 g4 (by decide) hn) g8 ?_
      refine x_iconst (q := 95) (v := (4 : Int32)) dX12_isImage_94 rfl (by decide) ?_
      replace H := kite H; rcases H with ⟨g9, H⟩ | ⟨g9, H⟩
      · refine x_icmp_le_t dX12_isImage_95 (q := 100) (by decide) g9 ?_
        replace H := kle H; obtain ⟨x10, q11, H⟩ := H
        refine x_iinc (q := 103) (i := 3) (ls2 := [(3, .int x10), (0, .ref v0), (1, .int v1), (2, .int v2)]) dX12_isImage_100 rfl rfl (by decide) (by rw [q11]; rfl) ?_
        refine x_goto dX12_isImage_103 (q := 70) (by decide) ?_
        cases H
        refine x_sub (ls2 := [(0, .ref v0), (1, .int v1), (2, .int v2), (3, .int x10)]) [1, 2, 3, 0] rfl ?_
        exact x_end (x_cfg rfl)
      · refine x_icmp_le_f (q := 98) dX12_isImage_95 (t := 100) (by decide) rfl g9 ?_
        replace H := ko2e H; obtain ⟨o12, H, rfl⟩ := H
        refine x_iconst (q := 99) (v := (0 : Int32)) dX12_isImage_98 rfl (by decide) ?_
        cases H
        exact x_end ⟨(Or.inl rfl), dX12_isImage_99, rfl, rfl⟩
theorem sl_X12_isImage_l70 {Z : Nat → (Nat → Nat) → State → Prop} (h : KH) (v0 : Nat) (v1 : Int32) (v2 : Int32) (n : Nat) (s : Int32) (r : (Unit) ⊕ (Int32)) (hn : (h).1 = 243) (H : kloop (f_X12_isImage_l70 h v0 v1 v2) n s = some r) : KX Z RX12 cX12_isImage 4 false 2 (E_X12_isImage_l70 h v0 v1 v2 r) 70 [(0, .ref v0), (1, .int v1), (2, .int v2), (3, .int s)] [] h :=
  k_loop (ls := (fun (s : Int32) => ([(0, .ref v0), (1, .int v1), (2, .int v2), (3, .int s)] : List (Nat × Value)))) (hp := (fun (s : Int32) => (h : KH))) (G := E_X12_isImage_l70 h v0 v1 v2) (fun s t hn H => s_X12_isImage_l70 h v0 v1 v2 s t hn H) n s r hn H
def E_X12_isImage_l108 (h : KH) (v0 : Nat) (v1 : Int32) : ((Unit) ⊕ (Int32)) → Nat → List (Nat × Value) → List Value → KH → Prop := Sum.elim (fun (e : Unit) pc ls st hh => pc = 133 ∧ ls = [] ∧ st = [] ∧ h = hh) (fun o => (KRz cX12_isImage o h))
def B_X12_isImage_l108 (h : KH) (v0 : Nat) (v1 : Int32) : ((Int32) ⊕ ((Unit) ⊕ (Int32))) → Nat → List (Nat × Value) → List Value → KH → Prop := Sum.elim (fun (s : Int32) pc ls st hh => pc = 108 ∧ ls = [(0, .ref v0), (1, .int v1), (3, .int s)] ∧ st = [] ∧ hh = h) (E_X12_isImage_l108 h v0 v1)
def f_X12_isImage_l108 (h : KH) (v0 : Nat) (v1 : Int32) (s : Int32) : Option ((Int32) ⊕ ((Unit) ⊕ (Int32))) :=
  if (v1 - (1 : Int32)) ≤ s then
  some (.inr (.inl ()))
  else
  if kkind v0 = 12 then if (kR h v0 0) < 999999 then if kkind (kR h v0 0) = 20 then if (s < 0 ∨ klen (kR h v0 0) ≤ (s).toNatClampNeg) then none else if (kI h (kR h v0 0) ((s).toNatClampNeg)) ≤ (2 : Int32) then
  kl (s + (1 : Int32)) fun x7 =>
  some (.inl x7)
  else
  kout2 (some (0 : Int32)) else none else none else none
set_option maxHeartbeats 4000000 in
set_option maxRecDepth 100000 in
theorem s_X12_isImage_l108 {Z : Nat → (Nat → Nat) → State → Prop} (h : KH) (v0 : Nat) (v1 : Int32) (s : Int32) (t : (Int32) ⊕ ((Unit) ⊕ (Int32))) (hn : (h).1 = 243) (H : f_X12_isImage_l108 h v0 v1 s = some t) : KX Z RX12 cX12_isImage 4 false 2 (B_X12_isImage_l108 h v0 v1 t) 108 [(0, .ref v0), (1, .int v1), (3, .int s)] [] h := by
  unfold f_X12_isImage_l108 at H
  refine x_iload_n (q := 109) dX12_isImage_108 rfl rfl ?_
  refine x_iload_n (q := 110) dX12_isImage_109 rfl rfl ?_
  refine x_iconst (q := 111) (v := (1 : Int32)) dX12_isImage_110 rfl (by decide) ?_
  refine x_isub (q := 112) dX12_isImage_111 rfl ?_
  replace H := kite H; rcases H with ⟨g1, H⟩ | ⟨g1, H⟩
  · refine x_icmp_ge_t dX12_isImage_112 (q := 133) (by decide) g1 ?_
    cases H
    refine x_sub (ls2 := []) [] rfl ?_
    exact x_end (x_cfg rfl)
  · refine x_icmp_ge_f (q := 115) dX12_isImage_112 (t := 133) (by decide) rfl g1 ?_
    refine x_aload_n (q := 116) dX12_isImage_115 rfl rfl ?_
    replace H := kif H; obtain ⟨g2, H⟩ := H
    replace H := kif H; obtain ⟨g3, H⟩ := H
    refine x_getR (q := 119) dX12_isImage_116 rfl kl_RX12_7 rfl (k243 g2 (by decide) hn) g3 ?_
    refine x_iload_n (q := 120) dX12_isImage_119 rfl rfl ?_
    replace H := kif H; obtain ⟨g4, H⟩ := H
    replace H := kifn H; obtain ⟨g5, H⟩ := H
    refine x_iald (q := 121) dX12_isImage_120 rfl (k243 g4 (by decide) hn) g5 ?_
    refine x_iconst (q := 122) (v := (2 : Int32)) dX12_isImage_121 rfl (by decide) ?_
    replace H := kite H; rcases H with ⟨g6, H⟩ | ⟨g6, H⟩
    · refine x_icmp_le_t dX12_isImage_122 (q := 127) (by decide) g6 ?_
      replace H := kle H; obtain ⟨x7, q8, H⟩ := H
      refine x_iinc (q := 130) (i := 3) (ls2 := [(3, .int x7), (0, .ref v0), (1, .int v1)]) dX12_isImage_127 rfl rfl (by decide) (by rw [q8]; rfl) ?_
      refine x_goto dX12_isImage_130 (q := 108) (by decide) ?_
      cases H
      refine x_sub (ls2 := [(0, .ref v0), (1, .int v1), (3, .int x7)]) [1, 2, 0] rfl ?_
      exact x_end (x_cfg rfl)
    · refine x_icmp_le_f (q := 125) dX12_isImage_122 (t := 127) (by decide) rfl g6 ?_
      replace H := ko2e H; obtain ⟨o9, H, rfl⟩ := H
      refine x_iconst (q := 126) (v := (0 : Int32)) dX12_isImage_125 rfl (by decide) ?_
      cases H
      exact x_end ⟨(Or.inl rfl), dX12_isImage_126, rfl, rfl⟩
theorem sl_X12_isImage_l108 {Z : Nat → (Nat → Nat) → State → Prop} (h : KH) (v0 : Nat) (v1 : Int32) (n : Nat) (s : Int32) (r : (Unit) ⊕ (Int32)) (hn : (h).1 = 243) (H : kloop (f_X12_isImage_l108 h v0 v1) n s = some r) : KX Z RX12 cX12_isImage 4 false 2 (E_X12_isImage_l108 h v0 v1 r) 108 [(0, .ref v0), (1, .int v1), (3, .int s)] [] h :=
  k_loop (ls := (fun (s : Int32) => ([(0, .ref v0), (1, .int v1), (3, .int s)] : List (Nat × Value)))) (hp := (fun (s : Int32) => (h : KH))) (G := E_X12_isImage_l108 h v0 v1) (fun s t hn H => s_X12_isImage_l108 h v0 v1 s t hn H) n s r hn H
def f_X12_isImage (h : KH) (v0 : Nat) (v1 : Int32) : Option (Int32) :=
  if kkind v0 = 12 then kb (f_X12_testMany h v0) fun r2 =>
  kl ((4 : Int32) + ((2 : Int32) * r2)) fun x5 =>
  kb (f_X12_markMany h v0) fun r7 =>
  if v1 = ((x5 + ((2 : Int32) * r7)) + (1 : Int32)) then
  if (kR h v0 0) < 999999 then if kkind (kR h v0 0) = 20 then if ((v1 - (1 : Int32)) < 0 ∨ klen (kR h v0 0) ≤ ((v1 - (1 : Int32))).toNatClampNeg) then none else kb (f_X12_checked h (kR h v0 0) (v1 - (1 : Int32))) fun r14 =>
  if (kI h (kR h v0 0) (((v1 - (1 : Int32))).toNatClampNeg)) = r14 then
  kb (f_X12_twoAt h v0 (0 : Int32)) fun r18 =>
  if (9999 : Int32) < r18 then
  some (0 : Int32)
  else
  kb (f_X12_twoAt h v0 (2 : Int32)) fun r22 =>
  if r22 ≤ (9999 : Int32) then
  kb (kloop (f_X12_isImage_l70 h v0 v1 x5) KF (4 : Int32)) fun e26 =>
  ksum e26 (fun x29 =>
  kb (kloop (f_X12_isImage_l108 h v0 v1) KF x5) fun e31 =>
  ksum e31 (fun x34 =>
  some (1 : Int32)) (fun o35 => some o35)) (fun o30 => some o30)
  else
  some (0 : Int32)
  else
  some (0 : Int32) else none else none
  else
  some (0 : Int32) else none
set_option maxHeartbeats 4000000 in
set_option maxRecDepth 100000 in
theorem s0_X12_isImage {Z : Nat → (Nat → Nat) → State → Prop} (h : KH) (v0 : Nat) (v1 : Int32) {t : Int32} (hn : h.1 = 243) (H : f_X12_isImage h v0 v1 = some t) : KX Z RX12 cX12_isImage 4 false 2 (KRz cX12_isImage t h) 0 [(0, .ref v0), (1, .int v1)] [] h := by
  unfold f_X12_isImage at H
  refine x_iconst (q := 1) (v := (4 : Int32)) dX12_isImage_0 rfl (by decide) ?_
  refine x_iconst (q := 2) (v := (2 : Int32)) dX12_isImage_1 rfl (by decide) ?_
  refine x_aload_n (q := 3) dX12_isImage_2 rfl rfl ?_
  replace H := kif H; obtain ⟨g1, H⟩ := H
  replace H := kbe H; obtain ⟨r2, c3, H⟩ := H
  have m4 := s_X12_testMany (Z := Z) h v0 hn c3
  refine x_callV (q := 6) (as := []) (rest := [.int (2 : Int32), .int (4 : Int32)]) dX12_isImage_3 rfl kc_RX12_367 kh_X12_testMany (by decide) (Nat.le_of_ble_eq_true rfl) m4 (ci := 12) (by exact ⟨rfl, by decide⟩) (k243 g1 (by decide) hn) ?_
  refine x_imul (q := 7) dX12_isImage_6 rfl ?_
  refine x_iadd (q := 8) dX12_isImage_7 rfl ?_
  replace H := kle H; obtain ⟨x5, q6, H⟩ := H
  refine x_nmI q6 ?_
  refine x_istore_n (q := 9) (i := 2) (ls2 := [(2, .int x5), (0, .ref v0), (1, .int v1)]) dX12_isImage_8 rfl rfl (by decide) rfl ?_
  refine x_iload_n (q := 10) dX12_isImage_9 rfl rfl ?_
  refine x_iload_n (q := 11) dX12_isImage_10 rfl rfl ?_
  refine x_iconst (q := 12) (v := (2 : Int32)) dX12_isImage_11 rfl (by decide) ?_
  refine x_aload_n (q := 13) dX12_isImage_12 rfl rfl ?_
  replace H := kbe H; obtain ⟨r7, c8, H⟩ := H
  have m9 := s_X12_markMany (Z := Z) h v0 hn c8
  refine x_callV (q := 16) (as := []) (rest := [.int (2 : Int32), .int x5, .int v1]) dX12_isImage_13 rfl kc_RX12_403 kh_X12_markMany (by decide) (Nat.le_of_ble_eq_true rfl) m9 (ci := 12) (by exact ⟨rfl, by decide⟩) (k243 g1 (by decide) hn) ?_
  refine x_imul (q := 17) dX12_isImage_16 rfl ?_
  refine x_iadd (q := 18) dX12_isImage_17 rfl ?_
  refine x_iconst (q := 19) (v := (1 : Int32)) dX12_isImage_18 rfl (by decide) ?_
  refine x_iadd (q := 20) dX12_isImage_19 rfl ?_
  replace H := kite H; rcases H with ⟨g10, H⟩ | ⟨g10, H⟩
  · refine x_icmp_ne_f (q := 23) dX12_isImage_20 (t := 66) (by decide) rfl g10 ?_
    refine x_aload_n (q := 24) dX12_isImage_23 rfl rfl ?_
    replace H := kif H; obtain ⟨g11, H⟩ := H
    refine x_getR (q := 27) dX12_isImage_24 rfl kl_RX12_7 rfl (k243 g1 (by decide) hn) g11 ?_
    refine x_iload_n (q := 28) dX12_isImage_27 rfl rfl ?_
    refine x_iconst (q := 29) (v := (1 : Int32)) dX12_isImage_28 rfl (by decide) ?_
    refine x_isub (q := 30) dX12_isImage_29 rfl ?_
    replace H := kif H; obtain ⟨g12, H⟩ := H
    replace H := kifn H; obtain ⟨g13, H⟩ := H
    refine x_iald (q := 31) dX12_isImage_30 rfl (k243 g12 (by decide) hn) g13 ?_
    refine x_aload_n (q := 32) dX12_isImage_31 rfl rfl ?_
    refine x_getR (q := 35) dX12_isImage_32 rfl kl_RX12_7 rfl (k243 g1 (by decide) hn) g11 ?_
    refine x_iload_n (q := 36) dX12_isImage_35 rfl rfl ?_
    refine x_iconst (q := 37) (v := (1 : Int32)) dX12_isImage_36 rfl (by decide) ?_
    refine x_isub (q := 38) dX12_isImage_37 rfl ?_
    replace H := kbe H; obtain ⟨r14, c15, H⟩ := H
    have m16 := s_X12_checked (Z := Z) h (kR h v0 0) (v1 - (1 : Int32)) hn c15
    refine x_callS (q := 41) (as := [.ref (kR h v0 0), .int (v1 - (1 : Int32))]) (rest := [.int (kI h (kR h v0 0) (((v1 - (1 : Int32))).toNatClampNeg))]) dX12_isImage_38 rfl kc_RX12_650 kh_X12_checked (by decide) (Nat.le_of_ble_eq_true rfl) m16 ?_
    replace H := kite H; rcases H with ⟨g17, H⟩ | ⟨g17, H⟩
    · refine x_icmp_ne_f (q := 44) dX12_isImage_41 (t := 66) (by decide) rfl g17 ?_
      refine x_aload_n (q := 45) dX12_isImage_44 rfl rfl ?_
      refine x_iconst (q := 46) (v := (0 : Int32)) dX12_isImage_45 rfl (by decide) ?_
      replace H := kbe H; obtain ⟨r18, c19, H⟩ := H
      have m20 := s_X12_twoAt (Z := Z) h v0 (0 : Int32) hn c19
      refine x_callV (q := 49) (as := [.int (0 : Int32)]) (rest := []) dX12_isImage_46 rfl kc_RX12_654 kh_X12_twoAt (by decide) (Nat.le_of_ble_eq_true rfl) m20 (ci := 12) (by exact ⟨rfl, by decide⟩) (k243 g1 (by decide) hn) ?_
      refine x_sipush (q := 52) (v := (9999 : Int32)) dX12_isImage_49 rfl (by decide) ?_
      replace H := kite H; rcases H with ⟨g21, H⟩ | ⟨g21, H⟩
      · refine x_icmp_gt_t dX12_isImage_52 (q := 66) (by decide) g21 ?_
        refine x_iconst (q := 67) (v := (0 : Int32)) dX12_isImage_66 rfl (by decide) ?_
        cases H
        exact x_end ⟨(Or.inl rfl), dX12_isImage_67, rfl, rfl⟩
      · refine x_icmp_gt_f (q := 55) dX12_isImage_52 (t := 66) (by decide) rfl g21 ?_
        refine x_aload_n (q := 56) dX12_isImage_55 rfl rfl ?_
        refine x_iconst (q := 57) (v := (2 : Int32)) dX12_isImage_56 rfl (by decide) ?_
        replace H := kbe H; obtain ⟨r22, c23, H⟩ := H
        have m24 := s_X12_twoAt (Z := Z) h v0 (2 : Int32) hn c23
        refine x_callV (q := 60) (as := [.int (2 : Int32)]) (rest := []) dX12_isImage_57 rfl kc_RX12_654 kh_X12_twoAt (by decide) (Nat.le_of_ble_eq_true rfl) m24 (ci := 12) (by exact ⟨rfl, by decide⟩) (k243 g1 (by decide) hn) ?_
        refine x_sipush (q := 63) (v := (9999 : Int32)) dX12_isImage_60 rfl (by decide) ?_
        replace H := kite H; rcases H with ⟨g25, H⟩ | ⟨g25, H⟩
        · refine x_icmp_le_t dX12_isImage_63 (q := 68) (by decide) g25 ?_
          refine x_iconst (q := 69) (v := (4 : Int32)) dX12_isImage_68 rfl (by decide) ?_
          refine x_istore_n (q := 70) (i := 3) (ls2 := [(3, .int (4 : Int32)), (2, .int x5), (0, .ref v0), (1, .int v1)]) dX12_isImage_69 rfl rfl (by decide) rfl ?_
          refine x_sub (ls2 := [(0, .ref v0), (1, .int v1), (2, .int x5), (3, .int (4 : Int32))]) [2, 3, 1, 0] rfl ?_
          replace H := kbe H; obtain ⟨e26, c27, H⟩ := H
          refine x_app (sl_X12_isImage_l70 h v0 v1 x5 KF (4 : Int32) e26 hn c27) fun pc2 ls2 st2 h2 hg m28 => ?_
          replace H := kse H; rcases H with ⟨x29, rfl, H⟩ | ⟨o30, rfl, H⟩
          · obtain ⟨rfl, rfl, rfl, rfl⟩ := hg
            refine x_iload_n (q := 107) dX12_isImage_106 rfl rfl ?_
            refine x_istore_n (q := 108) (i := 3) (ls2 := [(3, .int x5), (0, .ref v0), (1, .int v1), (2, .int x5)]) dX12_isImage_107 rfl rfl (by decide) rfl ?_
            refine x_sub (ls2 := [(0, .ref v0), (1, .int v1), (3, .int x5)]) [1, 2, 0] rfl ?_
            replace H := kbe H; obtain ⟨e31, c32, H⟩ := H
            refine x_app (sl_X12_isImage_l108 h v0 v1 KF x5 e31 hn c32) fun pc2 ls2 st2 h2 hg m33 => ?_
            replace H := kse H; rcases H with ⟨x34, rfl, H⟩ | ⟨o35, rfl, H⟩
            · obtain ⟨rfl, rfl, rfl, rfl⟩ := hg
              refine x_iconst (q := 134) (v := (1 : Int32)) dX12_isImage_133 rfl (by decide) ?_
              cases H
              exact x_end ⟨(Or.inr rfl), dX12_isImage_134, rfl, rfl⟩
            · cases H
              exact x_end hg
          · cases H
            exact x_end hg
        · refine x_icmp_le_f (q := 66) dX12_isImage_63 (t := 68) (by decide) rfl g25 ?_
          refine x_iconst (q := 67) (v := (0 : Int32)) dX12_isImage_66 rfl (by decide) ?_
          cases H
          exact x_end ⟨(Or.inl rfl), dX12_isImage_67, rfl, rfl⟩
    · refine x_icmp_ne_t dX12_isImage_41 (q := 66) (by decide) g17 ?_
      refine x_iconst (q := 67) (v := (0 : Int32)) dX12_isImage_66 rfl (by decide) ?_
      cases H
      exact x_end ⟨(Or.inl rfl), dX12_isImage_67, rfl, rfl⟩
  · refine x_icmp_ne_t dX12_isImage_20 (q := 66) (by decide) g10 ?_
    refine x_iconst (q := 67) (v := (0 : Int32)) dX12_isImage_66 rfl (by decide) ?_
    cases H
    exact x_end ⟨(Or.inl rfl), dX12_isImage_67, rfl, rfl⟩
theorem s_X12_isImage {Z : Nat → (Nat → Nat) → State → Prop} (h : KH) (v0 : Nat) (v1 : Int32) {t : Int32} (hn : h.1 = 243) (H : f_X12_isImage h v0 v1 = some t) : KM Z yX12_isImage cX12_isImage 4 (some .boolean) 2 [.ref v0, .int v1] h (some (.int t)) h :=
  kx_z (own := RX12) (ini := false) (by decide +kernel) (by decide +kernel) rfl (Nat.le_of_ble_eq_true rfl) (s0_X12_isImage h v0 v1 hn H)
