-- methods as functions, and that the machine does as they say (by wip/whole/gen_all.py): X12_qPartOf, X12_qClip, X12_qFloor, X12_qJoins, X12_yieldsAt, X12_truthOf, X12_kindIn, X12_yieldIn, X12_isAsHeard, X12_weightOf, X12_laysYields, X12_laysWorlds, X12_millionths, X12_maskOf
theorem dX12_qPartOf_0 : decode cX12_qPartOf 0 = .ok (.iload_n 1, 1) := by decide +kernel
theorem dX12_qPartOf_1 : decode cX12_qPartOf 1 = .ok (.tableswitch 124 0 6 #[43, 59, 75, 86, 108, 114, 117], 43) := by decide +kernel
theorem dX12_qPartOf_44 : decode cX12_qPartOf 44 = .ok (.aload_n 0, 1) := by decide +kernel
theorem dX12_qPartOf_45 : decode cX12_qPartOf 45 = .ok (.getfield 94, 3) := by decide +kernel
theorem dX12_qPartOf_48 : decode cX12_qPartOf 48 = .ok (.bipush 24, 2) := by decide +kernel
theorem dX12_qPartOf_50 : decode cX12_qPartOf 50 = .ok (.iconst 4, 1) := by decide +kernel
theorem dX12_qPartOf_51 : decode cX12_qPartOf 51 = .ok (.aload_n 0, 1) := by decide +kernel
theorem dX12_qPartOf_52 : decode cX12_qPartOf 52 = .ok (.getfield 370, 3) := by decide +kernel
theorem dX12_qPartOf_55 : decode cX12_qPartOf 55 = .ok (.imul, 1) := by decide +kernel
theorem dX12_qPartOf_56 : decode cX12_qPartOf 56 = .ok (.iadd, 1) := by decide +kernel
theorem dX12_qPartOf_57 : decode cX12_qPartOf 57 = .ok (.iaload, 1) := by decide +kernel
theorem dX12_qPartOf_58 : decode cX12_qPartOf 58 = .ok (.i2l, 1) := by decide +kernel
theorem dX12_qPartOf_59 : decode cX12_qPartOf 59 = .ok (.lreturn, 1) := by decide +kernel
theorem dX12_qPartOf_60 : decode cX12_qPartOf 60 = .ok (.aload_n 0, 1) := by decide +kernel
theorem dX12_qPartOf_61 : decode cX12_qPartOf 61 = .ok (.getfield 94, 3) := by decide +kernel
theorem dX12_qPartOf_64 : decode cX12_qPartOf 64 = .ok (.bipush 25, 2) := by decide +kernel
theorem dX12_qPartOf_66 : decode cX12_qPartOf 66 = .ok (.iconst 4, 1) := by decide +kernel
theorem dX12_qPartOf_67 : decode cX12_qPartOf 67 = .ok (.aload_n 0, 1) := by decide +kernel
theorem dX12_qPartOf_68 : decode cX12_qPartOf 68 = .ok (.getfield 370, 3) := by decide +kernel
theorem dX12_qPartOf_71 : decode cX12_qPartOf 71 = .ok (.imul, 1) := by decide +kernel
theorem dX12_qPartOf_72 : decode cX12_qPartOf 72 = .ok (.iadd, 1) := by decide +kernel
theorem dX12_qPartOf_73 : decode cX12_qPartOf 73 = .ok (.iaload, 1) := by decide +kernel
theorem dX12_qPartOf_74 : decode cX12_qPartOf 74 = .ok (.i2l, 1) := by decide +kernel
theorem dX12_qPartOf_75 : decode cX12_qPartOf 75 = .ok (.lreturn, 1) := by decide +kernel
theorem dX12_qPartOf_76 : decode cX12_qPartOf 76 = .ok (.aload_n 0, 1) := by decide +kernel
theorem dX12_qPartOf_77 : decode cX12_qPartOf 77 = .ok (.getfield 97, 3) := by decide +kernel
theorem dX12_qPartOf_80 : decode cX12_qPartOf 80 = .ok (.bipush 6, 2) := by decide +kernel
theorem dX12_qPartOf_82 : decode cX12_qPartOf 82 = .ok (.iload_n 2, 1) := by decide +kernel
theorem dX12_qPartOf_83 : decode cX12_qPartOf 83 = .ok (.iadd, 1) := by decide +kernel
theorem dX12_qPartOf_84 : decode cX12_qPartOf 84 = .ok (.iaload, 1) := by decide +kernel
theorem dX12_qPartOf_85 : decode cX12_qPartOf 85 = .ok (.i2l, 1) := by decide +kernel
theorem dX12_qPartOf_86 : decode cX12_qPartOf 86 = .ok (.lreturn, 1) := by decide +kernel
theorem dX12_qPartOf_87 : decode cX12_qPartOf 87 = .ok (.aload_n 0, 1) := by decide +kernel
theorem dX12_qPartOf_88 : decode cX12_qPartOf 88 = .ok (.getfield 285, 3) := by decide +kernel
theorem dX12_qPartOf_91 : decode cX12_qPartOf 91 = .ok (.ifCond .eq 11, 3) := by decide +kernel
theorem dX12_qPartOf_94 : decode cX12_qPartOf 94 = .ok (.aload_n 0, 1) := by decide +kernel
theorem dX12_qPartOf_95 : decode cX12_qPartOf 95 = .ok (.getfield 373, 3) := by decide +kernel
theorem dX12_qPartOf_98 : decode cX12_qPartOf 98 = .ok (.i2l, 1) := by decide +kernel
theorem dX12_qPartOf_99 : decode cX12_qPartOf 99 = .ok (.goto 9, 3) := by decide +kernel
theorem dX12_qPartOf_102 : decode cX12_qPartOf 102 = .ok (.aload_n 0, 1) := by decide +kernel
theorem dX12_qPartOf_103 : decode cX12_qPartOf 103 = .ok (.iload_n 2, 1) := by decide +kernel
theorem dX12_qPartOf_104 : decode cX12_qPartOf 104 = .ok (.invokevirtual 412, 3) := by decide +kernel
theorem dX12_qPartOf_107 : decode cX12_qPartOf 107 = .ok (.i2l, 1) := by decide +kernel
theorem dX12_qPartOf_108 : decode cX12_qPartOf 108 = .ok (.lreturn, 1) := by decide +kernel
theorem dX12_qPartOf_109 : decode cX12_qPartOf 109 = .ok (.aload_n 0, 1) := by decide +kernel
theorem dX12_qPartOf_110 : decode cX12_qPartOf 110 = .ok (.getfield 376, 3) := by decide +kernel
theorem dX12_qPartOf_113 : decode cX12_qPartOf 113 = .ok (.i2l, 1) := by decide +kernel
theorem dX12_qPartOf_114 : decode cX12_qPartOf 114 = .ok (.lreturn, 1) := by decide +kernel
theorem dX12_qPartOf_115 : decode cX12_qPartOf 115 = .ok (.iload_n 2, 1) := by decide +kernel
theorem dX12_qPartOf_116 : decode cX12_qPartOf 116 = .ok (.i2l, 1) := by decide +kernel
theorem dX12_qPartOf_117 : decode cX12_qPartOf 117 = .ok (.lreturn, 1) := by decide +kernel
theorem dX12_qPartOf_118 : decode cX12_qPartOf 118 = .ok (.aload_n 0, 1) := by decide +kernel
theorem dX12_qPartOf_119 : decode cX12_qPartOf 119 = .ok (.getfield 127, 3) := by decide +kernel
theorem dX12_qPartOf_122 : decode cX12_qPartOf 122 = .ok (.iload_n 2, 1) := by decide +kernel
theorem dX12_qPartOf_123 : decode cX12_qPartOf 123 = .ok (.laload, 1) := by decide +kernel
theorem dX12_qPartOf_124 : decode cX12_qPartOf 124 = .ok (.lreturn, 1) := by decide +kernel
theorem dX12_qPartOf_125 : decode cX12_qPartOf 125 = .ok (.aload_n 0, 1) := by decide +kernel
theorem dX12_qPartOf_126 : decode cX12_qPartOf 126 = .ok (.getfield 130, 3) := by decide +kernel
theorem dX12_qPartOf_129 : decode cX12_qPartOf 129 = .ok (.iload_n 2, 1) := by decide +kernel
theorem dX12_qPartOf_130 : decode cX12_qPartOf 130 = .ok (.iaload, 1) := by decide +kernel
theorem dX12_qPartOf_131 : decode cX12_qPartOf 131 = .ok (.i2l, 1) := by decide +kernel
theorem dX12_qPartOf_132 : decode cX12_qPartOf 132 = .ok (.lreturn, 1) := by decide +kernel
theorem kl_RX12_370 : KLk RX12 370 12 47 := ⟨RX12, TX12, 97, rfl, by decide, Or.inl (kwm 1244 (by decide +kernel) (by decide +kernel))⟩
theorem kc_RX12_412 : Cond.methodLink RX12 412 yX12_heardOf ∈ ktG ∧ (Cond.instanceMethod yX12_heardOf ∈ ktG ∧ Cond.selects yX12_heardOf.cls yX12_heardOf yX12_heardOf ∈ ktG) ∧ Cond.initialized yX12_heardOf.cls ∈ ktG ∧ Cond.code yX12_heardOf cX12_heardOf 2 (some .int) ∈ ktG := ⟨(kwm 1730 (by decide +kernel) (by decide +kernel)), ⟨(kwm 1732 (by decide +kernel) (by decide +kernel)), (kwm 83 (by decide +kernel) (by decide +kernel))⟩, (kwm 139 (by decide +kernel) (by decide +kernel)), kwm 1733 (by decide +kernel) (by decide +kernel)⟩
theorem kh_X12_heardOf : yX12_heardOf.cls ≠ "java/lang/invoke/MethodHandle" ∧ yX12_heardOf.cls ≠ "java/lang/invoke/VarHandle" ∧ (parseMethodDescriptor yX12_heardOf.desc).map (fun d => d.parameters.length) = some 1 := by decide +kernel
theorem kl_RX12_373 : KLk RX12 373 12 48 := ⟨RX12, TX12, 97, rfl, by decide, Or.inl (kwm 1245 (by decide +kernel) (by decide +kernel))⟩
theorem kl_RX12_376 : KLk RX12 376 12 49 := ⟨RX12, TX12, 97, rfl, by decide, Or.inl (kwm 1246 (by decide +kernel) (by decide +kernel))⟩
theorem kl_RX12_127 : KLk RX12 127 12 52 := ⟨RX12, TX12, 97, rfl, by decide, Or.inl (kwm 1249 (by decide +kernel) (by decide +kernel))⟩
theorem kl_RX12_130 : KLk RX12 130 12 53 := ⟨RX12, TX12, 97, rfl, by decide, Or.inl (kwm 1250 (by decide +kernel) (by decide +kernel))⟩
def f_X12_qPartOf (h : KH) (v0 : Nat) (v1 : Int32) (v2 : Int32) : Option (Int64) :=
  if v1 = (0 : Int32) then
  if kkind v0 = 12 then if (kR h v0 35) < 999999 then if kkind (kR h v0 35) = 20 then if (((24 : Int32) + ((4 : Int32) * (kI h v0 47))) < 0 ∨ klen (kR h v0 35) ≤ (((24 : Int32) + ((4 : Int32) * (kI h v0 47)))).toNatClampNeg) then none else some (((kI h (kR h v0 35) ((((24 : Int32) + ((4 : Int32) * (kI h v0 47)))).toNatClampNeg))).toInt64) else none else none else none
  else if v1 = (1 : Int32) then
  if kkind v0 = 12 then if (kR h v0 35) < 999999 then if kkind (kR h v0 35) = 20 then if (((25 : Int32) + ((4 : Int32) * (kI h v0 47))) < 0 ∨ klen (kR h v0 35) ≤ (((25 : Int32) + ((4 : Int32) * (kI h v0 47)))).toNatClampNeg) then none else some (((kI h (kR h v0 35) ((((25 : Int32) + ((4 : Int32) * (kI h v0 47)))).toNatClampNeg))).toInt64) else none else none else none
  else if v1 = (2 : Int32) then
  if kkind v0 = 12 then if (kR h v0 36) < 999999 then if kkind (kR h v0 36) = 20 then if (((6 : Int32) + v2) < 0 ∨ klen (kR h v0 36) ≤ (((6 : Int32) + v2)).toNatClampNeg) then none else some (((kI h (kR h v0 36) ((((6 : Int32) + v2)).toNatClampNeg))).toInt64) else none else none else none
  else if v1 = (3 : Int32) then
  if kkind v0 = 12 then if (kI h v0 44) = 0 then
  kb (f_X12_heardOf h v0 v2) fun r19 =>
  some ((r19).toInt64)
  else
  some (((kI h v0 48)).toInt64) else none
  else if v1 = (4 : Int32) then
  if kkind v0 = 12 then some (((kI h v0 49)).toInt64) else none
  else if v1 = (5 : Int32) then
  some ((v2).toInt64)
  else if v1 = (6 : Int32) then
  if kkind v0 = 12 then if (kR h v0 52) < 999999 then if kkind (kR h v0 52) = 21 then if (v2 < 0 ∨ klen (kR h v0 52) ≤ (v2).toNatClampNeg) then none else some (kL h (kR h v0 52) ((v2).toNatClampNeg)) else none else none else none
  else 
  if kkind v0 = 12 then if (kR h v0 53) < 999999 then if kkind (kR h v0 53) = 20 then if (v2 < 0 ∨ klen (kR h v0 53) ≤ (v2).toNatClampNeg) then none else some (((kI h (kR h v0 53) ((v2).toNatClampNeg))).toInt64) else none else none else none
set_option maxHeartbeats 4000000 in
set_option maxRecDepth 100000 in
theorem s0_X12_qPartOf {Z : Nat → (Nat → Nat) → State → Prop} (h : KH) (v0 : Nat) (v1 : Int32) (v2 : Int32) {t : Int64} (hn : h.1 = 243) (H : f_X12_qPartOf h v0 v1 v2 = some t) : KX Z RX12 cX12_qPartOf 3 false 2 (KRl cX12_qPartOf t h) 0 [(0, .ref v0), (1, .int v1), (2, .int v2)] [] h := by
  unfold f_X12_qPartOf at H
  refine x_iload_n (q := 1) dX12_qPartOf_0 rfl rfl ?_
  replace H := kite H; rcases H with ⟨g1, H⟩ | ⟨g1, H⟩
  · refine x_tableIn (v := (0 : Int32)) (off := 43) dX12_qPartOf_1 g1 (by decide) (q := 44) (by decide) ?_
    refine x_aload_n (q := 45) dX12_qPartOf_44 rfl rfl ?_
    replace H := kif H; obtain ⟨g2, H⟩ := H
    replace H := kif H; obtain ⟨g3, H⟩ := H
    refine x_getR (q := 48) dX12_qPartOf_45 rfl kl_RX12_94 rfl (k243 g2 (by decide) hn) g3 ?_
    refine x_bipush (q := 50) (v := (24 : Int32)) dX12_qPartOf_48 rfl (by decide) ?_
    refine x_iconst (q := 51) (v := (4 : Int32)) dX12_qPartOf_50 rfl (by decide) ?_
    refine x_aload_n (q := 52) dX12_qPartOf_51 rfl rfl ?_
    refine x_getI (q := 55) dX12_qPartOf_52 rfl kl_RX12_370 (Or.inl rfl) (k243 g2 (by decide) hn) ?_
    refine x_imul (q := 56) dX12_qPartOf_55 rfl ?_
    refine x_iadd (q := 57) dX12_qPartOf_56 rfl ?_
    replace H := kif H; obtain ⟨g4, H⟩ := H
    replace H := kifn H; obtain ⟨g5, H⟩ := H
    refine x_iald (q := 58) dX12_qPartOf_57 rfl (k243 g4 (by decide) hn) g5 ?_
    refine x_i2l (q := 59) dX12_qPartOf_58 rfl ?_
    cases H
    exact x_end ⟨dX12_qPartOf_59, rfl, rfl⟩
  replace H := kite H; rcases H with ⟨g6, H⟩ | ⟨g6, H⟩
  · refine x_tableIn (v := (1 : Int32)) (off := 59) dX12_qPartOf_1 g6 (by decide) (q := 60) (by decide) ?_
    refine x_aload_n (q := 61) dX12_qPartOf_60 rfl rfl ?_
    replace H := kif H; obtain ⟨g7, H⟩ := H
    replace H := kif H; obtain ⟨g8, H⟩ := H
    refine x_getR (q := 64) dX12_qPartOf_61 rfl kl_RX12_94 rfl (k243 g7 (by decide) hn) g8 ?_
    refine x_bipush (q := 66) (v := (25 : Int32)) dX12_qPartOf_64 rfl (by decide) ?_
    refine x_iconst (q := 67) (v := (4 : Int32)) dX12_qPartOf_66 rfl (by decide) ?_
    refine x_aload_n (q := 68) dX12_qPartOf_67 rfl rfl ?_
    refine x_getI (q := 71) dX12_qPartOf_68 rfl kl_RX12_370 (Or.inl rfl) (k243 g7 (by decide) hn) ?_
    refine x_imul (q := 72) dX12_qPartOf_71 rfl ?_
    refine x_iadd (q := 73) dX12_qPartOf_72 rfl ?_
    replace H := kif H; obtain ⟨g9, H⟩ := H
    replace H := kifn H; obtain ⟨g10, H⟩ := H
    refine x_iald (q := 74) dX12_qPartOf_73 rfl (k243 g9 (by decide) hn) g10 ?_
    refine x_i2l (q := 75) dX12_qPartOf_74 rfl ?_
    cases H
    exact x_end ⟨dX12_qPartOf_75, rfl, rfl⟩
  replace H := kite H; rcases H with ⟨g11, H⟩ | ⟨g11, H⟩
  · refine x_tableIn (v := (2 : Int32)) (off := 75) dX12_qPartOf_1 g11 (by decide) (q := 76) (by decide) ?_
    refine x_aload_n (q := 77) dX12_qPartOf_76 rfl rfl ?_
    replace H := kif H; obtain ⟨g12, H⟩ := H
    replace H := kif H; obtain ⟨g13, H⟩ := H
    refine x_getR (q := 80) dX12_qPartOf_77 rfl kl_RX12_97 rfl (k243 g12 (by decide) hn) g13 ?_
    refine x_bipush (q := 82) (v := (6 : Int32)) dX12_qPartOf_80 rfl (by decide) ?_
    refine x_iload_n (q := 83) dX12_qPartOf_82 rfl rfl ?_
    refine x_iadd (q := 84) dX12_qPartOf_83 rfl ?_
    replace H := kif H; obtain ⟨g14, H⟩ := H
    replace H := kifn H; obtain ⟨g15, H⟩ := H
    refine x_iald (q := 85) dX12_qPartOf_84 rfl (k243 g14 (by decide) hn) g15 ?_
    refine x_i2l (q := 86) dX12_qPartOf_85 rfl ?_
    cases H
    exact x_end ⟨dX12_qPartOf_86, rfl, rfl⟩
  replace H := kite H; rcases H with ⟨g16, H⟩ | ⟨g16, H⟩
  · refine x_tableIn (v := (3 : Int32)) (off := 86) dX12_qPartOf_1 g16 (by decide) (q := 87) (by decide) ?_
    refine x_aload_n (q := 88) dX12_qPartOf_87 rfl rfl ?_
    replace H := kif H; obtain ⟨g17, H⟩ := H
    refine x_getI (q := 91) dX12_qPartOf_88 rfl kl_RX12_285 (Or.inr rfl) (k243 g17 (by decide) hn) ?_
    replace H := kite H; rcases H with ⟨g18, H⟩ | ⟨g18, H⟩
    · refine x_if_eq_t dX12_qPartOf_91 (q := 102) (by decide) g18 ?_
      refine x_aload_n (q := 103) dX12_qPartOf_102 rfl rfl ?_
      refine x_iload_n (q := 104) dX12_qPartOf_103 rfl rfl ?_
      replace H := kbe H; obtain ⟨r19, c20, H⟩ := H
      have m21 := s_X12_heardOf (Z := Z) h v0 v2 hn c20
      refine x_callV (q := 107) (as := [.int v2]) (rest := []) dX12_qPartOf_104 rfl kc_RX12_412 kh_X12_heardOf (by decide) (Nat.le_of_ble_eq_true rfl) m21 (ci := 12) (by exact ⟨rfl, by decide⟩) (k243 g17 (by decide) hn) ?_
      refine x_i2l (q := 108) dX12_qPartOf_107 rfl ?_
      cases H
      exact x_end ⟨dX12_qPartOf_108, rfl, rfl⟩
    · refine x_if_eq_f (q := 94) dX12_qPartOf_91 (t := 102) (by decide) rfl g18 ?_
      refine x_aload_n (q := 95) dX12_qPartOf_94 rfl rfl ?_
      refine x_getI (q := 98) dX12_qPartOf_95 rfl kl_RX12_373 (Or.inl rfl) (k243 g17 (by decide) hn) ?_
      refine x_i2l (q := 99) dX12_qPartOf_98 rfl ?_
      refine x_goto dX12_qPartOf_99 (q := 108) (by decide) ?_
      cases H
      exact x_end ⟨dX12_qPartOf_108, rfl, rfl⟩
  replace H := kite H; rcases H with ⟨g22, H⟩ | ⟨g22, H⟩
  · refine x_tableIn (v := (4 : Int32)) (off := 108) dX12_qPartOf_1 g22 (by decide) (q := 109) (by decide) ?_
    refine x_aload_n (q := 110) dX12_qPartOf_109 rfl rfl ?_
    replace H := kif H; obtain ⟨g23, H⟩ := H
    refine x_getI (q := 113) dX12_qPartOf_110 rfl kl_RX12_376 (Or.inl rfl) (k243 g23 (by decide) hn) ?_
    refine x_i2l (q := 114) dX12_qPartOf_113 rfl ?_
    cases H
    exact x_end ⟨dX12_qPartOf_114, rfl, rfl⟩
  replace H := kite H; rcases H with ⟨g24, H⟩ | ⟨g24, H⟩
  · refine x_tableIn (v := (5 : Int32)) (off := 114) dX12_qPartOf_1 g24 (by decide) (q := 115) (by decide) ?_
    refine x_iload_n (q := 116) dX12_qPartOf_115 rfl rfl ?_
    refine x_i2l (q := 117) dX12_qPartOf_116 rfl ?_
    cases H
    exact x_end ⟨dX12_qPartOf_117, rfl, rfl⟩
  replace H := kite H; rcases H with ⟨g25, H⟩ | ⟨g25, H⟩
  · refine x_tableIn (v := (6 : Int32)) (off := 117) dX12_qPartOf_1 g25 (by decide) (q := 118) (by decide) ?_
    refine x_aload_n (q := 119) dX12_qPartOf_118 rfl rfl ?_
    replace H := kif H; obtain ⟨g26, H⟩ := H
    replace H := kif H; obtain ⟨g27, H⟩ := H
    refine x_getR (q := 122) dX12_qPartOf_119 rfl kl_RX12_127 rfl (k243 g26 (by decide) hn) g27 ?_
    refine x_iload_n (q := 123) dX12_qPartOf_122 rfl rfl ?_
    replace H := kif H; obtain ⟨g28, H⟩ := H
    replace H := kifn H; obtain ⟨g29, H⟩ := H
    refine x_lald (q := 124) dX12_qPartOf_123 rfl (k243 g28 (by decide) hn) g29 ?_
    cases H
    exact x_end ⟨dX12_qPartOf_124, rfl, rfl⟩
  refine x_tableOut dX12_qPartOf_1 (q := 125) (by decide) (by have z0 : v1.toInt ≠ 0 := kne g1 (by decide); have z1 : v1.toInt ≠ 1 := kne g6 (by decide); have z2 : v1.toInt ≠ 2 := kne g11 (by decide); have z3 : v1.toInt ≠ 3 := kne g16 (by decide); have z4 : v1.toInt ≠ 4 := kne g22 (by decide); have z5 : v1.toInt ≠ 5 := kne g24 (by decide); have z6 : v1.toInt ≠ 6 := kne g25 (by decide); omega) ?_
  refine x_aload_n (q := 126) dX12_qPartOf_125 rfl rfl ?_
  replace H := kif H; obtain ⟨g30, H⟩ := H
  replace H := kif H; obtain ⟨g31, H⟩ := H
  refine x_getR (q := 129) dX12_qPartOf_126 rfl kl_RX12_130 rfl (k243 g30 (by decide) hn) g31 ?_
  refine x_iload_n (q := 130) dX12_qPartOf_129 rfl rfl ?_
  replace H := kif H; obtain ⟨g32, H⟩ := H
  replace H := kifn H; obtain ⟨g33, H⟩ := H
  refine x_iald (q := 131) dX12_qPartOf_130 rfl (k243 g32 (by decide) hn) g33 ?_
  refine x_i2l (q := 132) dX12_qPartOf_131 rfl ?_
  cases H
  exact x_end ⟨dX12_qPartOf_132, rfl, rfl⟩
theorem s_X12_qPartOf {Z : Nat → (Nat → Nat) → State → Prop} (h : KH) (v0 : Nat) (v1 : Int32) (v2 : Int32) {t : Int64} (hn : h.1 = 243) (H : f_X12_qPartOf h v0 v1 v2 = some t) : KM Z yX12_qPartOf cX12_qPartOf 3 (some .long) 2 [.ref v0, .int v1, .int v2] h (some (.long t)) h :=
  kx_l (own := RX12) (ini := false) (by decide +kernel) (by decide +kernel) rfl (Nat.le_of_ble_eq_true rfl) (s0_X12_qPartOf h v0 v1 v2 hn H)
theorem dX12_qClip_0 : decode cX12_qClip 0 = .ok (.lload_n 0, 1) := by decide +kernel
theorem dX12_qClip_1 : decode cX12_qClip 1 = .ok (.ldc2_w 607, 3) := by decide +kernel
theorem dX12_qClip_4 : decode cX12_qClip 4 = .ok (.lcmp, 1) := by decide +kernel
theorem dX12_qClip_5 : decode cX12_qClip 5 = .ok (.ifCond .le 9, 3) := by decide +kernel
theorem dX12_qClip_8 : decode cX12_qClip 8 = .ok (.ldc2_w 607, 3) := by decide +kernel
theorem dX12_qClip_11 : decode cX12_qClip 11 = .ok (.goto 18, 3) := by decide +kernel
theorem dX12_qClip_14 : decode cX12_qClip 14 = .ok (.lload_n 0, 1) := by decide +kernel
theorem dX12_qClip_15 : decode cX12_qClip 15 = .ok (.ldc2_w 609, 3) := by decide +kernel
theorem dX12_qClip_18 : decode cX12_qClip 18 = .ok (.lcmp, 1) := by decide +kernel
theorem dX12_qClip_19 : decode cX12_qClip 19 = .ok (.ifCond .ge 9, 3) := by decide +kernel
theorem dX12_qClip_22 : decode cX12_qClip 22 = .ok (.ldc2_w 609, 3) := by decide +kernel
theorem dX12_qClip_25 : decode cX12_qClip 25 = .ok (.goto 4, 3) := by decide +kernel
theorem dX12_qClip_28 : decode cX12_qClip 28 = .ok (.lload_n 0, 1) := by decide +kernel
theorem dX12_qClip_29 : decode cX12_qClip 29 = .ok (.lreturn, 1) := by decide +kernel
theorem kk_RX12_607 : Jvm.Cond.constantLong RX12 607 (1000000 : Int64) ∈ ktG := kwm 1765 (by decide +kernel) (by decide +kernel)
theorem kk_RX12_609 : Jvm.Cond.constantLong RX12 609 (-1000000 : Int64) ∈ ktG := kwm 1766 (by decide +kernel) (by decide +kernel)
def f_X12_qClip (h : KH) (v0 : Int64) : Option (Int64) :=
  if (lg_cmp v0 (1000000 : Int64)) ≤ 0 then
  if 0 ≤ (lg_cmp v0 (-1000000 : Int64)) then
  some v0
  else
  some (-1000000 : Int64)
  else
  some (1000000 : Int64)
set_option maxHeartbeats 4000000 in
set_option maxRecDepth 100000 in
theorem s0_X12_qClip {Z : Nat → (Nat → Nat) → State → Prop} (h : KH) (v0 : Int64) {t : Int64} (hn : h.1 = 243) (H : f_X12_qClip h v0 = some t) : KX Z RX12 cX12_qClip 2 false 1 (KRl cX12_qClip t h) 0 [(0, .long v0)] [] h := by
  unfold f_X12_qClip at H
  refine x_lload_n (q := 1) dX12_qClip_0 rfl rfl ?_
  refine x_ldc2 (q := 4) (v := (1000000 : Int64)) dX12_qClip_1 rfl kk_RX12_607 ?_
  refine x_lcmp (q := 5) dX12_qClip_4 rfl ?_
  replace H := kite H; rcases H with ⟨g1, H⟩ | ⟨g1, H⟩
  · refine x_if_le_t dX12_qClip_5 (q := 14) (by decide) g1 ?_
    refine x_lload_n (q := 15) dX12_qClip_14 rfl rfl ?_
    refine x_ldc2 (q := 18) (v := (-1000000 : Int64)) dX12_qClip_15 rfl kk_RX12_609 ?_
    refine x_lcmp (q := 19) dX12_qClip_18 rfl ?_
    replace H := kite H; rcases H with ⟨g2, H⟩ | ⟨g2, H⟩
    · refine x_if_ge_t dX12_qClip_19 (q := 28) (by decide) g2 ?_
      refine x_lload_n (q := 29) dX12_qClip_28 rfl rfl ?_
      cases H
      exact x_end ⟨dX12_qClip_29, rfl, rfl⟩
    · refine x_if_ge_f (q := 22) dX12_qClip_19 (t := 28) (by decide) rfl g2 ?_
      refine x_ldc2 (q := 25) (v := (-1000000 : Int64)) dX12_qClip_22 rfl kk_RX12_609 ?_
      refine x_goto dX12_qClip_25 (q := 29) (by decide) ?_
      cases H
      exact x_end ⟨dX12_qClip_29, rfl, rfl⟩
  · refine x_if_le_f (q := 8) dX12_qClip_5 (t := 14) (by decide) rfl g1 ?_
    refine x_ldc2 (q := 11) (v := (1000000 : Int64)) dX12_qClip_8 rfl kk_RX12_607 ?_
    refine x_goto dX12_qClip_11 (q := 29) (by decide) ?_
    cases H
    exact x_end ⟨dX12_qClip_29, rfl, rfl⟩
theorem s_X12_qClip {Z : Nat → (Nat → Nat) → State → Prop} (h : KH) (v0 : Int64) {t : Int64} (hn : h.1 = 243) (H : f_X12_qClip h v0 = some t) : KM Z yX12_qClip cX12_qClip 2 (some .long) 1 [.long v0] h (some (.long t)) h :=
  kx_l (own := RX12) (ini := false) (by decide +kernel) (by decide +kernel) rfl (Nat.le_of_ble_eq_true rfl) (s0_X12_qClip h v0 hn H)
theorem dX12_qFloor_0 : decode cX12_qFloor 0 = .ok (.lload_n 2, 1) := by decide +kernel
theorem dX12_qFloor_1 : decode cX12_qFloor 1 = .ok (.lconst 0, 1) := by decide +kernel
theorem dX12_qFloor_2 : decode cX12_qFloor 2 = .ok (.lcmp, 1) := by decide +kernel
theorem dX12_qFloor_3 : decode cX12_qFloor 3 = .ok (.ifCond .ne 5, 3) := by decide +kernel
theorem dX12_qFloor_6 : decode cX12_qFloor 6 = .ok (.lconst 0, 1) := by decide +kernel
theorem dX12_qFloor_7 : decode cX12_qFloor 7 = .ok (.lreturn, 1) := by decide +kernel
theorem dX12_qFloor_8 : decode cX12_qFloor 8 = .ok (.lload_n 0, 1) := by decide +kernel
theorem dX12_qFloor_9 : decode cX12_qFloor 9 = .ok (.lload_n 2, 1) := by decide +kernel
theorem dX12_qFloor_10 : decode cX12_qFloor 10 = .ok (.ldiv, 1) := by decide +kernel
theorem dX12_qFloor_11 : decode cX12_qFloor 11 = .ok (.lstore 4, 2) := by decide +kernel
theorem dX12_qFloor_13 : decode cX12_qFloor 13 = .ok (.lload_n 0, 1) := by decide +kernel
theorem dX12_qFloor_14 : decode cX12_qFloor 14 = .ok (.lload_n 2, 1) := by decide +kernel
theorem dX12_qFloor_15 : decode cX12_qFloor 15 = .ok (.lrem, 1) := by decide +kernel
theorem dX12_qFloor_16 : decode cX12_qFloor 16 = .ok (.lconst 0, 1) := by decide +kernel
theorem dX12_qFloor_17 : decode cX12_qFloor 17 = .ok (.lcmp, 1) := by decide +kernel
theorem dX12_qFloor_18 : decode cX12_qFloor 18 = .ok (.ifCond .eq 35, 3) := by decide +kernel
theorem dX12_qFloor_21 : decode cX12_qFloor 21 = .ok (.lload_n 0, 1) := by decide +kernel
theorem dX12_qFloor_22 : decode cX12_qFloor 22 = .ok (.lconst 0, 1) := by decide +kernel
theorem dX12_qFloor_23 : decode cX12_qFloor 23 = .ok (.lcmp, 1) := by decide +kernel
theorem dX12_qFloor_24 : decode cX12_qFloor 24 = .ok (.ifCond .ge 7, 3) := by decide +kernel
theorem dX12_qFloor_27 : decode cX12_qFloor 27 = .ok (.iconst 1, 1) := by decide +kernel
theorem dX12_qFloor_28 : decode cX12_qFloor 28 = .ok (.goto 4, 3) := by decide +kernel
theorem dX12_qFloor_31 : decode cX12_qFloor 31 = .ok (.iconst 0, 1) := by decide +kernel
theorem dX12_qFloor_32 : decode cX12_qFloor 32 = .ok (.lload_n 2, 1) := by decide +kernel
theorem dX12_qFloor_33 : decode cX12_qFloor 33 = .ok (.lconst 0, 1) := by decide +kernel
theorem dX12_qFloor_34 : decode cX12_qFloor 34 = .ok (.lcmp, 1) := by decide +kernel
theorem dX12_qFloor_35 : decode cX12_qFloor 35 = .ok (.ifCond .ge 7, 3) := by decide +kernel
theorem dX12_qFloor_38 : decode cX12_qFloor 38 = .ok (.iconst 1, 1) := by decide +kernel
theorem dX12_qFloor_39 : decode cX12_qFloor 39 = .ok (.goto 4, 3) := by decide +kernel
theorem dX12_qFloor_42 : decode cX12_qFloor 42 = .ok (.iconst 0, 1) := by decide +kernel
theorem dX12_qFloor_43 : decode cX12_qFloor 43 = .ok (.if_icmp .eq 10, 3) := by decide +kernel
theorem dX12_qFloor_46 : decode cX12_qFloor 46 = .ok (.lload 4, 2) := by decide +kernel
theorem dX12_qFloor_48 : decode cX12_qFloor 48 = .ok (.lconst 1, 1) := by decide +kernel
theorem dX12_qFloor_49 : decode cX12_qFloor 49 = .ok (.lsub, 1) := by decide +kernel
theorem dX12_qFloor_50 : decode cX12_qFloor 50 = .ok (.goto 5, 3) := by decide +kernel
theorem dX12_qFloor_53 : decode cX12_qFloor 53 = .ok (.lload 4, 2) := by decide +kernel
theorem dX12_qFloor_55 : decode cX12_qFloor 55 = .ok (.lreturn, 1) := by decide +kernel
def f_X12_qFloor_b43 (h : KH) (v4 : Int64) (w0 : Int32) (w1 : Int32) : Option (Int64) :=
  if w0 = w1 then
  some v4
  else
  some (v4 - (1 : Int64))
set_option maxHeartbeats 4000000 in
set_option maxRecDepth 100000 in
theorem s_X12_qFloor_b43 {Z : Nat → (Nat → Nat) → State → Prop} (h : KH) (v4 : Int64) (w0 : Int32) (w1 : Int32) {t : Int64} (hn : h.1 = 243) (H : f_X12_qFloor_b43 h v4 w0 w1 = some t) : KX Z RX12 cX12_qFloor 6 false 1 (KRl cX12_qFloor t h) 43 [(4, .long v4)] [.int w1, .int w0] h := by
  unfold f_X12_qFloor_b43 at H
  replace H := kite H; rcases H with ⟨g1, H⟩ | ⟨g1, H⟩
  · refine x_icmp_eq_t dX12_qFloor_43 (q := 53) (by decide) g1 ?_
    refine x_lload (q := 55) dX12_qFloor_53 rfl rfl ?_
    cases H
    exact x_end ⟨dX12_qFloor_55, rfl, rfl⟩
  · refine x_icmp_eq_f (q := 46) dX12_qFloor_43 (t := 53) (by decide) rfl g1 ?_
    refine x_lload (q := 48) dX12_qFloor_46 rfl rfl ?_
    refine x_lconst (q := 49) (v := (1 : Int64)) dX12_qFloor_48 rfl (by decide) ?_
    refine x_lsub (q := 50) dX12_qFloor_49 rfl ?_
    refine x_goto dX12_qFloor_50 (q := 55) (by decide) ?_
    cases H
    exact x_end ⟨dX12_qFloor_55, rfl, rfl⟩
def f_X12_qFloor_b32 (h : KH) (v2 : Int64) (v4 : Int64) (w0 : Int32) : Option (Int64) :=
  if 0 ≤ (lg_cmp v2 (0 : Int64)) then
  f_X12_qFloor_b43 h v4 w0 (0 : Int32)
  else
  f_X12_qFloor_b43 h v4 w0 (1 : Int32)
set_option maxHeartbeats 4000000 in
set_option maxRecDepth 100000 in
theorem s_X12_qFloor_b32 {Z : Nat → (Nat → Nat) → State → Prop} (h : KH) (v2 : Int64) (v4 : Int64) (w0 : Int32) {t : Int64} (hn : h.1 = 243) (H : f_X12_qFloor_b32 h v2 v4 w0 = some t) : KX Z RX12 cX12_qFloor 6 false 1 (KRl cX12_qFloor t h) 32 [(2, .long v2), (4, .long v4)] [.int w0] h := by
  unfold f_X12_qFloor_b32 at H
  refine x_lload_n (q := 33) dX12_qFloor_32 rfl rfl ?_
  refine x_lconst (q := 34) (v := (0 : Int64)) dX12_qFloor_33 rfl (by decide) ?_
  refine x_lcmp (q := 35) dX12_qFloor_34 rfl ?_
  replace H := kite H; rcases H with ⟨g1, H⟩ | ⟨g1, H⟩
  · refine x_if_ge_t dX12_qFloor_35 (q := 42) (by decide) g1 ?_
    refine x_iconst (q := 43) (v := (0 : Int32)) dX12_qFloor_42 rfl (by decide) ?_
    refine x_sub (ls2 := [(4, .long v4)]) [1] rfl ?_
    exact s_X12_qFloor_b43 h v4 w0 (0 : Int32) hn H
  · refine x_if_ge_f (q := 38) dX12_qFloor_35 (t := 42) (by decide) rfl g1 ?_
    refine x_iconst (q := 39) (v := (1 : Int32)) dX12_qFloor_38 rfl (by decide) ?_
    refine x_goto dX12_qFloor_39 (q := 43) (by decide) ?_
    refine x_sub (ls2 := [(4, .long v4)]) [1] rfl ?_
    exact s_X12_qFloor_b43 h v4 w0 (1 : Int32) hn H
def f_X12_qFloor (h : KH) (v0 : Int64) (v2 : Int64) : Option (Int64) :=
  if (lg_cmp v2 (0 : Int64)) = 0 then
  some (0 : Int64)
  else
  if v2 = 0 then none else kl (v0 / v2) fun x3 =>
  if v2 = 0 then none else if (lg_cmp (v0 - v0 / v2 * v2) (0 : Int64)) = 0 then
  some x3
  else
  if 0 ≤ (lg_cmp v0 (0 : Int64)) then
  f_X12_qFloor_b32 h v2 x3 (0 : Int32)
  else
  f_X12_qFloor_b32 h v2 x3 (1 : Int32)
set_option maxHeartbeats 4000000 in
set_option maxRecDepth 100000 in
theorem s0_X12_qFloor {Z : Nat → (Nat → Nat) → State → Prop} (h : KH) (v0 : Int64) (v2 : Int64) {t : Int64} (hn : h.1 = 243) (H : f_X12_qFloor h v0 v2 = some t) : KX Z RX12 cX12_qFloor 6 false 1 (KRl cX12_qFloor t h) 0 [(0, .long v0), (2, .long v2)] [] h := by
  unfold f_X12_qFloor at H
  refine x_lload_n (q := 1) dX12_qFloor_0 rfl rfl ?_
  refine x_lconst (q := 2) (v := (0 : Int64)) dX12_qFloor_1 rfl (by decide) ?_
  refine x_lcmp (q := 3) dX12_qFloor_2 rfl ?_
  replace H := kite H; rcases H with ⟨g1, H⟩ | ⟨g1, H⟩
  · refine x_if_ne_f (q := 6) dX12_qFloor_3 (t := 8) (by decide) rfl g1 ?_
    refine x_lconst (q := 7) (v := (0 : Int64)) dX12_qFloor_6 rfl (by decide) ?_
    cases H
    exact x_end ⟨dX12_qFloor_7, rfl, rfl⟩
  · refine x_if_ne_t dX12_qFloor_3 (q := 8) (by decide) g1 ?_
    refine x_lload_n (q := 9) dX12_qFloor_8 rfl rfl ?_
    refine x_lload_n (q := 10) dX12_qFloor_9 rfl rfl ?_
    replace H := kifn H; obtain ⟨g2, H⟩ := H
    refine x_ldiv (q := 11) dX12_qFloor_10 rfl g2 ?_
    replace H := kle H; obtain ⟨x3, q4, H⟩ := H
    refine x_nmL q4 ?_
    refine x_lstore (q := 13) (i := 4) (ls2 := [(4, .long x3), (0, .long v0), (2, .long v2)]) dX12_qFloor_11 rfl (by decide) rfl ?_
    refine x_lload_n (q := 14) dX12_qFloor_13 rfl rfl ?_
    refine x_lload_n (q := 15) dX12_qFloor_14 rfl rfl ?_
    replace H := kifn H; obtain ⟨g5, H⟩ := H
    refine x_lrem (q := 16) dX12_qFloor_15 rfl g5 ?_
    refine x_lconst (q := 17) (v := (0 : Int64)) dX12_qFloor_16 rfl (by decide) ?_
    refine x_lcmp (q := 18) dX12_qFloor_17 rfl ?_
    replace H := kite H; rcases H with ⟨g6, H⟩ | ⟨g6, H⟩
    · refine x_if_eq_t dX12_qFloor_18 (q := 53) (by decide) g6 ?_
      refine x_lload (q := 55) dX12_qFloor_53 rfl rfl ?_
      cases H
      exact x_end ⟨dX12_qFloor_55, rfl, rfl⟩
    · refine x_if_eq_f (q := 21) dX12_qFloor_18 (t := 53) (by decide) rfl g6 ?_
      refine x_lload_n (q := 22) dX12_qFloor_21 rfl rfl ?_
      refine x_lconst (q := 23) (v := (0 : Int64)) dX12_qFloor_22 rfl (by decide) ?_
      refine x_lcmp (q := 24) dX12_qFloor_23 rfl ?_
      replace H := kite H; rcases H with ⟨g7, H⟩ | ⟨g7, H⟩
      · refine x_if_ge_t dX12_qFloor_24 (q := 31) (by decide) g7 ?_
        refine x_iconst (q := 32) (v := (0 : Int32)) dX12_qFloor_31 rfl (by decide) ?_
        refine x_sub (ls2 := [(2, .long v2), (4, .long x3)]) [2, 0] rfl ?_
        exact s_X12_qFloor_b32 h v2 x3 (0 : Int32) hn H
      · refine x_if_ge_f (q := 27) dX12_qFloor_24 (t := 31) (by decide) rfl g7 ?_
        refine x_iconst (q := 28) (v := (1 : Int32)) dX12_qFloor_27 rfl (by decide) ?_
        refine x_goto dX12_qFloor_28 (q := 32) (by decide) ?_
        refine x_sub (ls2 := [(2, .long v2), (4, .long x3)]) [2, 0] rfl ?_
        exact s_X12_qFloor_b32 h v2 x3 (1 : Int32) hn H
theorem s_X12_qFloor {Z : Nat → (Nat → Nat) → State → Prop} (h : KH) (v0 : Int64) (v2 : Int64) {t : Int64} (hn : h.1 = 243) (H : f_X12_qFloor h v0 v2 = some t) : KM Z yX12_qFloor cX12_qFloor 6 (some .long) 1 [.long v0, .long v2] h (some (.long t)) h :=
  kx_l (own := RX12) (ini := false) (by decide +kernel) (by decide +kernel) rfl (Nat.le_of_ble_eq_true rfl) (s0_X12_qFloor h v0 v2 hn H)
theorem dX12_qJoins_0 : decode cX12_qJoins 0 = .ok (.aload_n 0, 1) := by decide +kernel
theorem dX12_qJoins_1 : decode cX12_qJoins 1 = .ok (.getfield 221, 3) := by decide +kernel
theorem dX12_qJoins_4 : decode cX12_qJoins 4 = .ok (.aload_n 0, 1) := by decide +kernel
theorem dX12_qJoins_5 : decode cX12_qJoins 5 = .ok (.getfield 379, 3) := by decide +kernel
theorem dX12_qJoins_8 : decode cX12_qJoins 8 = .ok (.iconst 1, 1) := by decide +kernel
theorem dX12_qJoins_9 : decode cX12_qJoins 9 = .ok (.isub, 1) := by decide +kernel
theorem dX12_qJoins_10 : decode cX12_qJoins 10 = .ok (.laload, 1) := by decide +kernel
theorem dX12_qJoins_11 : decode cX12_qJoins 11 = .ok (.lstore_n 2, 1) := by decide +kernel
theorem dX12_qJoins_12 : decode cX12_qJoins 12 = .ok (.aload_n 0, 1) := by decide +kernel
theorem dX12_qJoins_13 : decode cX12_qJoins 13 = .ok (.getfield 221, 3) := by decide +kernel
theorem dX12_qJoins_16 : decode cX12_qJoins 16 = .ok (.aload_n 0, 1) := by decide +kernel
theorem dX12_qJoins_17 : decode cX12_qJoins 17 = .ok (.getfield 379, 3) := by decide +kernel
theorem dX12_qJoins_20 : decode cX12_qJoins 20 = .ok (.iconst 2, 1) := by decide +kernel
theorem dX12_qJoins_21 : decode cX12_qJoins 21 = .ok (.isub, 1) := by decide +kernel
theorem dX12_qJoins_22 : decode cX12_qJoins 22 = .ok (.laload, 1) := by decide +kernel
theorem dX12_qJoins_23 : decode cX12_qJoins 23 = .ok (.lstore 4, 2) := by decide +kernel
theorem dX12_qJoins_25 : decode cX12_qJoins 25 = .ok (.aload_n 0, 1) := by decide +kernel
theorem dX12_qJoins_26 : decode cX12_qJoins 26 = .ok (.dup, 1) := by decide +kernel
theorem dX12_qJoins_27 : decode cX12_qJoins 27 = .ok (.getfield 379, 3) := by decide +kernel
theorem dX12_qJoins_30 : decode cX12_qJoins 30 = .ok (.iconst 2, 1) := by decide +kernel
theorem dX12_qJoins_31 : decode cX12_qJoins 31 = .ok (.isub, 1) := by decide +kernel
theorem dX12_qJoins_32 : decode cX12_qJoins 32 = .ok (.putfield 379, 3) := by decide +kernel
theorem dX12_qJoins_35 : decode cX12_qJoins 35 = .ok (.iload_n 1, 1) := by decide +kernel
theorem dX12_qJoins_36 : decode cX12_qJoins 36 = .ok (.tableswitch 219 1 10 #[56, 70, 84, 98, 111, 131, 151, 170, 189, 208], 56) := by decide +kernel
theorem dX12_qJoins_92 : decode cX12_qJoins 92 = .ok (.aload_n 0, 1) := by decide +kernel
theorem dX12_qJoins_93 : decode cX12_qJoins 93 = .ok (.lload 4, 2) := by decide +kernel
theorem dX12_qJoins_95 : decode cX12_qJoins 95 = .ok (.lload_n 2, 1) := by decide +kernel
theorem dX12_qJoins_96 : decode cX12_qJoins 96 = .ok (.ladd, 1) := by decide +kernel
theorem dX12_qJoins_97 : decode cX12_qJoins 97 = .ok (.invokestatic 611, 3) := by decide +kernel
theorem dX12_qJoins_100 : decode cX12_qJoins 100 = .ok (.invokevirtual 382, 3) := by decide +kernel
theorem dX12_qJoins_103 : decode cX12_qJoins 103 = .ok (.goto 170, 3) := by decide +kernel
theorem dX12_qJoins_106 : decode cX12_qJoins 106 = .ok (.aload_n 0, 1) := by decide +kernel
theorem dX12_qJoins_107 : decode cX12_qJoins 107 = .ok (.lload 4, 2) := by decide +kernel
theorem dX12_qJoins_109 : decode cX12_qJoins 109 = .ok (.lload_n 2, 1) := by decide +kernel
theorem dX12_qJoins_110 : decode cX12_qJoins 110 = .ok (.lsub, 1) := by decide +kernel
theorem dX12_qJoins_111 : decode cX12_qJoins 111 = .ok (.invokestatic 611, 3) := by decide +kernel
theorem dX12_qJoins_114 : decode cX12_qJoins 114 = .ok (.invokevirtual 382, 3) := by decide +kernel
theorem dX12_qJoins_117 : decode cX12_qJoins 117 = .ok (.goto 156, 3) := by decide +kernel
theorem dX12_qJoins_120 : decode cX12_qJoins 120 = .ok (.aload_n 0, 1) := by decide +kernel
theorem dX12_qJoins_121 : decode cX12_qJoins 121 = .ok (.lload 4, 2) := by decide +kernel
theorem dX12_qJoins_123 : decode cX12_qJoins 123 = .ok (.lload_n 2, 1) := by decide +kernel
theorem dX12_qJoins_124 : decode cX12_qJoins 124 = .ok (.lmul, 1) := by decide +kernel
theorem dX12_qJoins_125 : decode cX12_qJoins 125 = .ok (.invokestatic 611, 3) := by decide +kernel
theorem dX12_qJoins_128 : decode cX12_qJoins 128 = .ok (.invokevirtual 382, 3) := by decide +kernel
theorem dX12_qJoins_131 : decode cX12_qJoins 131 = .ok (.goto 142, 3) := by decide +kernel
theorem dX12_qJoins_134 : decode cX12_qJoins 134 = .ok (.aload_n 0, 1) := by decide +kernel
theorem dX12_qJoins_135 : decode cX12_qJoins 135 = .ok (.lload 4, 2) := by decide +kernel
theorem dX12_qJoins_137 : decode cX12_qJoins 137 = .ok (.lload_n 2, 1) := by decide +kernel
theorem dX12_qJoins_138 : decode cX12_qJoins 138 = .ok (.invokestatic 615, 3) := by decide +kernel
theorem dX12_qJoins_141 : decode cX12_qJoins 141 = .ok (.invokevirtual 382, 3) := by decide +kernel
theorem dX12_qJoins_144 : decode cX12_qJoins 144 = .ok (.goto 129, 3) := by decide +kernel
theorem dX12_qJoins_147 : decode cX12_qJoins 147 = .ok (.aload_n 0, 1) := by decide +kernel
theorem dX12_qJoins_148 : decode cX12_qJoins 148 = .ok (.lload 4, 2) := by decide +kernel
theorem dX12_qJoins_150 : decode cX12_qJoins 150 = .ok (.lload_n 2, 1) := by decide +kernel
theorem dX12_qJoins_151 : decode cX12_qJoins 151 = .ok (.lcmp, 1) := by decide +kernel
theorem dX12_qJoins_152 : decode cX12_qJoins 152 = .ok (.ifCond .ge 8, 3) := by decide +kernel
theorem dX12_qJoins_155 : decode cX12_qJoins 155 = .ok (.lload 4, 2) := by decide +kernel
theorem dX12_qJoins_157 : decode cX12_qJoins 157 = .ok (.goto 4, 3) := by decide +kernel
theorem dX12_qJoins_160 : decode cX12_qJoins 160 = .ok (.lload_n 2, 1) := by decide +kernel
theorem dX12_qJoins_161 : decode cX12_qJoins 161 = .ok (.invokevirtual 382, 3) := by decide +kernel
theorem dX12_qJoins_164 : decode cX12_qJoins 164 = .ok (.goto 109, 3) := by decide +kernel
theorem dX12_qJoins_167 : decode cX12_qJoins 167 = .ok (.aload_n 0, 1) := by decide +kernel
theorem dX12_qJoins_168 : decode cX12_qJoins 168 = .ok (.lload 4, 2) := by decide +kernel
theorem dX12_qJoins_170 : decode cX12_qJoins 170 = .ok (.lload_n 2, 1) := by decide +kernel
theorem dX12_qJoins_171 : decode cX12_qJoins 171 = .ok (.lcmp, 1) := by decide +kernel
theorem dX12_qJoins_172 : decode cX12_qJoins 172 = .ok (.ifCond .le 8, 3) := by decide +kernel
theorem dX12_qJoins_175 : decode cX12_qJoins 175 = .ok (.lload 4, 2) := by decide +kernel
theorem dX12_qJoins_177 : decode cX12_qJoins 177 = .ok (.goto 4, 3) := by decide +kernel
theorem dX12_qJoins_180 : decode cX12_qJoins 180 = .ok (.lload_n 2, 1) := by decide +kernel
theorem dX12_qJoins_181 : decode cX12_qJoins 181 = .ok (.invokevirtual 382, 3) := by decide +kernel
theorem dX12_qJoins_184 : decode cX12_qJoins 184 = .ok (.goto 89, 3) := by decide +kernel
theorem dX12_qJoins_187 : decode cX12_qJoins 187 = .ok (.aload_n 0, 1) := by decide +kernel
theorem dX12_qJoins_188 : decode cX12_qJoins 188 = .ok (.lload 4, 2) := by decide +kernel
theorem dX12_qJoins_190 : decode cX12_qJoins 190 = .ok (.lload_n 2, 1) := by decide +kernel
theorem dX12_qJoins_191 : decode cX12_qJoins 191 = .ok (.lcmp, 1) := by decide +kernel
theorem dX12_qJoins_192 : decode cX12_qJoins 192 = .ok (.ifCond .ge 7, 3) := by decide +kernel
theorem dX12_qJoins_195 : decode cX12_qJoins 195 = .ok (.lconst 1, 1) := by decide +kernel
theorem dX12_qJoins_196 : decode cX12_qJoins 196 = .ok (.goto 4, 3) := by decide +kernel
theorem dX12_qJoins_199 : decode cX12_qJoins 199 = .ok (.lconst 0, 1) := by decide +kernel
theorem dX12_qJoins_200 : decode cX12_qJoins 200 = .ok (.invokevirtual 382, 3) := by decide +kernel
theorem dX12_qJoins_203 : decode cX12_qJoins 203 = .ok (.goto 70, 3) := by decide +kernel
theorem dX12_qJoins_206 : decode cX12_qJoins 206 = .ok (.aload_n 0, 1) := by decide +kernel
theorem dX12_qJoins_207 : decode cX12_qJoins 207 = .ok (.lload 4, 2) := by decide +kernel
theorem dX12_qJoins_209 : decode cX12_qJoins 209 = .ok (.lload_n 2, 1) := by decide +kernel
theorem dX12_qJoins_210 : decode cX12_qJoins 210 = .ok (.lcmp, 1) := by decide +kernel
theorem dX12_qJoins_211 : decode cX12_qJoins 211 = .ok (.ifCond .le 7, 3) := by decide +kernel
theorem dX12_qJoins_214 : decode cX12_qJoins 214 = .ok (.lconst 1, 1) := by decide +kernel
theorem dX12_qJoins_215 : decode cX12_qJoins 215 = .ok (.goto 4, 3) := by decide +kernel
theorem dX12_qJoins_218 : decode cX12_qJoins 218 = .ok (.lconst 0, 1) := by decide +kernel
theorem dX12_qJoins_219 : decode cX12_qJoins 219 = .ok (.invokevirtual 382, 3) := by decide +kernel
theorem dX12_qJoins_222 : decode cX12_qJoins 222 = .ok (.goto 51, 3) := by decide +kernel
theorem dX12_qJoins_225 : decode cX12_qJoins 225 = .ok (.aload_n 0, 1) := by decide +kernel
theorem dX12_qJoins_226 : decode cX12_qJoins 226 = .ok (.lload 4, 2) := by decide +kernel
theorem dX12_qJoins_228 : decode cX12_qJoins 228 = .ok (.lload_n 2, 1) := by decide +kernel
theorem dX12_qJoins_229 : decode cX12_qJoins 229 = .ok (.lcmp, 1) := by decide +kernel
theorem dX12_qJoins_230 : decode cX12_qJoins 230 = .ok (.ifCond .ne 7, 3) := by decide +kernel
theorem dX12_qJoins_233 : decode cX12_qJoins 233 = .ok (.lconst 1, 1) := by decide +kernel
theorem dX12_qJoins_234 : decode cX12_qJoins 234 = .ok (.goto 4, 3) := by decide +kernel
theorem dX12_qJoins_237 : decode cX12_qJoins 237 = .ok (.lconst 0, 1) := by decide +kernel
theorem dX12_qJoins_238 : decode cX12_qJoins 238 = .ok (.invokevirtual 382, 3) := by decide +kernel
theorem dX12_qJoins_241 : decode cX12_qJoins 241 = .ok (.goto 32, 3) := by decide +kernel
theorem dX12_qJoins_244 : decode cX12_qJoins 244 = .ok (.aload_n 0, 1) := by decide +kernel
theorem dX12_qJoins_245 : decode cX12_qJoins 245 = .ok (.lload 4, 2) := by decide +kernel
theorem dX12_qJoins_247 : decode cX12_qJoins 247 = .ok (.lload_n 2, 1) := by decide +kernel
theorem dX12_qJoins_248 : decode cX12_qJoins 248 = .ok (.lmul, 1) := by decide +kernel
theorem dX12_qJoins_249 : decode cX12_qJoins 249 = .ok (.invokevirtual 382, 3) := by decide +kernel
theorem dX12_qJoins_252 : decode cX12_qJoins 252 = .ok (.goto 21, 3) := by decide +kernel
theorem dX12_qJoins_255 : decode cX12_qJoins 255 = .ok (.aload_n 0, 1) := by decide +kernel
theorem dX12_qJoins_256 : decode cX12_qJoins 256 = .ok (.lload 4, 2) := by decide +kernel
theorem dX12_qJoins_258 : decode cX12_qJoins 258 = .ok (.lload_n 2, 1) := by decide +kernel
theorem dX12_qJoins_259 : decode cX12_qJoins 259 = .ok (.ladd, 1) := by decide +kernel
theorem dX12_qJoins_260 : decode cX12_qJoins 260 = .ok (.lconst 0, 1) := by decide +kernel
theorem dX12_qJoins_261 : decode cX12_qJoins 261 = .ok (.lcmp, 1) := by decide +kernel
theorem dX12_qJoins_262 : decode cX12_qJoins 262 = .ok (.ifCond .le 7, 3) := by decide +kernel
theorem dX12_qJoins_265 : decode cX12_qJoins 265 = .ok (.lconst 1, 1) := by decide +kernel
theorem dX12_qJoins_266 : decode cX12_qJoins 266 = .ok (.goto 4, 3) := by decide +kernel
theorem dX12_qJoins_269 : decode cX12_qJoins 269 = .ok (.lconst 0, 1) := by decide +kernel
theorem dX12_qJoins_270 : decode cX12_qJoins 270 = .ok (.invokevirtual 382, 3) := by decide +kernel
theorem dX12_qJoins_273 : decode cX12_qJoins 273 = .ok (.return_, 1) := by decide +kernel
theorem kc_RX12_611 : Cond.methodLink RX12 611 yX12_qClip ∈ ktG ∧ Cond.static yX12_qClip ∈ ktG ∧ Cond.initialized yX12_qClip.cls ∈ ktG ∧ Cond.code yX12_qClip cX12_qClip 2 (some .long) ∈ ktG := ⟨(kwm 1762 (by decide +kernel) (by decide +kernel)), (kwm 1763 (by decide +kernel) (by decide +kernel)), (kwm 139 (by decide +kernel) (by decide +kernel)), kwm 1764 (by decide +kernel) (by decide +kernel)⟩
theorem kh_X12_qClip : yX12_qClip.cls ≠ "java/lang/invoke/MethodHandle" ∧ yX12_qClip.cls ≠ "java/lang/invoke/VarHandle" ∧ (parseMethodDescriptor yX12_qClip.desc).map (fun d => d.parameters.length) = some 1 := by decide +kernel
theorem kc_RX12_382 : Cond.methodLink RX12 382 yX12_qPuts ∈ ktG ∧ (Cond.instanceMethod yX12_qPuts ∈ ktG ∧ Cond.selects yX12_qPuts.cls yX12_qPuts yX12_qPuts ∈ ktG) ∧ Cond.initialized yX12_qPuts.cls ∈ ktG ∧ Cond.code yX12_qPuts cX12_qPuts 3 none ∈ ktG := ⟨(kwm 1750 (by decide +kernel) (by decide +kernel)), ⟨(kwm 1752 (by decide +kernel) (by decide +kernel)), (kwm 86 (by decide +kernel) (by decide +kernel))⟩, (kwm 139 (by decide +kernel) (by decide +kernel)), kwm 1753 (by decide +kernel) (by decide +kernel)⟩
theorem kh_X12_qPuts : yX12_qPuts.cls ≠ "java/lang/invoke/MethodHandle" ∧ yX12_qPuts.cls ≠ "java/lang/invoke/VarHandle" ∧ (parseMethodDescriptor yX12_qPuts.desc).map (fun d => d.parameters.length) = some 1 := by decide +kernel
theorem kc_RX12_615 : Cond.methodLink RX12 615 yX12_qFloor ∈ ktG ∧ Cond.static yX12_qFloor ∈ ktG ∧ Cond.initialized yX12_qFloor.cls ∈ ktG ∧ Cond.code yX12_qFloor cX12_qFloor 6 (some .long) ∈ ktG := ⟨(kwm 1767 (by decide +kernel) (by decide +kernel)), (kwm 1768 (by decide +kernel) (by decide +kernel)), (kwm 139 (by decide +kernel) (by decide +kernel)), kwm 1769 (by decide +kernel) (by decide +kernel)⟩
theorem kh_X12_qFloor : yX12_qFloor.cls ≠ "java/lang/invoke/MethodHandle" ∧ yX12_qFloor.cls ≠ "java/lang/invoke/VarHandle" ∧ (parseMethodDescriptor yX12_qFloor.desc).map (fun d => d.parameters.length) = some 2 := by decide +kernel
def f_X12_qJoins_b161 (h : KH) (w0 : Nat) (w1 : Int64) : Option (KH) :=
  if kkind w0 = 12 then kb (f_X12_qPuts h w0 w1) fun r2 =>
  some r2 else none
set_option maxHeartbeats 4000000 in
set_option maxRecDepth 100000 in
theorem s_X12_qJoins_b161 {Z : Nat → (Nat → Nat) → State → Prop} (h : KH) (w0 : Nat) (w1 : Int64) {t : KH} (hn : h.1 = 243) (H : f_X12_qJoins_b161 h w0 w1 = some t) : KX Z RX12 cX12_qJoins 6 false 2 (KRv cX12_qJoins t) 161 [] [.long w1, .ref w0] h := by
  unfold f_X12_qJoins_b161 at H
  replace H := kif H; obtain ⟨g1, H⟩ := H
  replace H := kbe H; obtain ⟨r2, c3, H⟩ := H
  have m4 := s_X12_qPuts (Z := Z) h w0 w1 hn c3
  refine x_callV (q := 164) (as := [.long w1]) (rest := []) dX12_qJoins_161 rfl kc_RX12_382 kh_X12_qPuts (by decide) (Nat.le_of_ble_eq_true rfl) m4 (ci := 12) (by exact ⟨rfl, by decide⟩) (k243 g1 (by decide) hn) ?_
  have n5 : (r2).1 = 243 := m4.1.full hn
  refine x_goto dX12_qJoins_164 (q := 273) (by decide) ?_
  cases H
  exact x_end ⟨dX12_qJoins_273, rfl, rfl⟩
def f_X12_qJoins_b181 (h : KH) (w0 : Nat) (w1 : Int64) : Option (KH) :=
  if kkind w0 = 12 then kb (f_X12_qPuts h w0 w1) fun r2 =>
  some r2 else none
set_option maxHeartbeats 4000000 in
set_option maxRecDepth 100000 in
theorem s_X12_qJoins_b181 {Z : Nat → (Nat → Nat) → State → Prop} (h : KH) (w0 : Nat) (w1 : Int64) {t : KH} (hn : h.1 = 243) (H : f_X12_qJoins_b181 h w0 w1 = some t) : KX Z RX12 cX12_qJoins 6 false 2 (KRv cX12_qJoins t) 181 [] [.long w1, .ref w0] h := by
  unfold f_X12_qJoins_b181 at H
  replace H := kif H; obtain ⟨g1, H⟩ := H
  replace H := kbe H; obtain ⟨r2, c3, H⟩ := H
  have m4 := s_X12_qPuts (Z := Z) h w0 w1 hn c3
  refine x_callV (q := 184) (as := [.long w1]) (rest := []) dX12_qJoins_181 rfl kc_RX12_382 kh_X12_qPuts (by decide) (Nat.le_of_ble_eq_true rfl) m4 (ci := 12) (by exact ⟨rfl, by decide⟩) (k243 g1 (by decide) hn) ?_
  have n5 : (r2).1 = 243 := m4.1.full hn
  refine x_goto dX12_qJoins_184 (q := 273) (by decide) ?_
  cases H
  exact x_end ⟨dX12_qJoins_273, rfl, rfl⟩
def f_X12_qJoins_b200 (h : KH) (w0 : Nat) (w1 : Int64) : Option (KH) :=
  if kkind w0 = 12 then kb (f_X12_qPuts h w0 w1) fun r2 =>
  some r2 else none
set_option maxHeartbeats 4000000 in
set_option maxRecDepth 100000 in
theorem s_X12_qJoins_b200 {Z : Nat → (Nat → Nat) → State → Prop} (h : KH) (w0 : Nat) (w1 : Int64) {t : KH} (hn : h.1 = 243) (H : f_X12_qJoins_b200 h w0 w1 = some t) : KX Z RX12 cX12_qJoins 6 false 2 (KRv cX12_qJoins t) 200 [] [.long w1, .ref w0] h := by
  unfold f_X12_qJoins_b200 at H
  replace H := kif H; obtain ⟨g1, H⟩ := H
  replace H := kbe H; obtain ⟨r2, c3, H⟩ := H
  have m4 := s_X12_qPuts (Z := Z) h w0 w1 hn c3
  refine x_callV (q := 203) (as := [.long w1]) (rest := []) dX12_qJoins_200 rfl kc_RX12_382 kh_X12_qPuts (by decide) (Nat.le_of_ble_eq_true rfl) m4 (ci := 12) (by exact ⟨rfl, by decide⟩) (k243 g1 (by decide) hn) ?_
  have n5 : (r2).1 = 243 := m4.1.full hn
  refine x_goto dX12_qJoins_203 (q := 273) (by decide) ?_
  cases H
  exact x_end ⟨dX12_qJoins_273, rfl, rfl⟩
def f_X12_qJoins_b219 (h : KH) (w0 : Nat) (w1 : Int64) : Option (KH) :=
  if kkind w0 = 12 then kb (f_X12_qPuts h w0 w1) fun r2 =>
  some r2 else none
set_option maxHeartbeats 4000000 in
set_option maxRecDepth 100000 in
theorem s_X12_qJoins_b219 {Z : Nat → (Nat → Nat) → State → Prop} (h : KH) (w0 : Nat) (w1 : Int64) {t : KH} (hn : h.1 = 243) (H : f_X12_qJoins_b219 h w0 w1 = some t) : KX Z RX12 cX12_qJoins 6 false 2 (KRv cX12_qJoins t) 219 [] [.long w1, .ref w0] h := by
  unfold f_X12_qJoins_b219 at H
  replace H := kif H; obtain ⟨g1, H⟩ := H
  replace H := kbe H; obtain ⟨r2, c3, H⟩ := H
  have m4 := s_X12_qPuts (Z := Z) h w0 w1 hn c3
  refine x_callV (q := 222) (as := [.long w1]) (rest := []) dX12_qJoins_219 rfl kc_RX12_382 kh_X12_qPuts (by decide) (Nat.le_of_ble_eq_true rfl) m4 (ci := 12) (by exact ⟨rfl, by decide⟩) (k243 g1 (by decide) hn) ?_
  have n5 : (r2).1 = 243 := m4.1.full hn
  refine x_goto dX12_qJoins_222 (q := 273) (by decide) ?_
  cases H
  exact x_end ⟨dX12_qJoins_273, rfl, rfl⟩
def f_X12_qJoins_b238 (h : KH) (w0 : Nat) (w1 : Int64) : Option (KH) :=
  if kkind w0 = 12 then kb (f_X12_qPuts h w0 w1) fun r2 =>
  some r2 else none
set_option maxHeartbeats 4000000 in
set_option maxRecDepth 100000 in
theorem s_X12_qJoins_b238 {Z : Nat → (Nat → Nat) → State → Prop} (h : KH) (w0 : Nat) (w1 : Int64) {t : KH} (hn : h.1 = 243) (H : f_X12_qJoins_b238 h w0 w1 = some t) : KX Z RX12 cX12_qJoins 6 false 2 (KRv cX12_qJoins t) 238 [] [.long w1, .ref w0] h := by
  unfold f_X12_qJoins_b238 at H
  replace H := kif H; obtain ⟨g1, H⟩ := H
  replace H := kbe H; obtain ⟨r2, c3, H⟩ := H
  have m4 := s_X12_qPuts (Z := Z) h w0 w1 hn c3
  refine x_callV (q := 241) (as := [.long w1]) (rest := []) dX12_qJoins_238 rfl kc_RX12_382 kh_X12_qPuts (by decide) (Nat.le_of_ble_eq_true rfl) m4 (ci := 12) (by exact ⟨rfl, by decide⟩) (k243 g1 (by decide) hn) ?_
  have n5 : (r2).1 = 243 := m4.1.full hn
  refine x_goto dX12_qJoins_241 (q := 273) (by decide) ?_
  cases H
  exact x_end ⟨dX12_qJoins_273, rfl, rfl⟩
def f_X12_qJoins_b270 (h : KH) (w0 : Nat) (w1 : Int64) : Option (KH) :=
  if kkind w0 = 12 then kb (f_X12_qPuts h w0 w1) fun r2 =>
  some r2 else none
set_option maxHeartbeats 4000000 in
set_option maxRecDepth 100000 in
theorem s_X12_qJoins_b270 {Z : Nat → (Nat → Nat) → State → Prop} (h : KH) (w0 : Nat) (w1 : Int64) {t : KH} (hn : h.1 = 243) (H : f_X12_qJoins_b270 h w0 w1 = some t) : KX Z RX12 cX12_qJoins 6 false 2 (KRv cX12_qJoins t) 270 [] [.long w1, .ref w0] h := by
  unfold f_X12_qJoins_b270 at H
  replace H := kif H; obtain ⟨g1, H⟩ := H
  replace H := kbe H; obtain ⟨r2, c3, H⟩ := H
  have m4 := s_X12_qPuts (Z := Z) h w0 w1 hn c3
  refine x_callV (q := 273) (as := [.long w1]) (rest := []) dX12_qJoins_270 rfl kc_RX12_382 kh_X12_qPuts (by decide) (Nat.le_of_ble_eq_true rfl) m4 (ci := 12) (by exact ⟨rfl, by decide⟩) (k243 g1 (by decide) hn) ?_
  have n5 : (r2).1 = 243 := m4.1.full hn
  cases H
  exact x_end ⟨dX12_qJoins_273, rfl, rfl⟩
def f_X12_qJoins (h : KH) (v0 : Nat) (v1 : Int32) : Option (KH) :=
  if kkind v0 = 12 then if (kR h v0 91) < 999999 then if kkind (kR h v0 91) = 21 then if (((kI h v0 92) - (1 : Int32)) < 0 ∨ klen (kR h v0 91) ≤ (((kI h v0 92) - (1 : Int32))).toNatClampNeg) then none else kl (kL h (kR h v0 91) ((((kI h v0 92) - (1 : Int32))).toNatClampNeg)) fun x5 =>
  if (((kI h v0 92) - (2 : Int32)) < 0 ∨ klen (kR h v0 91) ≤ (((kI h v0 92) - (2 : Int32))).toNatClampNeg) then none else kl (kL h (kR h v0 91) ((((kI h v0 92) - (2 : Int32))).toNatClampNeg)) fun x8 =>
  kl (ksI h v0 92 ((kI h v0 92) - (2 : Int32))) fun h10 =>
  if v1 = (1 : Int32) then
  kb (f_X12_qClip h10 (x8 + x5)) fun r14 =>
  kb (f_X12_qPuts h10 v0 r14) fun r17 =>
  some r17
  else if v1 = (2 : Int32) then
  kb (f_X12_qClip h10 (x8 - x5)) fun r22 =>
  kb (f_X12_qPuts h10 v0 r22) fun r25 =>
  some r25
  else if v1 = (3 : Int32) then
  kb (f_X12_qClip h10 (x8 * x5)) fun r30 =>
  kb (f_X12_qPuts h10 v0 r30) fun r33 =>
  some r33
  else if v1 = (4 : Int32) then
  kb (f_X12_qFloor h10 x8 x5) fun r38 =>
  kb (f_X12_qPuts h10 v0 r38) fun r41 =>
  some r41
  else if v1 = (5 : Int32) then
  if 0 ≤ (lg_cmp x8 x5) then
  f_X12_qJoins_b161 h10 v0 x5
  else
  f_X12_qJoins_b161 h10 v0 x8
  else if v1 = (6 : Int32) then
  if (lg_cmp x8 x5) ≤ 0 then
  f_X12_qJoins_b181 h10 v0 x5
  else
  f_X12_qJoins_b181 h10 v0 x8
  else if v1 = (7 : Int32) then
  if 0 ≤ (lg_cmp x8 x5) then
  f_X12_qJoins_b200 h10 v0 (0 : Int64)
  else
  f_X12_qJoins_b200 h10 v0 (1 : Int64)
  else if v1 = (8 : Int32) then
  if (lg_cmp x8 x5) ≤ 0 then
  f_X12_qJoins_b219 h10 v0 (0 : Int64)
  else
  f_X12_qJoins_b219 h10 v0 (1 : Int64)
  else if v1 = (9 : Int32) then
  if (lg_cmp x8 x5) = 0 then
  f_X12_qJoins_b238 h10 v0 (1 : Int64)
  else
  f_X12_qJoins_b238 h10 v0 (0 : Int64)
  else if v1 = (10 : Int32) then
  kb (f_X12_qPuts h10 v0 (x8 * x5)) fun r56 =>
  some r56
  else 
  if (lg_cmp (x8 + x5) (0 : Int64)) ≤ 0 then
  f_X12_qJoins_b270 h10 v0 (0 : Int64)
  else
  f_X12_qJoins_b270 h10 v0 (1 : Int64) else none else none else none
set_option maxHeartbeats 4000000 in
set_option maxRecDepth 100000 in
theorem s0_X12_qJoins {Z : Nat → (Nat → Nat) → State → Prop} (h : KH) (v0 : Nat) (v1 : Int32) {t : KH} (hn : h.1 = 243) (H : f_X12_qJoins h v0 v1 = some t) : KX Z RX12 cX12_qJoins 6 false 2 (KRv cX12_qJoins t) 0 [(0, .ref v0), (1, .int v1)] [] h := by
  unfold f_X12_qJoins at H
  refine x_aload_n (q := 1) dX12_qJoins_0 rfl rfl ?_
  replace H := kif H; obtain ⟨g1, H⟩ := H
  replace H := kif H; obtain ⟨g2, H⟩ := H
  refine x_getR (q := 4) dX12_qJoins_1 rfl kl_RX12_221 rfl (k243 g1 (by decide) hn) g2 ?_
  refine x_aload_n (q := 5) dX12_qJoins_4 rfl rfl ?_
  refine x_getI (q := 8) dX12_qJoins_5 rfl kl_RX12_379 (Or.inl rfl) (k243 g1 (by decide) hn) ?_
  refine x_iconst (q := 9) (v := (1 : Int32)) dX12_qJoins_8 rfl (by decide) ?_
  refine x_isub (q := 10) dX12_qJoins_9 rfl ?_
  replace H := kif H; obtain ⟨g3, H⟩ := H
  replace H := kifn H; obtain ⟨g4, H⟩ := H
  refine x_lald (q := 11) dX12_qJoins_10 rfl (k243 g3 (by decide) hn) g4 ?_
  replace H := kle H; obtain ⟨x5, q6, H⟩ := H
  refine x_nmL q6 ?_
  refine x_lstore_n (q := 12) (i := 2) (ls2 := [(2, .long x5), (0, .ref v0), (1, .int v1)]) dX12_qJoins_11 rfl rfl (by decide) rfl ?_
  refine x_aload_n (q := 13) dX12_qJoins_12 rfl rfl ?_
  refine x_getR (q := 16) dX12_qJoins_13 rfl kl_RX12_221 rfl (k243 g1 (by decide) hn) g2 ?_
  refine x_aload_n (q := 17) dX12_qJoins_16 rfl rfl ?_
  refine x_getI (q := 20) dX12_qJoins_17 rfl kl_RX12_379 (Or.inl rfl) (k243 g1 (by decide) hn) ?_
  refine x_iconst (q := 21) (v := (2 : Int32)) dX12_qJoins_20 rfl (by decide) ?_
  refine x_isub (q := 22) dX12_qJoins_21 rfl ?_
  replace H := kifn H; obtain ⟨g7, H⟩ := H
  refine x_lald (q := 23) dX12_qJoins_22 rfl (k243 g3 (by decide) hn) g7 ?_
  replace H := kle H; obtain ⟨x8, q9, H⟩ := H
  refine x_nmL q9 ?_
  refine x_lstore (q := 25) (i := 4) (ls2 := [(4, .long x8), (2, .long x5), (0, .ref v0), (1, .int v1)]) dX12_qJoins_23 rfl (by decide) rfl ?_
  refine x_aload_n (q := 26) dX12_qJoins_25 rfl rfl ?_
  refine x_dup (q := 27) dX12_qJoins_26 rfl rfl ?_
  refine x_getI (q := 30) dX12_qJoins_27 rfl kl_RX12_379 (Or.inl rfl) (k243 g1 (by decide) hn) ?_
  refine x_iconst (q := 31) (v := (2 : Int32)) dX12_qJoins_30 rfl (by decide) ?_
  refine x_isub (q := 32) dX12_qJoins_31 rfl ?_
  replace H := kle H; obtain ⟨h10, q11, H⟩ := H
  refine x_putI (q := 35) dX12_qJoins_32 rfl kl_RX12_379 (Or.inl rfl) rfl (k243 g1 (by decide) hn) ?_
  refine x_nmH q11 ?_
  have n12 : h10.1 = 243 := by rw [q11]; exact hn
  refine x_iload_n (q := 36) dX12_qJoins_35 rfl rfl ?_
  replace H := kite H; rcases H with ⟨g13, H⟩ | ⟨g13, H⟩
  · refine x_tableIn (v := (1 : Int32)) (off := 56) dX12_qJoins_36 g13 (by decide) (q := 92) (by decide) ?_
    refine x_aload_n (q := 93) dX12_qJoins_92 rfl rfl ?_
    refine x_lload (q := 95) dX12_qJoins_93 rfl rfl ?_
    refine x_lload_n (q := 96) dX12_qJoins_95 rfl rfl ?_
    refine x_ladd (q := 97) dX12_qJoins_96 rfl ?_
    replace H := kbe H; obtain ⟨r14, c15, H⟩ := H
    have m16 := s_X12_qClip (Z := Z) h10 (x8 + x5) n12 c15
    refine x_callS (q := 100) (as := [.long (x8 + x5)]) (rest := [.ref v0]) dX12_qJoins_97 rfl kc_RX12_611 kh_X12_qClip (by decide) (Nat.le_of_ble_eq_true rfl) m16 ?_
    replace H := kbe H; obtain ⟨r17, c18, H⟩ := H
    have m19 := s_X12_qPuts (Z := Z) h10 v0 r14 n12 c18
    refine x_callV (q := 103) (as := [.long r14]) (rest := []) dX12_qJoins_100 rfl kc_RX12_382 kh_X12_qPuts (by decide) (Nat.le_of_ble_eq_true rfl) m19 (ci := 12) (by exact ⟨rfl, by decide⟩) (k243 g1 (by decide) n12) ?_
    have n20 : (r17).1 = 243 := m19.1.full n12
    refine x_goto dX12_qJoins_103 (q := 273) (by decide) ?_
    cases H
    exact x_end ⟨dX12_qJoins_273, rfl, rfl⟩
  replace H := kite H; rcases H with ⟨g21, H⟩ | ⟨g21, H⟩
  · refine x_tableIn (v := (2 : Int32)) (off := 70) dX12_qJoins_36 g21 (by decide) (q := 106) (by decide) ?_
    refine x_aload_n (q := 107) dX12_qJoins_106 rfl rfl ?_
    refine x_lload (q := 109) dX12_qJoins_107 rfl rfl ?_
    refine x_lload_n (q := 110) dX12_qJoins_109 rfl rfl ?_
    refine x_lsub (q := 111) dX12_qJoins_110 rfl ?_
    replace H := kbe H; obtain ⟨r22, c23, H⟩ := H
    have m24 := s_X12_qClip (Z := Z) h10 (x8 - x5) n12 c23
    refine x_callS (q := 114) (as := [.long (x8 - x5)]) (rest := [.ref v0]) dX12_qJoins_111 rfl kc_RX12_611 kh_X12_qClip (by decide) (Nat.le_of_ble_eq_true rfl) m24 ?_
    replace H := kbe H; obtain ⟨r25, c26, H⟩ := H
    have m27 := s_X12_qPuts (Z := Z) h10 v0 r22 n12 c26
    refine x_callV (q := 117) (as := [.long r22]) (rest := []) dX12_qJoins_114 rfl kc_RX12_382 kh_X12_qPuts (by decide) (Nat.le_of_ble_eq_true rfl) m27 (ci := 12) (by exact ⟨rfl, by decide⟩) (k243 g1 (by decide) n12) ?_
    have n28 : (r25).1 = 243 := m27.1.full n12
    refine x_goto dX12_qJoins_117 (q := 273) (by decide) ?_
    cases H
    exact x_end ⟨dX12_qJoins_273, rfl, rfl⟩
  replace H := kite H; rcases H with ⟨g29, H⟩ | ⟨g29, H⟩
  · refine x_tableIn (v := (3 : Int32)) (off := 84) dX12_qJoins_36 g29 (by decide) (q := 120) (by decide) ?_
    refine x_aload_n (q := 121) dX12_qJoins_120 rfl rfl ?_
    refine x_lload (q := 123) dX12_qJoins_121 rfl rfl ?_
    refine x_lload_n (q := 124) dX12_qJoins_123 rfl rfl ?_
    refine x_lmul (q := 125) dX12_qJoins_124 rfl ?_
    replace H := kbe H; obtain ⟨r30, c31, H⟩ := H
    have m32 := s_X12_qClip (Z := Z) h10 (x8 * x5) n12 c31
    refine x_callS (q := 128) (as := [.long (x8 * x5)]) (rest := [.ref v0]) dX12_qJoins_125 rfl kc_RX12_611 kh_X12_qClip (by decide) (Nat.le_of_ble_eq_true rfl) m32 ?_
    replace H := kbe H; obtain ⟨r33, c34, H⟩ := H
    have m35 := s_X12_qPuts (Z := Z) h10 v0 r30 n12 c34
    refine x_callV (q := 131) (as := [.long r30]) (rest := []) dX12_qJoins_128 rfl kc_RX12_382 kh_X12_qPuts (by decide) (Nat.le_of_ble_eq_true rfl) m35 (ci := 12) (by exact ⟨rfl, by decide⟩) (k243 g1 (by decide) n12) ?_
    have n36 : (r33).1 = 243 := m35.1.full n12
    refine x_goto dX12_qJoins_131 (q := 273) (by decide) ?_
    cases H
    exact x_end ⟨dX12_qJoins_273, rfl, rfl⟩
  replace H := kite H; rcases H with ⟨g37, H⟩ | ⟨g37, H⟩
  · refine x_tableIn (v := (4 : Int32)) (off := 98) dX12_qJoins_36 g37 (by decide) (q := 134) (by decide) ?_
    refine x_aload_n (q := 135) dX12_qJoins_134 rfl rfl ?_
    refine x_lload (q := 137) dX12_qJoins_135 rfl rfl ?_
    refine x_lload_n (q := 138) dX12_qJoins_137 rfl rfl ?_
    replace H := kbe H; obtain ⟨r38, c39, H⟩ := H
    have m40 := s_X12_qFloor (Z := Z) h10 x8 x5 n12 c39
    refine x_callS (q := 141) (as := [.long x8, .long x5]) (rest := [.ref v0]) dX12_qJoins_138 rfl kc_RX12_615 kh_X12_qFloor (by decide) (Nat.le_of_ble_eq_true rfl) m40 ?_
    replace H := kbe H; obtain ⟨r41, c42, H⟩ := H
    have m43 := s_X12_qPuts (Z := Z) h10 v0 r38 n12 c42
    refine x_callV (q := 144) (as := [.long r38]) (rest := []) dX12_qJoins_141 rfl kc_RX12_382 kh_X12_qPuts (by decide) (Nat.le_of_ble_eq_true rfl) m43 (ci := 12) (by exact ⟨rfl, by decide⟩) (k243 g1 (by decide) n12) ?_
    have n44 : (r41).1 = 243 := m43.1.full n12
    refine x_goto dX12_qJoins_144 (q := 273) (by decide) ?_
    cases H
    exact x_end ⟨dX12_qJoins_273, rfl, rfl⟩
  replace H := kite H; rcases H with ⟨g45, H⟩ | ⟨g45, H⟩
  · refine x_tableIn (v := (5 : Int32)) (off := 111) dX12_qJoins_36 g45 (by decide) (q := 147) (by decide) ?_
    refine x_aload_n (q := 148) dX12_qJoins_147 rfl rfl ?_
    refine x_lload (q := 150) dX12_qJoins_148 rfl rfl ?_
    refine x_lload_n (q := 151) dX12_qJoins_150 rfl rfl ?_
    refine x_lcmp (q := 152) dX12_qJoins_151 rfl ?_
    replace H := kite H; rcases H with ⟨g46, H⟩ | ⟨g46, H⟩
    · refine x_if_ge_t dX12_qJoins_152 (q := 160) (by decide) g46 ?_
      refine x_lload_n (q := 161) dX12_qJoins_160 rfl rfl ?_
      refine x_sub (ls2 := []) [] rfl ?_
      exact s_X12_qJoins_b161 h10 v0 x5 n12 H
    · refine x_if_ge_f (q := 155) dX12_qJoins_152 (t := 160) (by decide) rfl g46 ?_
      refine x_lload (q := 157) dX12_qJoins_155 rfl rfl ?_
      refine x_goto dX12_qJoins_157 (q := 161) (by decide) ?_
      refine x_sub (ls2 := []) [] rfl ?_
      exact s_X12_qJoins_b161 h10 v0 x8 n12 H
  replace H := kite H; rcases H with ⟨g47, H⟩ | ⟨g47, H⟩
  · refine x_tableIn (v := (6 : Int32)) (off := 131) dX12_qJoins_36 g47 (by decide) (q := 167) (by decide) ?_
    refine x_aload_n (q := 168) dX12_qJoins_167 rfl rfl ?_
    refine x_lload (q := 170) dX12_qJoins_168 rfl rfl ?_
    refine x_lload_n (q := 171) dX12_qJoins_170 rfl rfl ?_
    refine x_lcmp (q := 172) dX12_qJoins_171 rfl ?_
    replace H := kite H; rcases H with ⟨g48, H⟩ | ⟨g48, H⟩
    · refine x_if_le_t dX12_qJoins_172 (q := 180) (by decide) g48 ?_
      refine x_lload_n (q := 181) dX12_qJoins_180 rfl rfl ?_
      refine x_sub (ls2 := []) [] rfl ?_
      exact s_X12_qJoins_b181 h10 v0 x5 n12 H
    · refine x_if_le_f (q := 175) dX12_qJoins_172 (t := 180) (by decide) rfl g48 ?_
      refine x_lload (q := 177) dX12_qJoins_175 rfl rfl ?_
      refine x_goto dX12_qJoins_177 (q := 181) (by decide) ?_
      refine x_sub (ls2 := []) [] rfl ?_
      exact s_X12_qJoins_b181 h10 v0 x8 n12 H
  replace H := kite H; rcases H with ⟨g49, H⟩ | ⟨g49, H⟩
  · refine x_tableIn (v := (7 : Int32)) (off := 151) dX12_qJoins_36 g49 (by decide) (q := 187) (by decide) ?_
    refine x_aload_n (q := 188) dX12_qJoins_187 rfl rfl ?_
    refine x_lload (q := 190) dX12_qJoins_188 rfl rfl ?_
    refine x_lload_n (q := 191) dX12_qJoins_190 rfl rfl ?_
    refine x_lcmp (q := 192) dX12_qJoins_191 rfl ?_
    replace H := kite H; rcases H with ⟨g50, H⟩ | ⟨g50, H⟩
    · refine x_if_ge_t dX12_qJoins_192 (q := 199) (by decide) g50 ?_
      refine x_lconst (q := 200) (v := (0 : Int64)) dX12_qJoins_199 rfl (by decide) ?_
      refine x_sub (ls2 := []) [] rfl ?_
      exact s_X12_qJoins_b200 h10 v0 (0 : Int64) n12 H
    · refine x_if_ge_f (q := 195) dX12_qJoins_192 (t := 199) (by decide) rfl g50 ?_
      refine x_lconst (q := 196) (v := (1 : Int64)) dX12_qJoins_195 rfl (by decide) ?_
      refine x_goto dX12_qJoins_196 (q := 200) (by decide) ?_
      refine x_sub (ls2 := []) [] rfl ?_
      exact s_X12_qJoins_b200 h10 v0 (1 : Int64) n12 H
  replace H := kite H; rcases H with ⟨g51, H⟩ | ⟨g51, H⟩
  · refine x_tableIn (v := (8 : Int32)) (off := 170) dX12_qJoins_36 g51 (by decide) (q := 206) (by decide) ?_
    refine x_aload_n (q := 207) dX12_qJoins_206 rfl rfl ?_
    refine x_lload (q := 209) dX12_qJoins_207 rfl rfl ?_
    refine x_lload_n (q := 210) dX12_qJoins_209 rfl rfl ?_
    refine x_lcmp (q := 211) dX12_qJoins_210 rfl ?_
    replace H := kite H; rcases H with ⟨g52, H⟩ | ⟨g52, H⟩
    · refine x_if_le_t dX12_qJoins_211 (q := 218) (by decide) g52 ?_
      refine x_lconst (q := 219) (v := (0 : Int64)) dX12_qJoins_218 rfl (by decide) ?_
      refine x_sub (ls2 := []) [] rfl ?_
      exact s_X12_qJoins_b219 h10 v0 (0 : Int64) n12 H
    · refine x_if_le_f (q := 214) dX12_qJoins_211 (t := 218) (by decide) rfl g52 ?_
      refine x_lconst (q := 215) (v := (1 : Int64)) dX12_qJoins_214 rfl (by decide) ?_
      refine x_goto dX12_qJoins_215 (q := 219) (by decide) ?_
      refine x_sub (ls2 := []) [] rfl ?_
      exact s_X12_qJoins_b219 h10 v0 (1 : Int64) n12 H
  replace H := kite H; rcases H with ⟨g53, H⟩ | ⟨g53, H⟩
  · refine x_tableIn (v := (9 : Int32)) (off := 189) dX12_qJoins_36 g53 (by decide) (q := 225) (by decide) ?_
    refine x_aload_n (q := 226) dX12_qJoins_225 rfl rfl ?_
    refine x_lload (q := 228) dX12_qJoins_226 rfl rfl ?_
    refine x_lload_n (q := 229) dX12_qJoins_228 rfl rfl ?_
    refine x_lcmp (q := 230) dX12_qJoins_229 rfl ?_
    replace H := kite H; rcases H with ⟨g54, H⟩ | ⟨g54, H⟩
    · refine x_if_ne_f (q := 233) dX12_qJoins_230 (t := 237) (by decide) rfl g54 ?_
      refine x_lconst (q := 234) (v := (1 : Int64)) dX12_qJoins_233 rfl (by decide) ?_
      refine x_goto dX12_qJoins_234 (q := 238) (by decide) ?_
      refine x_sub (ls2 := []) [] rfl ?_
      exact s_X12_qJoins_b238 h10 v0 (1 : Int64) n12 H
    · refine x_if_ne_t dX12_qJoins_230 (q := 237) (by decide) g54 ?_
      refine x_lconst (q := 238) (v := (0 : Int64)) dX12_qJoins_237 rfl (by decide) ?_
      refine x_sub (ls2 := []) [] rfl ?_
      exact s_X12_qJoins_b238 h10 v0 (0 : Int64) n12 H
  replace H := kite H; rcases H with ⟨g55, H⟩ | ⟨g55, H⟩
  · refine x_tableIn (v := (10 : Int32)) (off := 208) dX12_qJoins_36 g55 (by decide) (q := 244) (by decide) ?_
    refine x_aload_n (q := 245) dX12_qJoins_244 rfl rfl ?_
    refine x_lload (q := 247) dX12_qJoins_245 rfl rfl ?_
    refine x_lload_n (q := 248) dX12_qJoins_247 rfl rfl ?_
    refine x_lmul (q := 249) dX12_qJoins_248 rfl ?_
    replace H := kbe H; obtain ⟨r56, c57, H⟩ := H
    have m58 := s_X12_qPuts (Z := Z) h10 v0 (x8 * x5) n12 c57
    refine x_callV (q := 252) (as := [.long (x8 * x5)]) (rest := []) dX12_qJoins_249 rfl kc_RX12_382 kh_X12_qPuts (by decide) (Nat.le_of_ble_eq_true rfl) m58 (ci := 12) (by exact ⟨rfl, by decide⟩) (k243 g1 (by decide) n12) ?_
    have n59 : (r56).1 = 243 := m58.1.full n12
    refine x_goto dX12_qJoins_252 (q := 273) (by decide) ?_
    cases H
    exact x_end ⟨dX12_qJoins_273, rfl, rfl⟩
  refine x_tableOut dX12_qJoins_36 (q := 255) (by decide) (by have z0 : v1.toInt ≠ 1 := kne g13 (by decide); have z1 : v1.toInt ≠ 2 := kne g21 (by decide); have z2 : v1.toInt ≠ 3 := kne g29 (by decide); have z3 : v1.toInt ≠ 4 := kne g37 (by decide); have z4 : v1.toInt ≠ 5 := kne g45 (by decide); have z5 : v1.toInt ≠ 6 := kne g47 (by decide); have z6 : v1.toInt ≠ 7 := kne g49 (by decide); have z7 : v1.toInt ≠ 8 := kne g51 (by decide); have z8 : v1.toInt ≠ 9 := kne g53 (by decide); have z9 : v1.toInt ≠ 10 := kne g55 (by decide); omega) ?_
  refine x_aload_n (q := 256) dX12_qJoins_255 rfl rfl ?_
  refine x_lload (q := 258) dX12_qJoins_256 rfl rfl ?_
  refine x_lload_n (q := 259) dX12_qJoins_258 rfl rfl ?_
  refine x_ladd (q := 260) dX12_qJoins_259 rfl ?_
  refine x_lconst (q := 261) (v := (0 : Int64)) dX12_qJoins_260 rfl (by decide) ?_
  refine x_lcmp (q := 262) dX12_qJoins_261 rfl ?_
  replace H := kite H; rcases H with ⟨g60, H⟩ | ⟨g60, H⟩
  · refine x_if_le_t dX12_qJoins_262 (q := 269) (by decide) g60 ?_
    refine x_lconst (q := 270) (v := (0 : Int64)) dX12_qJoins_269 rfl (by decide) ?_
    refine x_sub (ls2 := []) [] rfl ?_
    exact s_X12_qJoins_b270 h10 v0 (0 : Int64) n12 H
  · refine x_if_le_f (q := 265) dX12_qJoins_262 (t := 269) (by decide) rfl g60 ?_
    refine x_lconst (q := 266) (v := (1 : Int64)) dX12_qJoins_265 rfl (by decide) ?_
    refine x_goto dX12_qJoins_266 (q := 270) (by decide) ?_
    refine x_sub (ls2 := []) [] rfl ?_
    exact s_X12_qJoins_b270 h10 v0 (1 : Int64) n12 H
theorem s_X12_qJoins {Z : Nat → (Nat → Nat) → State → Prop} (h : KH) (v0 : Nat) (v1 : Int32) {t : KH} (hn : h.1 = 243) (H : f_X12_qJoins h v0 v1 = some t) : KM Z yX12_qJoins cX12_qJoins 6 none 2 [.ref v0, .int v1] h none t :=
  kx_v (own := RX12) (ini := false) (by decide +kernel) (by decide +kernel) rfl (Nat.le_of_ble_eq_true rfl) (s0_X12_qJoins h v0 v1 hn H)
theorem dX12_yieldsAt_0 : decode cX12_yieldsAt 0 = .ok (.aload_n 0, 1) := by decide +kernel
theorem dX12_yieldsAt_1 : decode cX12_yieldsAt 1 = .ok (.getfield 106, 3) := by decide +kernel
theorem dX12_yieldsAt_4 : decode cX12_yieldsAt 4 = .ok (.iconst 1, 1) := by decide +kernel
theorem dX12_yieldsAt_5 : decode cX12_yieldsAt 5 = .ok (.iaload, 1) := by decide +kernel
theorem dX12_yieldsAt_6 : decode cX12_yieldsAt 6 = .ok (.iconst (-1), 1) := by decide +kernel
theorem dX12_yieldsAt_7 : decode cX12_yieldsAt 7 = .ok (.if_icmp .ne 5, 3) := by decide +kernel
theorem dX12_yieldsAt_10 : decode cX12_yieldsAt 10 = .ok (.iload_n 3, 1) := by decide +kernel
theorem dX12_yieldsAt_11 : decode cX12_yieldsAt 11 = .ok (.ireturn, 1) := by decide +kernel
theorem dX12_yieldsAt_12 : decode cX12_yieldsAt 12 = .ok (.aload_n 0, 1) := by decide +kernel
theorem dX12_yieldsAt_13 : decode cX12_yieldsAt 13 = .ok (.iload_n 1, 1) := by decide +kernel
theorem dX12_yieldsAt_14 : decode cX12_yieldsAt 14 = .ok (.putfield 370, 3) := by decide +kernel
theorem dX12_yieldsAt_17 : decode cX12_yieldsAt 17 = .ok (.aload_n 0, 1) := by decide +kernel
theorem dX12_yieldsAt_18 : decode cX12_yieldsAt 18 = .ok (.iload 4, 2) := by decide +kernel
theorem dX12_yieldsAt_20 : decode cX12_yieldsAt 20 = .ok (.putfield 373, 3) := by decide +kernel
theorem dX12_yieldsAt_23 : decode cX12_yieldsAt 23 = .ok (.aload_n 0, 1) := by decide +kernel
theorem dX12_yieldsAt_24 : decode cX12_yieldsAt 24 = .ok (.iload_n 3, 1) := by decide +kernel
theorem dX12_yieldsAt_25 : decode cX12_yieldsAt 25 = .ok (.putfield 376, 3) := by decide +kernel
theorem dX12_yieldsAt_28 : decode cX12_yieldsAt 28 = .ok (.aload_n 0, 1) := by decide +kernel
theorem dX12_yieldsAt_29 : decode cX12_yieldsAt 29 = .ok (.iconst 1, 1) := by decide +kernel
theorem dX12_yieldsAt_30 : decode cX12_yieldsAt 30 = .ok (.putfield 285, 3) := by decide +kernel
theorem dX12_yieldsAt_33 : decode cX12_yieldsAt 33 = .ok (.aload_n 0, 1) := by decide +kernel
theorem dX12_yieldsAt_34 : decode cX12_yieldsAt 34 = .ok (.iconst 0, 1) := by decide +kernel
theorem dX12_yieldsAt_35 : decode cX12_yieldsAt 35 = .ok (.putfield 379, 3) := by decide +kernel
theorem dX12_yieldsAt_38 : decode cX12_yieldsAt 38 = .ok (.aload_n 0, 1) := by decide +kernel
theorem dX12_yieldsAt_39 : decode cX12_yieldsAt 39 = .ok (.getfield 106, 3) := by decide +kernel
theorem dX12_yieldsAt_42 : decode cX12_yieldsAt 42 = .ok (.iconst 1, 1) := by decide +kernel
theorem dX12_yieldsAt_43 : decode cX12_yieldsAt 43 = .ok (.iaload, 1) := by decide +kernel
theorem dX12_yieldsAt_44 : decode cX12_yieldsAt 44 = .ok (.istore 5, 2) := by decide +kernel
theorem dX12_yieldsAt_46 : decode cX12_yieldsAt 46 = .ok (.iload 5, 2) := by decide +kernel
theorem dX12_yieldsAt_48 : decode cX12_yieldsAt 48 = .ok (.aload_n 0, 1) := by decide +kernel
theorem dX12_yieldsAt_49 : decode cX12_yieldsAt 49 = .ok (.getfield 109, 3) := by decide +kernel
theorem dX12_yieldsAt_52 : decode cX12_yieldsAt 52 = .ok (.iconst 1, 1) := by decide +kernel
theorem dX12_yieldsAt_53 : decode cX12_yieldsAt 53 = .ok (.iaload, 1) := by decide +kernel
theorem dX12_yieldsAt_54 : decode cX12_yieldsAt 54 = .ok (.if_icmp .ge 123, 3) := by decide +kernel
theorem dX12_yieldsAt_57 : decode cX12_yieldsAt 57 = .ok (.aload_n 0, 1) := by decide +kernel
theorem dX12_yieldsAt_58 : decode cX12_yieldsAt 58 = .ok (.getfield 112, 3) := by decide +kernel
theorem dX12_yieldsAt_61 : decode cX12_yieldsAt 61 = .ok (.sipush 1600, 3) := by decide +kernel
theorem dX12_yieldsAt_64 : decode cX12_yieldsAt 64 = .ok (.iload 5, 2) := by decide +kernel
theorem dX12_yieldsAt_66 : decode cX12_yieldsAt 66 = .ok (.iadd, 1) := by decide +kernel
theorem dX12_yieldsAt_67 : decode cX12_yieldsAt 67 = .ok (.iaload, 1) := by decide +kernel
theorem dX12_yieldsAt_68 : decode cX12_yieldsAt 68 = .ok (.istore 6, 2) := by decide +kernel
theorem dX12_yieldsAt_70 : decode cX12_yieldsAt 70 = .ok (.iload 6, 2) := by decide +kernel
theorem dX12_yieldsAt_72 : decode cX12_yieldsAt 72 = .ok (.sipush 1000, 3) := by decide +kernel
theorem dX12_yieldsAt_75 : decode cX12_yieldsAt 75 = .ok (.if_icmp .lt 17, 3) := by decide +kernel
theorem dX12_yieldsAt_78 : decode cX12_yieldsAt 78 = .ok (.aload_n 0, 1) := by decide +kernel
theorem dX12_yieldsAt_79 : decode cX12_yieldsAt 79 = .ok (.iload 6, 2) := by decide +kernel
theorem dX12_yieldsAt_81 : decode cX12_yieldsAt 81 = .ok (.sipush 1000, 3) := by decide +kernel
theorem dX12_yieldsAt_84 : decode cX12_yieldsAt 84 = .ok (.isub, 1) := by decide +kernel
theorem dX12_yieldsAt_85 : decode cX12_yieldsAt 85 = .ok (.i2l, 1) := by decide +kernel
theorem dX12_yieldsAt_86 : decode cX12_yieldsAt 86 = .ok (.invokevirtual 382, 3) := by decide +kernel
theorem dX12_yieldsAt_89 : decode cX12_yieldsAt 89 = .ok (.goto 82, 3) := by decide +kernel
theorem dX12_yieldsAt_92 : decode cX12_yieldsAt 92 = .ok (.iload 6, 2) := by decide +kernel
theorem dX12_yieldsAt_94 : decode cX12_yieldsAt 94 = .ok (.bipush 40, 2) := by decide +kernel
theorem dX12_yieldsAt_96 : decode cX12_yieldsAt 96 = .ok (.if_icmp .lt 20, 3) := by decide +kernel
theorem dX12_yieldsAt_99 : decode cX12_yieldsAt 99 = .ok (.aload_n 0, 1) := by decide +kernel
theorem dX12_yieldsAt_100 : decode cX12_yieldsAt 100 = .ok (.aload_n 0, 1) := by decide +kernel
theorem dX12_yieldsAt_101 : decode cX12_yieldsAt 101 = .ok (.iload 6, 2) := by decide +kernel
theorem dX12_yieldsAt_103 : decode cX12_yieldsAt 103 = .ok (.bipush 40, 2) := by decide +kernel
theorem dX12_yieldsAt_105 : decode cX12_yieldsAt 105 = .ok (.isub, 1) := by decide +kernel
theorem dX12_yieldsAt_106 : decode cX12_yieldsAt 106 = .ok (.iload_n 2, 1) := by decide +kernel
theorem dX12_yieldsAt_107 : decode cX12_yieldsAt 107 = .ok (.invokevirtual 386, 3) := by decide +kernel
theorem dX12_yieldsAt_110 : decode cX12_yieldsAt 110 = .ok (.invokevirtual 382, 3) := by decide +kernel
theorem dX12_yieldsAt_113 : decode cX12_yieldsAt 113 = .ok (.goto 58, 3) := by decide +kernel
theorem dX12_yieldsAt_116 : decode cX12_yieldsAt 116 = .ok (.iload 6, 2) := by decide +kernel
theorem dX12_yieldsAt_118 : decode cX12_yieldsAt 118 = .ok (.bipush 13, 2) := by decide +kernel
theorem dX12_yieldsAt_120 : decode cX12_yieldsAt 120 = .ok (.if_icmp .ne 11, 3) := by decide +kernel
theorem dX12_yieldsAt_123 : decode cX12_yieldsAt 123 = .ok (.aload_n 0, 1) := by decide +kernel
theorem dX12_yieldsAt_124 : decode cX12_yieldsAt 124 = .ok (.lconst 1, 1) := by decide +kernel
theorem dX12_yieldsAt_125 : decode cX12_yieldsAt 125 = .ok (.invokevirtual 382, 3) := by decide +kernel
theorem dX12_yieldsAt_128 : decode cX12_yieldsAt 128 = .ok (.goto 43, 3) := by decide +kernel
theorem dX12_yieldsAt_131 : decode cX12_yieldsAt 131 = .ok (.iload 6, 2) := by decide +kernel
theorem dX12_yieldsAt_133 : decode cX12_yieldsAt 133 = .ok (.bipush 12, 2) := by decide +kernel
theorem dX12_yieldsAt_135 : decode cX12_yieldsAt 135 = .ok (.if_icmp .ne 30, 3) := by decide +kernel
theorem dX12_yieldsAt_138 : decode cX12_yieldsAt 138 = .ok (.aload_n 0, 1) := by decide +kernel
theorem dX12_yieldsAt_139 : decode cX12_yieldsAt 139 = .ok (.getfield 221, 3) := by decide +kernel
theorem dX12_yieldsAt_142 : decode cX12_yieldsAt 142 = .ok (.aload_n 0, 1) := by decide +kernel
theorem dX12_yieldsAt_143 : decode cX12_yieldsAt 143 = .ok (.getfield 379, 3) := by decide +kernel
theorem dX12_yieldsAt_146 : decode cX12_yieldsAt 146 = .ok (.iconst 1, 1) := by decide +kernel
theorem dX12_yieldsAt_147 : decode cX12_yieldsAt 147 = .ok (.isub, 1) := by decide +kernel
theorem dX12_yieldsAt_148 : decode cX12_yieldsAt 148 = .ok (.lconst 1, 1) := by decide +kernel
theorem dX12_yieldsAt_149 : decode cX12_yieldsAt 149 = .ok (.aload_n 0, 1) := by decide +kernel
theorem dX12_yieldsAt_150 : decode cX12_yieldsAt 150 = .ok (.getfield 221, 3) := by decide +kernel
theorem dX12_yieldsAt_153 : decode cX12_yieldsAt 153 = .ok (.aload_n 0, 1) := by decide +kernel
theorem dX12_yieldsAt_154 : decode cX12_yieldsAt 154 = .ok (.getfield 379, 3) := by decide +kernel
theorem dX12_yieldsAt_157 : decode cX12_yieldsAt 157 = .ok (.iconst 1, 1) := by decide +kernel
theorem dX12_yieldsAt_158 : decode cX12_yieldsAt 158 = .ok (.isub, 1) := by decide +kernel
theorem dX12_yieldsAt_159 : decode cX12_yieldsAt 159 = .ok (.laload, 1) := by decide +kernel
theorem dX12_yieldsAt_160 : decode cX12_yieldsAt 160 = .ok (.lsub, 1) := by decide +kernel
theorem dX12_yieldsAt_161 : decode cX12_yieldsAt 161 = .ok (.lastore, 1) := by decide +kernel
theorem dX12_yieldsAt_162 : decode cX12_yieldsAt 162 = .ok (.goto 9, 3) := by decide +kernel
theorem dX12_yieldsAt_165 : decode cX12_yieldsAt 165 = .ok (.aload_n 0, 1) := by decide +kernel
theorem dX12_yieldsAt_166 : decode cX12_yieldsAt 166 = .ok (.iload 6, 2) := by decide +kernel
theorem dX12_yieldsAt_168 : decode cX12_yieldsAt 168 = .ok (.invokevirtual 390, 3) := by decide +kernel
theorem dX12_yieldsAt_171 : decode cX12_yieldsAt 171 = .ok (.iinc 5 1, 3) := by decide +kernel
theorem dX12_yieldsAt_174 : decode cX12_yieldsAt 174 = .ok (.goto (-128), 3) := by decide +kernel
theorem dX12_yieldsAt_177 : decode cX12_yieldsAt 177 = .ok (.aload_n 0, 1) := by decide +kernel
theorem dX12_yieldsAt_178 : decode cX12_yieldsAt 178 = .ok (.getfield 221, 3) := by decide +kernel
theorem dX12_yieldsAt_181 : decode cX12_yieldsAt 181 = .ok (.iconst 0, 1) := by decide +kernel
theorem dX12_yieldsAt_182 : decode cX12_yieldsAt 182 = .ok (.laload, 1) := by decide +kernel
theorem dX12_yieldsAt_183 : decode cX12_yieldsAt 183 = .ok (.l2i, 1) := by decide +kernel
theorem dX12_yieldsAt_184 : decode cX12_yieldsAt 184 = .ok (.ireturn, 1) := by decide +kernel
theorem kc_RX12_390 : Cond.methodLink RX12 390 yX12_qJoins ∈ ktG ∧ (Cond.instanceMethod yX12_qJoins ∈ ktG ∧ Cond.selects yX12_qJoins.cls yX12_qJoins yX12_qJoins ∈ ktG) ∧ Cond.initialized yX12_qJoins.cls ∈ ktG ∧ Cond.code yX12_qJoins cX12_qJoins 6 none ∈ ktG := ⟨(kwm 1758 (by decide +kernel) (by decide +kernel)), ⟨(kwm 1760 (by decide +kernel) (by decide +kernel)), (kwm 88 (by decide +kernel) (by decide +kernel))⟩, (kwm 139 (by decide +kernel) (by decide +kernel)), kwm 1761 (by decide +kernel) (by decide +kernel)⟩
theorem kh_X12_qJoins : yX12_qJoins.cls ≠ "java/lang/invoke/MethodHandle" ∧ yX12_qJoins.cls ≠ "java/lang/invoke/VarHandle" ∧ (parseMethodDescriptor yX12_qJoins.desc).map (fun d => d.parameters.length) = some 1 := by decide +kernel
theorem kc_RX12_386 : Cond.methodLink RX12 386 yX12_qPartOf ∈ ktG ∧ (Cond.instanceMethod yX12_qPartOf ∈ ktG ∧ Cond.selects yX12_qPartOf.cls yX12_qPartOf yX12_qPartOf ∈ ktG) ∧ Cond.initialized yX12_qPartOf.cls ∈ ktG ∧ Cond.code yX12_qPartOf cX12_qPartOf 3 (some .long) ∈ ktG := ⟨(kwm 1754 (by decide +kernel) (by decide +kernel)), ⟨(kwm 1756 (by decide +kernel) (by decide +kernel)), (kwm 87 (by decide +kernel) (by decide +kernel))⟩, (kwm 139 (by decide +kernel) (by decide +kernel)), kwm 1757 (by decide +kernel) (by decide +kernel)⟩
theorem kh_X12_qPartOf : yX12_qPartOf.cls ≠ "java/lang/invoke/MethodHandle" ∧ yX12_qPartOf.cls ≠ "java/lang/invoke/VarHandle" ∧ (parseMethodDescriptor yX12_qPartOf.desc).map (fun d => d.parameters.length) = some 2 := by decide +kernel
def E_X12_yieldsAt_l46 (v0 : Nat) (v2 : Int32) : KH → Nat → List (Nat × Value) → List Value → KH → Prop := fun (e : KH) pc ls st hh => pc = 177 ∧ ls = [(0, .ref v0)] ∧ st = [] ∧ e = hh
def B_X12_yieldsAt_l46 (v0 : Nat) (v2 : Int32) : ((Int32 × KH) ⊕ (KH)) → Nat → List (Nat × Value) → List Value → KH → Prop := Sum.elim (fun (s : Int32 × KH) pc ls st hh => pc = 46 ∧ ls = [(0, .ref v0), (2, .int v2), (5, .int s.1)] ∧ st = [] ∧ hh = s.2) (E_X12_yieldsAt_l46 v0 v2)
def f_X12_yieldsAt_b171 (h : KH) (v0 : Nat) (v2 : Int32) (v5 : Int32) : Option ((Int32 × KH) ⊕ (KH)) :=
  kl (v5 + (1 : Int32)) fun x1 =>
  some (.inl (x1, h))
set_option maxHeartbeats 4000000 in
set_option maxRecDepth 100000 in
theorem s_X12_yieldsAt_b171 {Z : Nat → (Nat → Nat) → State → Prop} (h : KH) (v0 : Nat) (v2 : Int32) (v5 : Int32) {t : (Int32 × KH) ⊕ (KH)} (hn : h.1 = 243) (H : f_X12_yieldsAt_b171 h v0 v2 v5 = some t) : KX Z RX12 cX12_yieldsAt 7 false 3 (B_X12_yieldsAt_l46 v0 v2 t) 171 [(0, .ref v0), (2, .int v2), (5, .int v5)] [] h := by
  unfold f_X12_yieldsAt_b171 at H
  replace H := kle H; obtain ⟨x1, q2, H⟩ := H
  refine x_iinc (q := 174) (i := 5) (ls2 := [(5, .int x1), (0, .ref v0), (2, .int v2)]) dX12_yieldsAt_171 rfl rfl (by decide) (by rw [q2]; rfl) ?_
  refine x_goto dX12_yieldsAt_174 (q := 46) (by decide) ?_
  cases H
  refine x_sub (ls2 := [(0, .ref v0), (2, .int v2), (5, .int x1)]) [1, 2, 0] rfl ?_
  exact x_end (x_cfg rfl)
def f_X12_yieldsAt_l46 (v0 : Nat) (v2 : Int32) (s : Int32 × KH) : Option ((Int32 × KH) ⊕ (KH)) :=
  if kkind v0 = 12 then if (kR s.2 v0 40) < 999999 then if kkind (kR s.2 v0 40) = 20 then if klen (kR s.2 v0 40) ≤ 1 then none else if (kI s.2 (kR s.2 v0 40) 1) ≤ s.1 then
  some (.inr s.2)
  else
  if (kR s.2 v0 41) < 999999 then if kkind (kR s.2 v0 41) = 20 then if (((1600 : Int32) + s.1) < 0 ∨ klen (kR s.2 v0 41) ≤ (((1600 : Int32) + s.1)).toNatClampNeg) then none else kl (kI s.2 (kR s.2 v0 41) ((((1600 : Int32) + s.1)).toNatClampNeg)) fun x9 =>
  if x9 < (1000 : Int32) then
  if x9 < (40 : Int32) then
  if x9 = (13 : Int32) then
  kb (f_X12_qPuts s.2 v0 (1 : Int64)) fun r25 =>
  f_X12_yieldsAt_b171 r25 v0 v2 s.1
  else
  if x9 = (12 : Int32) then
  if (kR s.2 v0 91) < 999999 then if kkind (kR s.2 v0 91) = 21 then if (((kI s.2 v0 92) - (1 : Int32)) < 0 ∨ klen (kR s.2 v0 91) ≤ (((kI s.2 v0 92) - (1 : Int32))).toNatClampNeg) then none else kl (ksL s.2 (kR s.2 v0 91) ((((kI s.2 v0 92) - (1 : Int32))).toNatClampNeg) ((1 : Int64) - (kL s.2 (kR s.2 v0 91) ((((kI s.2 v0 92) - (1 : Int32))).toNatClampNeg)))) fun h22 =>
  f_X12_yieldsAt_b171 h22 v0 v2 s.1 else none else none
  else
  kb (f_X12_qJoins s.2 v0 x9) fun r15 =>
  f_X12_yieldsAt_b171 r15 v0 v2 s.1
  else
  kb (f_X12_qPartOf s.2 v0 (x9 - (40 : Int32)) v2) fun r29 =>
  kb (f_X12_qPuts s.2 v0 r29) fun r32 =>
  f_X12_yieldsAt_b171 r32 v0 v2 s.1
  else
  kb (f_X12_qPuts s.2 v0 (((x9 - (1000 : Int32))).toInt64)) fun r36 =>
  f_X12_yieldsAt_b171 r36 v0 v2 s.1 else none else none else none else none else none
set_option maxHeartbeats 4000000 in
set_option maxRecDepth 100000 in
theorem s_X12_yieldsAt_l46 {Z : Nat → (Nat → Nat) → State → Prop} (v0 : Nat) (v2 : Int32) (s : Int32 × KH) (t : (Int32 × KH) ⊕ (KH)) (hn : (s.2).1 = 243) (H : f_X12_yieldsAt_l46 v0 v2 s = some t) : KX Z RX12 cX12_yieldsAt 7 false 3 (B_X12_yieldsAt_l46 v0 v2 t) 46 [(0, .ref v0), (2, .int v2), (5, .int s.1)] [] s.2 := by
  unfold f_X12_yieldsAt_l46 at H
  refine x_iload (q := 48) dX12_yieldsAt_46 rfl rfl ?_
  refine x_aload_n (q := 49) dX12_yieldsAt_48 rfl rfl ?_
  replace H := kif H; obtain ⟨g1, H⟩ := H
  replace H := kif H; obtain ⟨g2, H⟩ := H
  refine x_getR (q := 52) dX12_yieldsAt_49 rfl kl_RX12_109 rfl (k243 g1 (by decide) hn) g2 ?_
  refine x_iconst (q := 53) (v := (1 : Int32)) dX12_yieldsAt_52 rfl (by decide) ?_
  replace H := kif H; obtain ⟨g3, H⟩ := H
  replace H := kifn H; obtain ⟨g4, H⟩ := H
  refine x_iald (q := 54) dX12_yieldsAt_53 rfl (k243 g3 (by decide) hn) (fun z => z.elim (by decide) g4) ?_
  replace H := kite H; rcases H with ⟨g5, H⟩ | ⟨g5, H⟩
  · refine x_icmp_ge_t dX12_yieldsAt_54 (q := 177) (by decide) g5 ?_
    cases H
    refine x_sub (ls2 := [(0, .ref v0)]) [0] rfl ?_
    exact x_end (x_cfg rfl)
  · refine x_icmp_ge_f (q := 57) dX12_yieldsAt_54 (t := 177) (by decide) rfl g5 ?_
    refine x_aload_n (q := 58) dX12_yieldsAt_57 rfl rfl ?_
    replace H := kif H; obtain ⟨g6, H⟩ := H
    refine x_getR (q := 61) dX12_yieldsAt_58 rfl kl_RX12_112 rfl (k243 g1 (by decide) hn) g6 ?_
    refine x_sipush (q := 64) (v := (1600 : Int32)) dX12_yieldsAt_61 rfl (by decide) ?_
    refine x_iload (q := 66) dX12_yieldsAt_64 rfl rfl ?_
    refine x_iadd (q := 67) dX12_yieldsAt_66 rfl ?_
    replace H := kif H; obtain ⟨g7, H⟩ := H
    replace H := kifn H; obtain ⟨g8, H⟩ := H
    refine x_iald (q := 68) dX12_yieldsAt_67 rfl (k243 g7 (by decide) hn) g8 ?_
    replace H := kle H; obtain ⟨x9, q10, H⟩ := H
    refine x_nmI q10 ?_
    refine x_istore (q := 70) (i := 6) (ls2 := [(6, .int x9), (0, .ref v0), (2, .int v2), (5, .int s.1)]) dX12_yieldsAt_68 rfl (by decide) rfl ?_
    refine x_iload (q := 72) dX12_yieldsAt_70 rfl rfl ?_
    refine x_sipush (q := 75) (v := (1000 : Int32)) dX12_yieldsAt_72 rfl (by decide) ?_
    replace H := kite H; rcases H with ⟨g11, H⟩ | ⟨g11, H⟩
    · refine x_icmp_lt_t dX12_yieldsAt_75 (q := 92) (by decide) g11 ?_
      refine x_iload (q := 94) dX12_yieldsAt_92 rfl rfl ?_
      refine x_bipush (q := 96) (v := (40 : Int32)) dX12_yieldsAt_94 rfl (by decide) ?_
      replace H := kite H; rcases H with ⟨g12, H⟩ | ⟨g12, H⟩
      · refine x_icmp_lt_t dX12_yieldsAt_96 (q := 116) (by decide) g12 ?_
        refine x_iload (q := 118) dX12_yieldsAt_116 rfl rfl ?_
        refine x_bipush (q := 120) (v := (13 : Int32)) dX12_yieldsAt_118 rfl (by decide) ?_
        replace H := kite H; rcases H with ⟨g13, H⟩ | ⟨g13, H⟩
        · refine x_icmp_ne_f (q := 123) dX12_yieldsAt_120 (t := 131) (by decide) rfl g13 ?_
          refine x_aload_n (q := 124) dX12_yieldsAt_123 rfl rfl ?_
          refine x_lconst (q := 125) (v := (1 : Int64)) dX12_yieldsAt_124 rfl (by decide) ?_
          replace H := kbe H; obtain ⟨r25, c26, H⟩ := H
          have m27 := s_X12_qPuts (Z := Z) s.2 v0 (1 : Int64) hn c26
          refine x_callV (q := 128) (as := [.long (1 : Int64)]) (rest := []) dX12_yieldsAt_125 rfl kc_RX12_382 kh_X12_qPuts (by decide) (Nat.le_of_ble_eq_true rfl) m27 (ci := 12) (by exact ⟨rfl, by decide⟩) (k243 g1 (by decide) hn) ?_
          have n28 : (r25).1 = 243 := m27.1.full hn
          refine x_goto dX12_yieldsAt_128 (q := 171) (by decide) ?_
          refine x_sub (ls2 := [(0, .ref v0), (2, .int v2), (5, .int s.1)]) [1, 2, 3] rfl ?_
          exact s_X12_yieldsAt_b171 r25 v0 v2 s.1 n28 H
        · refine x_icmp_ne_t dX12_yieldsAt_120 (q := 131) (by decide) g13 ?_
          refine x_iload (q := 133) dX12_yieldsAt_131 rfl rfl ?_
          refine x_bipush (q := 135) (v := (12 : Int32)) dX12_yieldsAt_133 rfl (by decide) ?_
          replace H := kite H; rcases H with ⟨g14, H⟩ | ⟨g14, H⟩
          · refine x_icmp_ne_f (q := 138) dX12_yieldsAt_135 (t := 165) (by decide) rfl g14 ?_
            refine x_aload_n (q := 139) dX12_yieldsAt_138 rfl rfl ?_
            replace H := kif H; obtain ⟨g19, H⟩ := H
            refine x_getR (q := 142) dX12_yieldsAt_139 rfl kl_RX12_221 rfl (k243 g1 (by decide) hn) g19 ?_
            refine x_aload_n (q := 143) dX12_yieldsAt_142 rfl rfl ?_
            refine x_getI (q := 146) dX12_yieldsAt_143 rfl kl_RX12_379 (Or.inl rfl) (k243 g1 (by decide) hn) ?_
            refine x_iconst (q := 147) (v := (1 : Int32)) dX12_yieldsAt_146 rfl (by decide) ?_
            refine x_isub (q := 148) dX12_yieldsAt_147 rfl ?_
            refine x_lconst (q := 149) (v := (1 : Int64)) dX12_yieldsAt_148 rfl (by decide) ?_
            refine x_aload_n (q := 150) dX12_yieldsAt_149 rfl rfl ?_
            refine x_getR (q := 153) dX12_yieldsAt_150 rfl kl_RX12_221 rfl (k243 g1 (by decide) hn) g19 ?_
            refine x_aload_n (q := 154) dX12_yieldsAt_153 rfl rfl ?_
            refine x_getI (q := 157) dX12_yieldsAt_154 rfl kl_RX12_379 (Or.inl rfl) (k243 g1 (by decide) hn) ?_
            refine x_iconst (q := 158) (v := (1 : Int32)) dX12_yieldsAt_157 rfl (by decide) ?_
            refine x_isub (q := 159) dX12_yieldsAt_158 rfl ?_
            replace H := kif H; obtain ⟨g20, H⟩ := H
            replace H := kifn H; obtain ⟨g21, H⟩ := H
            refine x_lald (q := 160) dX12_yieldsAt_159 rfl (k243 g20 (by decide) hn) g21 ?_
            refine x_lsub (q := 161) dX12_yieldsAt_160 rfl ?_
            replace H := kle H; obtain ⟨h22, q23, H⟩ := H
            refine x_last (q := 162) dX12_yieldsAt_161 rfl (k243 g20 (by decide) hn) g21 ?_
            refine x_nmH q23 ?_
            have n24 : h22.1 = 243 := by rw [q23]; exact hn
            refine x_goto dX12_yieldsAt_162 (q := 171) (by decide) ?_
            refine x_sub (ls2 := [(0, .ref v0), (2, .int v2), (5, .int s.1)]) [1, 2, 3] rfl ?_
            exact s_X12_yieldsAt_b171 h22 v0 v2 s.1 n24 H
          · refine x_icmp_ne_t dX12_yieldsAt_135 (q := 165) (by decide) g14 ?_
            refine x_aload_n (q := 166) dX12_yieldsAt_165 rfl rfl ?_
            refine x_iload (q := 168) dX12_yieldsAt_166 rfl rfl ?_
            replace H := kbe H; obtain ⟨r15, c16, H⟩ := H
            have m17 := s_X12_qJoins (Z := Z) s.2 v0 x9 hn c16
            refine x_callV (q := 171) (as := [.int x9]) (rest := []) dX12_yieldsAt_168 rfl kc_RX12_390 kh_X12_qJoins (by decide) (Nat.le_of_ble_eq_true rfl) m17 (ci := 12) (by exact ⟨rfl, by decide⟩) (k243 g1 (by decide) hn) ?_
            have n18 : (r15).1 = 243 := m17.1.full hn
            refine x_sub (ls2 := [(0, .ref v0), (2, .int v2), (5, .int s.1)]) [1, 2, 3] rfl ?_
            exact s_X12_yieldsAt_b171 r15 v0 v2 s.1 n18 H
      · refine x_icmp_lt_f (q := 99) dX12_yieldsAt_96 (t := 116) (by decide) rfl g12 ?_
        refine x_aload_n (q := 100) dX12_yieldsAt_99 rfl rfl ?_
        refine x_aload_n (q := 101) dX12_yieldsAt_100 rfl rfl ?_
        refine x_iload (q := 103) dX12_yieldsAt_101 rfl rfl ?_
        refine x_bipush (q := 105) (v := (40 : Int32)) dX12_yieldsAt_103 rfl (by decide) ?_
        refine x_isub (q := 106) dX12_yieldsAt_105 rfl ?_
        refine x_iload_n (q := 107) dX12_yieldsAt_106 rfl rfl ?_
        replace H := kbe H; obtain ⟨r29, c30, H⟩ := H
        have m31 := s_X12_qPartOf (Z := Z) s.2 v0 (x9 - (40 : Int32)) v2 hn c30
        refine x_callV (q := 110) (as := [.int (x9 - (40 : Int32)), .int v2]) (rest := [.ref v0]) dX12_yieldsAt_107 rfl kc_RX12_386 kh_X12_qPartOf (by decide) (Nat.le_of_ble_eq_true rfl) m31 (ci := 12) (by exact ⟨rfl, by decide⟩) (k243 g1 (by decide) hn) ?_
        replace H := kbe H; obtain ⟨r32, c33, H⟩ := H
        have m34 := s_X12_qPuts (Z := Z) s.2 v0 r29 hn c33
        refine x_callV (q := 113) (as := [.long r29]) (rest := []) dX12_yieldsAt_110 rfl kc_RX12_382 kh_X12_qPuts (by decide) (Nat.le_of_ble_eq_true rfl) m34 (ci := 12) (by exact ⟨rfl, by decide⟩) (k243 g1 (by decide) hn) ?_
        have n35 : (r32).1 = 243 := m34.1.full hn
        refine x_goto dX12_yieldsAt_113 (q := 171) (by decide) ?_
        refine x_sub (ls2 := [(0, .ref v0), (2, .int v2), (5, .int s.1)]) [1, 2, 3] rfl ?_
        exact s_X12_yieldsAt_b171 r32 v0 v2 s.1 n35 H
    · refine x_icmp_lt_f (q := 78) dX12_yieldsAt_75 (t := 92) (by decide) rfl g11 ?_
      refine x_aload_n (q := 79) dX12_yieldsAt_78 rfl rfl ?_
      refine x_iload (q := 81) dX12_yieldsAt_79 rfl rfl ?_
      refine x_sipush (q := 84) (v := (1000 : Int32)) dX12_yieldsAt_81 rfl (by decide) ?_
      refine x_isub (q := 85) dX12_yieldsAt_84 rfl ?_
      refine x_i2l (q := 86) dX12_yieldsAt_85 rfl ?_
      replace H := kbe H; obtain ⟨r36, c37, H⟩ := H
      have m38 := s_X12_qPuts (Z := Z) s.2 v0 (((x9 - (1000 : Int32))).toInt64) hn c37
      refine x_callV (q := 89) (as := [.long (((x9 - (1000 : Int32))).toInt64)]) (rest := []) dX12_yieldsAt_86 rfl kc_RX12_382 kh_X12_qPuts (by decide) (Nat.le_of_ble_eq_true rfl) m38 (ci := 12) (by exact ⟨rfl, by decide⟩) (k243 g1 (by decide) hn) ?_
      have n39 : (r36).1 = 243 := m38.1.full hn
      refine x_goto dX12_yieldsAt_89 (q := 171) (by decide) ?_
      refine x_sub (ls2 := [(0, .ref v0), (2, .int v2), (5, .int s.1)]) [1, 2, 3] rfl ?_
      exact s_X12_yieldsAt_b171 r36 v0 v2 s.1 n39 H
theorem sl_X12_yieldsAt_l46 {Z : Nat → (Nat → Nat) → State → Prop} (v0 : Nat) (v2 : Int32) (n : Nat) (s : Int32 × KH) (r : KH) (hn : (s.2).1 = 243) (H : kloop (f_X12_yieldsAt_l46 v0 v2) n s = some r) : KX Z RX12 cX12_yieldsAt 7 false 3 (E_X12_yieldsAt_l46 v0 v2 r) 46 [(0, .ref v0), (2, .int v2), (5, .int s.1)] [] s.2 :=
  k_loop (ls := (fun (s : Int32 × KH) => ([(0, .ref v0), (2, .int v2), (5, .int s.1)] : List (Nat × Value)))) (hp := (fun (s : Int32 × KH) => (s.2 : KH))) (G := E_X12_yieldsAt_l46 v0 v2) (fun s t hn H => s_X12_yieldsAt_l46 v0 v2 s t hn H) n s r hn H
def f_X12_yieldsAt (h : KH) (v0 : Nat) (v1 : Int32) (v2 : Int32) (v3 : Int32) (v4 : Int32) : Option (Int32 × KH) :=
  if kkind v0 = 12 then if (kR h v0 39) < 999999 then if kkind (kR h v0 39) = 20 then if klen (kR h v0 39) ≤ 1 then none else if (kI h (kR h v0 39) 1) = (-1 : Int32) then
  some (v3, h)
  else
  kl (ksI h v0 47 v1) fun h6 =>
  kl (ksI h6 v0 48 v4) fun h9 =>
  kl (ksI h9 v0 49 v3) fun h12 =>
  kl (ksI h12 v0 44 (1 : Int32)) fun h15 =>
  kl (ksI h15 v0 92 (0 : Int32)) fun h18 =>
  if (kR h18 v0 39) < 999999 then if kkind (kR h18 v0 39) = 20 then if klen (kR h18 v0 39) ≤ 1 then none else kl (kI h18 (kR h18 v0 39) 1) fun x24 =>
  kb (kloop (f_X12_yieldsAt_l46 v0 v2) KF (x24, h18)) fun e26 =>
  if (kR e26 v0 91) < 999999 then if kkind (kR e26 v0 91) = 21 then if klen (kR e26 v0 91) ≤ 0 then none else some (((kL e26 (kR e26 v0 91) 0)).toInt32, e26) else none else none else none else none else none else none else none
set_option maxHeartbeats 4000000 in
set_option maxRecDepth 100000 in
theorem s0_X12_yieldsAt {Z : Nat → (Nat → Nat) → State → Prop} (h : KH) (v0 : Nat) (v1 : Int32) (v2 : Int32) (v3 : Int32) (v4 : Int32) {t : Int32 × KH} (hn : h.1 = 243) (H : f_X12_yieldsAt h v0 v1 v2 v3 v4 = some t) : KX Z RX12 cX12_yieldsAt 7 false 3 (KRi cX12_yieldsAt t.1 t.2) 0 [(0, .ref v0), (1, .int v1), (2, .int v2), (3, .int v3), (4, .int v4)] [] h := by
  unfold f_X12_yieldsAt at H
  refine x_aload_n (q := 1) dX12_yieldsAt_0 rfl rfl ?_
  replace H := kif H; obtain ⟨g1, H⟩ := H
  replace H := kif H; obtain ⟨g2, H⟩ := H
  refine x_getR (q := 4) dX12_yieldsAt_1 rfl kl_RX12_106 rfl (k243 g1 (by decide) hn) g2 ?_
  refine x_iconst (q := 5) (v := (1 : Int32)) dX12_yieldsAt_4 rfl (by decide) ?_
  replace H := kif H; obtain ⟨g3, H⟩ := H
  replace H := kifn H; obtain ⟨g4, H⟩ := H
  refine x_iald (q := 6) dX12_yieldsAt_5 rfl (k243 g3 (by decide) hn) (fun z => z.elim (by decide) g4) ?_
  refine x_iconst (q := 7) (v := (-1 : Int32)) dX12_yieldsAt_6 rfl (by decide) ?_
  replace H := kite H; rcases H with ⟨g5, H⟩ | ⟨g5, H⟩
  · refine x_icmp_ne_f (q := 10) dX12_yieldsAt_7 (t := 12) (by decide) rfl g5 ?_
    refine x_iload_n (q := 11) dX12_yieldsAt_10 rfl rfl ?_
    cases H
    exact x_end ⟨dX12_yieldsAt_11, rfl, rfl⟩
  · refine x_icmp_ne_t dX12_yieldsAt_7 (q := 12) (by decide) g5 ?_
    refine x_aload_n (q := 13) dX12_yieldsAt_12 rfl rfl ?_
    refine x_iload_n (q := 14) dX12_yieldsAt_13 rfl rfl ?_
    replace H := kle H; obtain ⟨h6, q7, H⟩ := H
    refine x_putI (q := 17) dX12_yieldsAt_14 rfl kl_RX12_370 (Or.inl rfl) rfl (k243 g1 (by decide) hn) ?_
    refine x_nmH q7 ?_
    have n8 : h6.1 = 243 := by rw [q7]; exact hn
    refine x_aload_n (q := 18) dX12_yieldsAt_17 rfl rfl ?_
    refine x_iload (q := 20) dX12_yieldsAt_18 rfl rfl ?_
    replace H := kle H; obtain ⟨h9, q10, H⟩ := H
    refine x_putI (q := 23) dX12_yieldsAt_20 rfl kl_RX12_373 (Or.inl rfl) rfl (k243 g1 (by decide) n8) ?_
    refine x_nmH q10 ?_
    have n11 : h9.1 = 243 := by rw [q10]; exact n8
    refine x_aload_n (q := 24) dX12_yieldsAt_23 rfl rfl ?_
    refine x_iload_n (q := 25) dX12_yieldsAt_24 rfl rfl ?_
    replace H := kle H; obtain ⟨h12, q13, H⟩ := H
    refine x_putI (q := 28) dX12_yieldsAt_25 rfl kl_RX12_376 (Or.inl rfl) rfl (k243 g1 (by decide) n11) ?_
    refine x_nmH q13 ?_
    have n14 : h12.1 = 243 := by rw [q13]; exact n11
    refine x_aload_n (q := 29) dX12_yieldsAt_28 rfl rfl ?_
    refine x_iconst (q := 30) (v := (1 : Int32)) dX12_yieldsAt_29 rfl (by decide) ?_
    replace H := kle H; obtain ⟨h15, q16, H⟩ := H
    refine x_putZ (q := 33) dX12_yieldsAt_30 rfl kl_RX12_285 (Or.inl rfl) rfl (by decide) (k243 g1 (by decide) n14) ?_
    refine x_nmH q16 ?_
    have n17 : h15.1 = 243 := by rw [q16]; exact n14
    refine x_aload_n (q := 34) dX12_yieldsAt_33 rfl rfl ?_
    refine x_iconst (q := 35) (v := (0 : Int32)) dX12_yieldsAt_34 rfl (by decide) ?_
    replace H := kle H; obtain ⟨h18, q19, H⟩ := H
    refine x_putI (q := 38) dX12_yieldsAt_35 rfl kl_RX12_379 (Or.inl rfl) rfl (k243 g1 (by decide) n17) ?_
    refine x_nmH q19 ?_
    have n20 : h18.1 = 243 := by rw [q19]; exact n17
    refine x_aload_n (q := 39) dX12_yieldsAt_38 rfl rfl ?_
    replace H := kif H; obtain ⟨g21, H⟩ := H
    refine x_getR (q := 42) dX12_yieldsAt_39 rfl kl_RX12_106 rfl (k243 g1 (by decide) n20) g21 ?_
    refine x_iconst (q := 43) (v := (1 : Int32)) dX12_yieldsAt_42 rfl (by decide) ?_
    replace H := kif H; obtain ⟨g22, H⟩ := H
    replace H := kifn H; obtain ⟨g23, H⟩ := H
    refine x_iald (q := 44) dX12_yieldsAt_43 rfl (k243 g22 (by decide) n20) (fun z => z.elim (by decide) g23) ?_
    replace H := kle H; obtain ⟨x24, q25, H⟩ := H
    refine x_nmI q25 ?_
    refine x_istore (q := 46) (i := 5) (ls2 := [(5, .int x24), (0, .ref v0), (1, .int v1), (2, .int v2), (3, .int v3), (4, .int v4)]) dX12_yieldsAt_44 rfl (by decide) rfl ?_
    refine x_sub (ls2 := [(0, .ref v0), (2, .int v2), (5, .int x24)]) [1, 3, 0] rfl ?_
    replace H := kbe H; obtain ⟨e26, c27, H⟩ := H
    refine x_app (sl_X12_yieldsAt_l46 v0 v2 KF (x24, h18) e26 n20 c27) fun pc2 ls2 st2 h2 hg m28 => ?_
    obtain ⟨rfl, rfl, rfl, rfl⟩ := hg
    refine x_aload_n (q := 178) dX12_yieldsAt_177 rfl rfl ?_
    replace H := kif H; obtain ⟨g29, H⟩ := H
    refine x_getR (q := 181) dX12_yieldsAt_178 rfl kl_RX12_221 rfl (k243 g1 (by decide) (m28.full n20)) g29 ?_
    refine x_iconst (q := 182) (v := (0 : Int32)) dX12_yieldsAt_181 rfl (by decide) ?_
    replace H := kif H; obtain ⟨g30, H⟩ := H
    replace H := kifn H; obtain ⟨g31, H⟩ := H
    refine x_lald (q := 183) dX12_yieldsAt_182 rfl (k243 g30 (by decide) (m28.full n20)) (fun z => z.elim (by decide) g31) ?_
    refine x_l2i (q := 184) dX12_yieldsAt_183 rfl ?_
    cases H
    exact x_end ⟨dX12_yieldsAt_184, rfl, rfl⟩
theorem s_X12_yieldsAt {Z : Nat → (Nat → Nat) → State → Prop} (h : KH) (v0 : Nat) (v1 : Int32) (v2 : Int32) (v3 : Int32) (v4 : Int32) {t : Int32 × KH} (hn : h.1 = 243) (H : f_X12_yieldsAt h v0 v1 v2 v3 v4 = some t) : KM Z yX12_yieldsAt cX12_yieldsAt 7 (some .int) 3 [.ref v0, .int v1, .int v2, .int v3, .int v4] h (some (.int t.1)) t.2 :=
  kx_i (own := RX12) (ini := false) (by decide +kernel) (by decide +kernel) rfl (Nat.le_of_ble_eq_true rfl) (s0_X12_yieldsAt h v0 v1 v2 v3 v4 hn H)
theorem dX12_truthOf_0 : decode cX12_truthOf 0 = .ok (.iload_n 0, 1) := by decide +kernel
theorem dX12_truthOf_1 : decode cX12_truthOf 1 = .ok (.bipush 36, 2) := by decide +kernel
theorem dX12_truthOf_3 : decode cX12_truthOf 3 = .ok (.idiv, 1) := by decide +kernel
theorem dX12_truthOf_4 : decode cX12_truthOf 4 = .ok (.ireturn, 1) := by decide +kernel
def f_X12_truthOf (h : KH) (v0 : Int32) : Option (Int32) :=
  some (v0 / (36 : Int32))
set_option maxHeartbeats 4000000 in
set_option maxRecDepth 100000 in
theorem s0_X12_truthOf {Z : Nat → (Nat → Nat) → State → Prop} (h : KH) (v0 : Int32) {t : Int32} (hn : h.1 = 243) (H : f_X12_truthOf h v0 = some t) : KX Z RX12 cX12_truthOf 1 false 1 (KRi cX12_truthOf t h) 0 [(0, .int v0)] [] h := by
  unfold f_X12_truthOf at H
  refine x_iload_n (q := 1) dX12_truthOf_0 rfl rfl ?_
  refine x_bipush (q := 3) (v := (36 : Int32)) dX12_truthOf_1 rfl (by decide) ?_
  refine x_idiv (q := 4) dX12_truthOf_3 rfl (by decide) ?_
  cases H
  exact x_end ⟨dX12_truthOf_4, rfl, rfl⟩
theorem s_X12_truthOf {Z : Nat → (Nat → Nat) → State → Prop} (h : KH) (v0 : Int32) {t : Int32} (hn : h.1 = 243) (H : f_X12_truthOf h v0 = some t) : KM Z yX12_truthOf cX12_truthOf 1 (some .int) 1 [.int v0] h (some (.int t)) h :=
  kx_i (own := RX12) (ini := false) (by decide +kernel) (by decide +kernel) rfl (Nat.le_of_ble_eq_true rfl) (s0_X12_truthOf h v0 hn H)
theorem dX12_kindIn_0 : decode cX12_kindIn 0 = .ok (.iload_n 1, 1) := by decide +kernel
theorem dX12_kindIn_1 : decode cX12_kindIn 1 = .ok (.ifCond .ne 13, 3) := by decide +kernel
theorem dX12_kindIn_4 : decode cX12_kindIn 4 = .ok (.iload_n 0, 1) := by decide +kernel
theorem dX12_kindIn_5 : decode cX12_kindIn 5 = .ok (.bipush 6, 2) := by decide +kernel
theorem dX12_kindIn_7 : decode cX12_kindIn 7 = .ok (.idiv, 1) := by decide +kernel
theorem dX12_kindIn_8 : decode cX12_kindIn 8 = .ok (.bipush 6, 2) := by decide +kernel
theorem dX12_kindIn_10 : decode cX12_kindIn 10 = .ok (.irem, 1) := by decide +kernel
theorem dX12_kindIn_11 : decode cX12_kindIn 11 = .ok (.goto 7, 3) := by decide +kernel
theorem dX12_kindIn_14 : decode cX12_kindIn 14 = .ok (.iload_n 0, 1) := by decide +kernel
theorem dX12_kindIn_15 : decode cX12_kindIn 15 = .ok (.bipush 6, 2) := by decide +kernel
theorem dX12_kindIn_17 : decode cX12_kindIn 17 = .ok (.irem, 1) := by decide +kernel
theorem dX12_kindIn_18 : decode cX12_kindIn 18 = .ok (.ireturn, 1) := by decide +kernel
def f_X12_kindIn (h : KH) (v0 : Int32) (v1 : Int32) : Option (Int32) :=
  if v1 = 0 then
  some ((v0 / (6 : Int32)) - (v0 / (6 : Int32)) / (6 : Int32) * (6 : Int32))
  else
  some (v0 - v0 / (6 : Int32) * (6 : Int32))
set_option maxHeartbeats 4000000 in
set_option maxRecDepth 100000 in
theorem s0_X12_kindIn {Z : Nat → (Nat → Nat) → State → Prop} (h : KH) (v0 : Int32) (v1 : Int32) {t : Int32} (hn : h.1 = 243) (H : f_X12_kindIn h v0 v1 = some t) : KX Z RX12 cX12_kindIn 2 false 1 (KRi cX12_kindIn t h) 0 [(0, .int v0), (1, .int v1)] [] h := by
  unfold f_X12_kindIn at H
  refine x_iload_n (q := 1) dX12_kindIn_0 rfl rfl ?_
  replace H := kite H; rcases H with ⟨g1, H⟩ | ⟨g1, H⟩
  · refine x_if_ne_f (q := 4) dX12_kindIn_1 (t := 14) (by decide) rfl g1 ?_
    refine x_iload_n (q := 5) dX12_kindIn_4 rfl rfl ?_
    refine x_bipush (q := 7) (v := (6 : Int32)) dX12_kindIn_5 rfl (by decide) ?_
    refine x_idiv (q := 8) dX12_kindIn_7 rfl (by decide) ?_
    refine x_bipush (q := 10) (v := (6 : Int32)) dX12_kindIn_8 rfl (by decide) ?_
    refine x_irem (q := 11) dX12_kindIn_10 rfl (by decide) ?_
    refine x_goto dX12_kindIn_11 (q := 18) (by decide) ?_
    cases H
    exact x_end ⟨dX12_kindIn_18, rfl, rfl⟩
  · refine x_if_ne_t dX12_kindIn_1 (q := 14) (by decide) g1 ?_
    refine x_iload_n (q := 15) dX12_kindIn_14 rfl rfl ?_
    refine x_bipush (q := 17) (v := (6 : Int32)) dX12_kindIn_15 rfl (by decide) ?_
    refine x_irem (q := 18) dX12_kindIn_17 rfl (by decide) ?_
    cases H
    exact x_end ⟨dX12_kindIn_18, rfl, rfl⟩
theorem s_X12_kindIn {Z : Nat → (Nat → Nat) → State → Prop} (h : KH) (v0 : Int32) (v1 : Int32) {t : Int32} (hn : h.1 = 243) (H : f_X12_kindIn h v0 v1 = some t) : KM Z yX12_kindIn cX12_kindIn 2 (some .int) 1 [.int v0, .int v1] h (some (.int t)) h :=
  kx_i (own := RX12) (ini := false) (by decide +kernel) (by decide +kernel) rfl (Nat.le_of_ble_eq_true rfl) (s0_X12_kindIn h v0 v1 hn H)
theorem dX12_yieldIn_0 : decode cX12_yieldIn 0 = .ok (.aload_n 0, 1) := by decide +kernel
theorem dX12_yieldIn_1 : decode cX12_yieldIn 1 = .ok (.getfield 121, 3) := by decide +kernel
theorem dX12_yieldIn_4 : decode cX12_yieldIn 4 = .ok (.iload_n 1, 1) := by decide +kernel
theorem dX12_yieldIn_5 : decode cX12_yieldIn 5 = .ok (.invokestatic 393, 3) := by decide +kernel
theorem dX12_yieldIn_8 : decode cX12_yieldIn 8 = .ok (.iload_n 2, 1) := by decide +kernel
theorem dX12_yieldIn_9 : decode cX12_yieldIn 9 = .ok (.if_icmp .ne 8, 3) := by decide +kernel
theorem dX12_yieldIn_12 : decode cX12_yieldIn 12 = .ok (.bipush 36, 2) := by decide +kernel
theorem dX12_yieldIn_14 : decode cX12_yieldIn 14 = .ok (.goto 4, 3) := by decide +kernel
theorem dX12_yieldIn_17 : decode cX12_yieldIn 17 = .ok (.iconst 0, 1) := by decide +kernel
theorem dX12_yieldIn_18 : decode cX12_yieldIn 18 = .ok (.bipush 6, 2) := by decide +kernel
theorem dX12_yieldIn_20 : decode cX12_yieldIn 20 = .ok (.iload_n 3, 1) := by decide +kernel
theorem dX12_yieldIn_21 : decode cX12_yieldIn 21 = .ok (.imul, 1) := by decide +kernel
theorem dX12_yieldIn_22 : decode cX12_yieldIn 22 = .ok (.iadd, 1) := by decide +kernel
theorem dX12_yieldIn_23 : decode cX12_yieldIn 23 = .ok (.iload_n 1, 1) := by decide +kernel
theorem dX12_yieldIn_24 : decode cX12_yieldIn 24 = .ok (.iload_n 2, 1) := by decide +kernel
theorem dX12_yieldIn_25 : decode cX12_yieldIn 25 = .ok (.invokestatic 397, 3) := by decide +kernel
theorem dX12_yieldIn_28 : decode cX12_yieldIn 28 = .ok (.iadd, 1) := by decide +kernel
theorem dX12_yieldIn_29 : decode cX12_yieldIn 29 = .ok (.iaload, 1) := by decide +kernel
theorem dX12_yieldIn_30 : decode cX12_yieldIn 30 = .ok (.ireturn, 1) := by decide +kernel
theorem kl_RX12_121 : KLk RX12 121 12 50 := ⟨RX12, TX12, 97, rfl, by decide, Or.inl (kwm 1247 (by decide +kernel) (by decide +kernel))⟩
theorem kc_RX12_393 : Cond.methodLink RX12 393 yX12_truthOf ∈ ktG ∧ Cond.static yX12_truthOf ∈ ktG ∧ Cond.initialized yX12_truthOf.cls ∈ ktG ∧ Cond.code yX12_truthOf cX12_truthOf 1 (some .int) ∈ ktG := ⟨(kwm 1791 (by decide +kernel) (by decide +kernel)), (kwm 1792 (by decide +kernel) (by decide +kernel)), (kwm 139 (by decide +kernel) (by decide +kernel)), kwm 1793 (by decide +kernel) (by decide +kernel)⟩
theorem kh_X12_truthOf : yX12_truthOf.cls ≠ "java/lang/invoke/MethodHandle" ∧ yX12_truthOf.cls ≠ "java/lang/invoke/VarHandle" ∧ (parseMethodDescriptor yX12_truthOf.desc).map (fun d => d.parameters.length) = some 1 := by decide +kernel
theorem kc_RX12_397 : Cond.methodLink RX12 397 yX12_kindIn ∈ ktG ∧ Cond.static yX12_kindIn ∈ ktG ∧ Cond.initialized yX12_kindIn.cls ∈ ktG ∧ Cond.code yX12_kindIn cX12_kindIn 2 (some .int) ∈ ktG := ⟨(kwm 1794 (by decide +kernel) (by decide +kernel)), (kwm 1795 (by decide +kernel) (by decide +kernel)), (kwm 139 (by decide +kernel) (by decide +kernel)), kwm 1796 (by decide +kernel) (by decide +kernel)⟩
theorem kh_X12_kindIn : yX12_kindIn.cls ≠ "java/lang/invoke/MethodHandle" ∧ yX12_kindIn.cls ≠ "java/lang/invoke/VarHandle" ∧ (parseMethodDescriptor yX12_kindIn.desc).map (fun d => d.parameters.length) = some 2 := by decide +kernel
def f_X12_yieldIn_b18 (h : KH) (v1 : Int32) (v2 : Int32) (v3 : Int32) (w0 : Nat) (w1 : Int32) : Option (Int32) :=
  kb (f_X12_kindIn h v1 v2) fun r1 =>
  if kkind w0 = 20 then if (((w1 + ((6 : Int32) * v3)) + r1) < 0 ∨ klen w0 ≤ (((w1 + ((6 : Int32) * v3)) + r1)).toNatClampNeg) then none else some (kI h w0 ((((w1 + ((6 : Int32) * v3)) + r1)).toNatClampNeg)) else none
set_option maxHeartbeats 4000000 in
set_option maxRecDepth 100000 in
theorem s_X12_yieldIn_b18 {Z : Nat → (Nat → Nat) → State → Prop} (h : KH) (v1 : Int32) (v2 : Int32) (v3 : Int32) (w0 : Nat) (w1 : Int32) {t : Int32} (hn : h.1 = 243) (H : f_X12_yieldIn_b18 h v1 v2 v3 w0 w1 = some t) : KX Z RX12 cX12_yieldIn 4 false 2 (KRi cX12_yieldIn t h) 18 [(1, .int v1), (2, .int v2), (3, .int v3)] [.int w1, .ref w0] h := by
  unfold f_X12_yieldIn_b18 at H
  refine x_bipush (q := 20) (v := (6 : Int32)) dX12_yieldIn_18 rfl (by decide) ?_
  refine x_iload_n (q := 21) dX12_yieldIn_20 rfl rfl ?_
  refine x_imul (q := 22) dX12_yieldIn_21 rfl ?_
  refine x_iadd (q := 23) dX12_yieldIn_22 rfl ?_
  refine x_iload_n (q := 24) dX12_yieldIn_23 rfl rfl ?_
  refine x_iload_n (q := 25) dX12_yieldIn_24 rfl rfl ?_
  replace H := kbe H; obtain ⟨r1, c2, H⟩ := H
  have m3 := s_X12_kindIn (Z := Z) h v1 v2 hn c2
  refine x_callS (q := 28) (as := [.int v1, .int v2]) (rest := [.int (w1 + ((6 : Int32) * v3)), .ref w0]) dX12_yieldIn_25 rfl kc_RX12_397 kh_X12_kindIn (by decide) (Nat.le_of_ble_eq_true rfl) m3 ?_
  refine x_iadd (q := 29) dX12_yieldIn_28 rfl ?_
  replace H := kif H; obtain ⟨g4, H⟩ := H
  replace H := kifn H; obtain ⟨g5, H⟩ := H
  refine x_iald (q := 30) dX12_yieldIn_29 rfl (k243 g4 (by decide) hn) g5 ?_
  cases H
  exact x_end ⟨dX12_yieldIn_30, rfl, rfl⟩
def f_X12_yieldIn (h : KH) (v0 : Nat) (v1 : Int32) (v2 : Int32) (v3 : Int32) : Option (Int32) :=
  if kkind v0 = 12 then if (kR h v0 50) < 999999 then kb (f_X12_truthOf h v1) fun r3 =>
  if r3 = v2 then
  f_X12_yieldIn_b18 h v1 v2 v3 (kR h v0 50) (36 : Int32)
  else
  f_X12_yieldIn_b18 h v1 v2 v3 (kR h v0 50) (0 : Int32) else none else none
set_option maxHeartbeats 4000000 in
set_option maxRecDepth 100000 in
theorem s0_X12_yieldIn {Z : Nat → (Nat → Nat) → State → Prop} (h : KH) (v0 : Nat) (v1 : Int32) (v2 : Int32) (v3 : Int32) {t : Int32} (hn : h.1 = 243) (H : f_X12_yieldIn h v0 v1 v2 v3 = some t) : KX Z RX12 cX12_yieldIn 4 false 2 (KRi cX12_yieldIn t h) 0 [(0, .ref v0), (1, .int v1), (2, .int v2), (3, .int v3)] [] h := by
  unfold f_X12_yieldIn at H
  refine x_aload_n (q := 1) dX12_yieldIn_0 rfl rfl ?_
  replace H := kif H; obtain ⟨g1, H⟩ := H
  replace H := kif H; obtain ⟨g2, H⟩ := H
  refine x_getR (q := 4) dX12_yieldIn_1 rfl kl_RX12_121 rfl (k243 g1 (by decide) hn) g2 ?_
  refine x_iload_n (q := 5) dX12_yieldIn_4 rfl rfl ?_
  replace H := kbe H; obtain ⟨r3, c4, H⟩ := H
  have m5 := s_X12_truthOf (Z := Z) h v1 hn c4
  refine x_callS (q := 8) (as := [.int v1]) (rest := [.ref (kR h v0 50)]) dX12_yieldIn_5 rfl kc_RX12_393 kh_X12_truthOf (by decide) (Nat.le_of_ble_eq_true rfl) m5 ?_
  refine x_iload_n (q := 9) dX12_yieldIn_8 rfl rfl ?_
  replace H := kite H; rcases H with ⟨g6, H⟩ | ⟨g6, H⟩
  · refine x_icmp_ne_f (q := 12) dX12_yieldIn_9 (t := 17) (by decide) rfl g6 ?_
    refine x_bipush (q := 14) (v := (36 : Int32)) dX12_yieldIn_12 rfl (by decide) ?_
    refine x_goto dX12_yieldIn_14 (q := 18) (by decide) ?_
    refine x_sub (ls2 := [(1, .int v1), (2, .int v2), (3, .int v3)]) [1, 2, 3] rfl ?_
    exact s_X12_yieldIn_b18 h v1 v2 v3 (kR h v0 50) (36 : Int32) hn H
  · refine x_icmp_ne_t dX12_yieldIn_9 (q := 17) (by decide) g6 ?_
    refine x_iconst (q := 18) (v := (0 : Int32)) dX12_yieldIn_17 rfl (by decide) ?_
    refine x_sub (ls2 := [(1, .int v1), (2, .int v2), (3, .int v3)]) [1, 2, 3] rfl ?_
    exact s_X12_yieldIn_b18 h v1 v2 v3 (kR h v0 50) (0 : Int32) hn H
theorem s_X12_yieldIn {Z : Nat → (Nat → Nat) → State → Prop} (h : KH) (v0 : Nat) (v1 : Int32) (v2 : Int32) (v3 : Int32) {t : Int32} (hn : h.1 = 243) (H : f_X12_yieldIn h v0 v1 v2 v3 = some t) : KM Z yX12_yieldIn cX12_yieldIn 4 (some .int) 2 [.ref v0, .int v1, .int v2, .int v3] h (some (.int t)) h :=
  kx_i (own := RX12) (ini := false) (by decide +kernel) (by decide +kernel) rfl (Nat.le_of_ble_eq_true rfl) (s0_X12_yieldIn h v0 v1 v2 v3 hn H)
theorem dX12_isAsHeard_0 : decode cX12_isAsHeard 0 = .ok (.iconst 0, 1) := by decide +kernel
theorem dX12_isAsHeard_1 : decode cX12_isAsHeard 1 = .ok (.istore_n 2, 1) := by decide +kernel
theorem dX12_isAsHeard_2 : decode cX12_isAsHeard 2 = .ok (.iload_n 2, 1) := by decide +kernel
theorem dX12_isAsHeard_3 : decode cX12_isAsHeard 3 = .ok (.aload_n 0, 1) := by decide +kernel
theorem dX12_isAsHeard_4 : decode cX12_isAsHeard 4 = .ok (.invokevirtual 367, 3) := by decide +kernel
theorem dX12_isAsHeard_7 : decode cX12_isAsHeard 7 = .ok (.if_icmp .ge 39, 3) := by decide +kernel
theorem dX12_isAsHeard_10 : decode cX12_isAsHeard 10 = .ok (.aload_n 0, 1) := by decide +kernel
theorem dX12_isAsHeard_11 : decode cX12_isAsHeard 11 = .ok (.iload_n 2, 1) := by decide +kernel
theorem dX12_isAsHeard_12 : decode cX12_isAsHeard 12 = .ok (.invokevirtual 400, 3) := by decide +kernel
theorem dX12_isAsHeard_15 : decode cX12_isAsHeard 15 = .ok (.istore_n 3, 1) := by decide +kernel
theorem dX12_isAsHeard_16 : decode cX12_isAsHeard 16 = .ok (.iload_n 3, 1) := by decide +kernel
theorem dX12_isAsHeard_17 : decode cX12_isAsHeard 17 = .ok (.ifCond .eq 23, 3) := by decide +kernel
theorem dX12_isAsHeard_20 : decode cX12_isAsHeard 20 = .ok (.aload_n 0, 1) := by decide +kernel
theorem dX12_isAsHeard_21 : decode cX12_isAsHeard 21 = .ok (.getfield 136, 3) := by decide +kernel
theorem dX12_isAsHeard_24 : decode cX12_isAsHeard 24 = .ok (.iload_n 1, 1) := by decide +kernel
theorem dX12_isAsHeard_25 : decode cX12_isAsHeard 25 = .ok (.iaload, 1) := by decide +kernel
theorem dX12_isAsHeard_26 : decode cX12_isAsHeard 26 = .ok (.iconst 2, 1) := by decide +kernel
theorem dX12_isAsHeard_27 : decode cX12_isAsHeard 27 = .ok (.iload_n 2, 1) := by decide +kernel
theorem dX12_isAsHeard_28 : decode cX12_isAsHeard 28 = .ok (.imul, 1) := by decide +kernel
theorem dX12_isAsHeard_29 : decode cX12_isAsHeard 29 = .ok (.ishr, 1) := by decide +kernel
theorem dX12_isAsHeard_30 : decode cX12_isAsHeard 30 = .ok (.iconst 3, 1) := by decide +kernel
theorem dX12_isAsHeard_31 : decode cX12_isAsHeard 31 = .ok (.iand, 1) := by decide +kernel
theorem dX12_isAsHeard_32 : decode cX12_isAsHeard 32 = .ok (.iload_n 3, 1) := by decide +kernel
theorem dX12_isAsHeard_33 : decode cX12_isAsHeard 33 = .ok (.iconst 1, 1) := by decide +kernel
theorem dX12_isAsHeard_34 : decode cX12_isAsHeard 34 = .ok (.isub, 1) := by decide +kernel
theorem dX12_isAsHeard_35 : decode cX12_isAsHeard 35 = .ok (.if_icmp .eq 5, 3) := by decide +kernel
theorem dX12_isAsHeard_38 : decode cX12_isAsHeard 38 = .ok (.iconst 0, 1) := by decide +kernel
theorem dX12_isAsHeard_39 : decode cX12_isAsHeard 39 = .ok (.ireturn, 1) := by decide +kernel
theorem dX12_isAsHeard_40 : decode cX12_isAsHeard 40 = .ok (.iinc 2 1, 3) := by decide +kernel
theorem dX12_isAsHeard_43 : decode cX12_isAsHeard 43 = .ok (.goto (-41), 3) := by decide +kernel
theorem dX12_isAsHeard_46 : decode cX12_isAsHeard 46 = .ok (.iconst 1, 1) := by decide +kernel
theorem dX12_isAsHeard_47 : decode cX12_isAsHeard 47 = .ok (.ireturn, 1) := by decide +kernel
theorem kc_RX12_400 : Cond.methodLink RX12 400 yX12_stateOf ∈ ktG ∧ (Cond.instanceMethod yX12_stateOf ∈ ktG ∧ Cond.selects yX12_stateOf.cls yX12_stateOf yX12_stateOf ∈ ktG) ∧ Cond.initialized yX12_stateOf.cls ∈ ktG ∧ Cond.code yX12_stateOf cX12_stateOf 2 (some .int) ∈ ktG := ⟨(kwm 1688 (by decide +kernel) (by decide +kernel)), ⟨(kwm 1690 (by decide +kernel) (by decide +kernel)), (kwm 77 (by decide +kernel) (by decide +kernel))⟩, (kwm 139 (by decide +kernel) (by decide +kernel)), kwm 1691 (by decide +kernel) (by decide +kernel)⟩
theorem kh_X12_stateOf : yX12_stateOf.cls ≠ "java/lang/invoke/MethodHandle" ∧ yX12_stateOf.cls ≠ "java/lang/invoke/VarHandle" ∧ (parseMethodDescriptor yX12_stateOf.desc).map (fun d => d.parameters.length) = some 1 := by decide +kernel
theorem kl_RX12_136 : KLk RX12 136 12 55 := ⟨RX12, TX12, 97, rfl, by decide, Or.inl (kwm 1252 (by decide +kernel) (by decide +kernel))⟩
def E_X12_isAsHeard_l2 (h : KH) (v0 : Nat) (v1 : Int32) : ((Unit) ⊕ (Int32)) → Nat → List (Nat × Value) → List Value → KH → Prop := Sum.elim (fun (e : Unit) pc ls st hh => pc = 46 ∧ ls = [] ∧ st = [] ∧ h = hh) (fun o => (KRz cX12_isAsHeard o h))
def B_X12_isAsHeard_l2 (h : KH) (v0 : Nat) (v1 : Int32) : ((Int32) ⊕ ((Unit) ⊕ (Int32))) → Nat → List (Nat × Value) → List Value → KH → Prop := Sum.elim (fun (s : Int32) pc ls st hh => pc = 2 ∧ ls = [(0, .ref v0), (1, .int v1), (2, .int s)] ∧ st = [] ∧ hh = h) (E_X12_isAsHeard_l2 h v0 v1)
def f_X12_isAsHeard_b40 (h : KH) (v0 : Nat) (v1 : Int32) (v2 : Int32) : Option ((Int32) ⊕ ((Unit) ⊕ (Int32))) :=
  kl (v2 + (1 : Int32)) fun x1 =>
  some (.inl x1)
set_option maxHeartbeats 4000000 in
set_option maxRecDepth 100000 in
theorem s_X12_isAsHeard_b40 {Z : Nat → (Nat → Nat) → State → Prop} (h : KH) (v0 : Nat) (v1 : Int32) (v2 : Int32) {t : (Int32) ⊕ ((Unit) ⊕ (Int32))} (hn : h.1 = 243) (H : f_X12_isAsHeard_b40 h v0 v1 v2 = some t) : KX Z RX12 cX12_isAsHeard 4 false 2 (B_X12_isAsHeard_l2 h v0 v1 t) 40 [(0, .ref v0), (1, .int v1), (2, .int v2)] [] h := by
  unfold f_X12_isAsHeard_b40 at H
  replace H := kle H; obtain ⟨x1, q2, H⟩ := H
  refine x_iinc (q := 43) (i := 2) (ls2 := [(2, .int x1), (0, .ref v0), (1, .int v1)]) dX12_isAsHeard_40 rfl rfl (by decide) (by rw [q2]; rfl) ?_
  refine x_goto dX12_isAsHeard_43 (q := 2) (by decide) ?_
  cases H
  refine x_sub (ls2 := [(0, .ref v0), (1, .int v1), (2, .int x1)]) [1, 2, 0] rfl ?_
  exact x_end (x_cfg rfl)
def f_X12_isAsHeard_l2 (h : KH) (v0 : Nat) (v1 : Int32) (s : Int32) : Option ((Int32) ⊕ ((Unit) ⊕ (Int32))) :=
  if kkind v0 = 12 then kb (f_X12_testMany h v0) fun r2 =>
  if r2 ≤ s then
  some (.inr (.inl ()))
  else
  kb (f_X12_stateOf h v0 s) fun r6 =>
  if r6 = 0 then
  f_X12_isAsHeard_b40 h v0 v1 s
  else
  if (kR h v0 55) < 999999 then if kkind (kR h v0 55) = 20 then if (v1 < 0 ∨ klen (kR h v0 55) ≤ (v1).toNatClampNeg) then none else if (((kI h (kR h v0 55) ((v1).toNatClampNeg)) >>> (((2 : Int32) * s) &&& 31)) &&& (3 : Int32)) = (r6 - (1 : Int32)) then
  f_X12_isAsHeard_b40 h v0 v1 s
  else
  kout2 (some (0 : Int32)) else none else none else none
set_option maxHeartbeats 4000000 in
set_option maxRecDepth 100000 in
theorem s_X12_isAsHeard_l2 {Z : Nat → (Nat → Nat) → State → Prop} (h : KH) (v0 : Nat) (v1 : Int32) (s : Int32) (t : (Int32) ⊕ ((Unit) ⊕ (Int32))) (hn : (h).1 = 243) (H : f_X12_isAsHeard_l2 h v0 v1 s = some t) : KX Z RX12 cX12_isAsHeard 4 false 2 (B_X12_isAsHeard_l2 h v0 v1 t) 2 [(0, .ref v0), (1, .int v1), (2, .int s)] [] h := by
  unfold f_X12_isAsHeard_l2 at H
  refine x_iload_n (q := 3) dX12_isAsHeard_2 rfl rfl ?_
  refine x_aload_n (q := 4) dX12_isAsHeard_3 rfl rfl ?_
  replace H := kif H; obtain ⟨g1, H⟩ := H
  replace H := kbe H; obtain ⟨r2, c3, H⟩ := H
  have m4 := s_X12_testMany (Z := Z) h v0 hn c3
  refine x_callV (q := 7) (as := []) (rest := [.int s]) dX12_isAsHeard_4 rfl kc_RX12_367 kh_X12_testMany (by decide) (Nat.le_of_ble_eq_true rfl) m4 (ci := 12) (by exact ⟨rfl, by decide⟩) (k243 g1 (by decide) hn) ?_
  replace H := kite H; rcases H with ⟨g5, H⟩ | ⟨g5, H⟩
  · refine x_icmp_ge_t dX12_isAsHeard_7 (q := 46) (by decide) g5 ?_
    cases H
    refine x_sub (ls2 := []) [] rfl ?_
    exact x_end (x_cfg rfl)
  · refine x_icmp_ge_f (q := 10) dX12_isAsHeard_7 (t := 46) (by decide) rfl g5 ?_
    refine x_aload_n (q := 11) dX12_isAsHeard_10 rfl rfl ?_
    refine x_iload_n (q := 12) dX12_isAsHeard_11 rfl rfl ?_
    replace H := kbe H; obtain ⟨r6, c7, H⟩ := H
    have m8 := s_X12_stateOf (Z := Z) h v0 s hn c7
    refine x_callV (q := 15) (as := [.int s]) (rest := []) dX12_isAsHeard_12 rfl kc_RX12_400 kh_X12_stateOf (by decide) (Nat.le_of_ble_eq_true rfl) m8 (ci := 12) (by exact ⟨rfl, by decide⟩) (k243 g1 (by decide) hn) ?_
    refine x_istore_n (q := 16) (i := 3) (ls2 := [(3, .int r6), (0, .ref v0), (1, .int v1), (2, .int s)]) dX12_isAsHeard_15 rfl rfl (by decide) rfl ?_
    refine x_iload_n (q := 17) dX12_isAsHeard_16 rfl rfl ?_
    replace H := kite H; rcases H with ⟨g9, H⟩ | ⟨g9, H⟩
    · refine x_if_eq_t dX12_isAsHeard_17 (q := 40) (by decide) g9 ?_
      refine x_sub (ls2 := [(0, .ref v0), (1, .int v1), (2, .int s)]) [1, 2, 3] rfl ?_
      exact s_X12_isAsHeard_b40 h v0 v1 s hn H
    · refine x_if_eq_f (q := 20) dX12_isAsHeard_17 (t := 40) (by decide) rfl g9 ?_
      refine x_aload_n (q := 21) dX12_isAsHeard_20 rfl rfl ?_
      replace H := kif H; obtain ⟨g10, H⟩ := H
      refine x_getR (q := 24) dX12_isAsHeard_21 rfl kl_RX12_136 rfl (k243 g1 (by decide) hn) g10 ?_
      refine x_iload_n (q := 25) dX12_isAsHeard_24 rfl rfl ?_
      replace H := kif H; obtain ⟨g11, H⟩ := H
      replace H := kifn H; obtain ⟨g12, H⟩ := H
      refine x_iald (q := 26) dX12_isAsHeard_25 rfl (k243 g11 (by decide) hn) g12 ?_
      refine x_iconst (q := 27) (v := (2 : Int32)) dX12_isAsHeard_26 rfl (by decide) ?_
      refine x_iload_n (q := 28) dX12_isAsHeard_27 rfl rfl ?_
      refine x_imul (q := 29) dX12_isAsHeard_28 rfl ?_
      refine x_ishr (q := 30) dX12_isAsHeard_29 rfl ?_
      refine x_iconst (q := 31) (v := (3 : Int32)) dX12_isAsHeard_30 rfl (by decide) ?_
      refine x_iand (q := 32) dX12_isAsHeard_31 rfl ?_
      refine x_iload_n (q := 33) dX12_isAsHeard_32 rfl rfl ?_
      refine x_iconst (q := 34) (v := (1 : Int32)) dX12_isAsHeard_33 rfl (by decide) ?_
      refine x_isub (q := 35) dX12_isAsHeard_34 rfl ?_
      replace H := kite H; rcases H with ⟨g13, H⟩ | ⟨g13, H⟩
      · refine x_icmp_eq_t dX12_isAsHeard_35 (q := 40) (by decide) g13 ?_
        refine x_sub (ls2 := [(0, .ref v0), (1, .int v1), (2, .int s)]) [1, 2, 3] rfl ?_
        exact s_X12_isAsHeard_b40 h v0 v1 s hn H
      · refine x_icmp_eq_f (q := 38) dX12_isAsHeard_35 (t := 40) (by decide) rfl g13 ?_
        replace H := ko2e H; obtain ⟨o14, H, rfl⟩ := H
        refine x_iconst (q := 39) (v := (0 : Int32)) dX12_isAsHeard_38 rfl (by decide) ?_
        cases H
        exact x_end ⟨(Or.inl rfl), dX12_isAsHeard_39, rfl, rfl⟩
theorem sl_X12_isAsHeard_l2 {Z : Nat → (Nat → Nat) → State → Prop} (h : KH) (v0 : Nat) (v1 : Int32) (n : Nat) (s : Int32) (r : (Unit) ⊕ (Int32)) (hn : (h).1 = 243) (H : kloop (f_X12_isAsHeard_l2 h v0 v1) n s = some r) : KX Z RX12 cX12_isAsHeard 4 false 2 (E_X12_isAsHeard_l2 h v0 v1 r) 2 [(0, .ref v0), (1, .int v1), (2, .int s)] [] h :=
  k_loop (ls := (fun (s : Int32) => ([(0, .ref v0), (1, .int v1), (2, .int s)] : List (Nat × Value)))) (hp := (fun (s : Int32) => (h : KH))) (G := E_X12_isAsHeard_l2 h v0 v1) (fun s t hn H => s_X12_isAsHeard_l2 h v0 v1 s t hn H) n s r hn H
def f_X12_isAsHeard (h : KH) (v0 : Nat) (v1 : Int32) : Option (Int32) :=
  kb (kloop (f_X12_isAsHeard_l2 h v0 v1) KF (0 : Int32)) fun e1 =>
  ksum e1 (fun x4 =>
  some (1 : Int32)) (fun o5 => some o5)
set_option maxHeartbeats 4000000 in
set_option maxRecDepth 100000 in
theorem s0_X12_isAsHeard {Z : Nat → (Nat → Nat) → State → Prop} (h : KH) (v0 : Nat) (v1 : Int32) {t : Int32} (hn : h.1 = 243) (H : f_X12_isAsHeard h v0 v1 = some t) : KX Z RX12 cX12_isAsHeard 4 false 2 (KRz cX12_isAsHeard t h) 0 [(0, .ref v0), (1, .int v1)] [] h := by
  unfold f_X12_isAsHeard at H
  refine x_iconst (q := 1) (v := (0 : Int32)) dX12_isAsHeard_0 rfl (by decide) ?_
  refine x_istore_n (q := 2) (i := 2) (ls2 := [(2, .int (0 : Int32)), (0, .ref v0), (1, .int v1)]) dX12_isAsHeard_1 rfl rfl (by decide) rfl ?_
  refine x_sub (ls2 := [(0, .ref v0), (1, .int v1), (2, .int (0 : Int32))]) [1, 2, 0] rfl ?_
  replace H := kbe H; obtain ⟨e1, c2, H⟩ := H
  refine x_app (sl_X12_isAsHeard_l2 h v0 v1 KF (0 : Int32) e1 hn c2) fun pc2 ls2 st2 h2 hg m3 => ?_
  replace H := kse H; rcases H with ⟨x4, rfl, H⟩ | ⟨o5, rfl, H⟩
  · obtain ⟨rfl, rfl, rfl, rfl⟩ := hg
    refine x_iconst (q := 47) (v := (1 : Int32)) dX12_isAsHeard_46 rfl (by decide) ?_
    cases H
    exact x_end ⟨(Or.inr rfl), dX12_isAsHeard_47, rfl, rfl⟩
  · cases H
    exact x_end hg
theorem s_X12_isAsHeard {Z : Nat → (Nat → Nat) → State → Prop} (h : KH) (v0 : Nat) (v1 : Int32) {t : Int32} (hn : h.1 = 243) (H : f_X12_isAsHeard h v0 v1 = some t) : KM Z yX12_isAsHeard cX12_isAsHeard 4 (some .boolean) 2 [.ref v0, .int v1] h (some (.int t)) h :=
  kx_z (own := RX12) (ini := false) (by decide +kernel) (by decide +kernel) rfl (Nat.le_of_ble_eq_true rfl) (s0_X12_isAsHeard h v0 v1 hn H)
theorem dX12_weightOf_0 : decode cX12_weightOf 0 = .ok (.iload_n 1, 1) := by decide +kernel
theorem dX12_weightOf_1 : decode cX12_weightOf 1 = .ok (.iconst 0, 1) := by decide +kernel
theorem dX12_weightOf_2 : decode cX12_weightOf 2 = .ok (.invokestatic 397, 3) := by decide +kernel
theorem dX12_weightOf_5 : decode cX12_weightOf 5 = .ok (.aload_n 0, 1) := by decide +kernel
theorem dX12_weightOf_6 : decode cX12_weightOf 6 = .ok (.invokevirtual 364, 3) := by decide +kernel
theorem dX12_weightOf_9 : decode cX12_weightOf 9 = .ok (.if_icmp .ge 15, 3) := by decide +kernel
theorem dX12_weightOf_12 : decode cX12_weightOf 12 = .ok (.iload_n 1, 1) := by decide +kernel
theorem dX12_weightOf_13 : decode cX12_weightOf 13 = .ok (.iconst 1, 1) := by decide +kernel
theorem dX12_weightOf_14 : decode cX12_weightOf 14 = .ok (.invokestatic 397, 3) := by decide +kernel
theorem dX12_weightOf_17 : decode cX12_weightOf 17 = .ok (.aload_n 0, 1) := by decide +kernel
theorem dX12_weightOf_18 : decode cX12_weightOf 18 = .ok (.invokevirtual 364, 3) := by decide +kernel
theorem dX12_weightOf_21 : decode cX12_weightOf 21 = .ok (.if_icmp .lt 5, 3) := by decide +kernel
theorem dX12_weightOf_24 : decode cX12_weightOf 24 = .ok (.lconst 0, 1) := by decide +kernel
theorem dX12_weightOf_25 : decode cX12_weightOf 25 = .ok (.lreturn, 1) := by decide +kernel
theorem dX12_weightOf_26 : decode cX12_weightOf 26 = .ok (.iload_n 1, 1) := by decide +kernel
theorem dX12_weightOf_27 : decode cX12_weightOf 27 = .ok (.invokestatic 393, 3) := by decide +kernel
theorem dX12_weightOf_30 : decode cX12_weightOf 30 = .ok (.istore_n 3, 1) := by decide +kernel
theorem dX12_weightOf_31 : decode cX12_weightOf 31 = .ok (.iload_n 3, 1) := by decide +kernel
theorem dX12_weightOf_32 : decode cX12_weightOf 32 = .ok (.ifCond .ne 13, 3) := by decide +kernel
theorem dX12_weightOf_35 : decode cX12_weightOf 35 = .ok (.aload_n 0, 1) := by decide +kernel
theorem dX12_weightOf_36 : decode cX12_weightOf 36 = .ok (.getfield 103, 3) := by decide +kernel
theorem dX12_weightOf_39 : decode cX12_weightOf 39 = .ok (.iconst 2, 1) := by decide +kernel
theorem dX12_weightOf_40 : decode cX12_weightOf 40 = .ok (.iaload, 1) := by decide +kernel
theorem dX12_weightOf_41 : decode cX12_weightOf 41 = .ok (.i2l, 1) := by decide +kernel
theorem dX12_weightOf_42 : decode cX12_weightOf 42 = .ok (.goto 13, 3) := by decide +kernel
theorem dX12_weightOf_45 : decode cX12_weightOf 45 = .ok (.bipush 100, 2) := by decide +kernel
theorem dX12_weightOf_47 : decode cX12_weightOf 47 = .ok (.aload_n 0, 1) := by decide +kernel
theorem dX12_weightOf_48 : decode cX12_weightOf 48 = .ok (.getfield 103, 3) := by decide +kernel
theorem dX12_weightOf_51 : decode cX12_weightOf 51 = .ok (.iconst 2, 1) := by decide +kernel
theorem dX12_weightOf_52 : decode cX12_weightOf 52 = .ok (.iaload, 1) := by decide +kernel
theorem dX12_weightOf_53 : decode cX12_weightOf 53 = .ok (.isub, 1) := by decide +kernel
theorem dX12_weightOf_54 : decode cX12_weightOf 54 = .ok (.i2l, 1) := by decide +kernel
theorem dX12_weightOf_55 : decode cX12_weightOf 55 = .ok (.lstore 4, 2) := by decide +kernel
theorem dX12_weightOf_57 : decode cX12_weightOf 57 = .ok (.lload 4, 2) := by decide +kernel
theorem dX12_weightOf_59 : decode cX12_weightOf 59 = .ok (.aload_n 0, 1) := by decide +kernel
theorem dX12_weightOf_60 : decode cX12_weightOf 60 = .ok (.getfield 94, 3) := by decide +kernel
theorem dX12_weightOf_63 : decode cX12_weightOf 63 = .ok (.bipush 26, 2) := by decide +kernel
theorem dX12_weightOf_65 : decode cX12_weightOf 65 = .ok (.iconst 4, 1) := by decide +kernel
theorem dX12_weightOf_66 : decode cX12_weightOf 66 = .ok (.iload_n 1, 1) := by decide +kernel
theorem dX12_weightOf_67 : decode cX12_weightOf 67 = .ok (.iload_n 3, 1) := by decide +kernel
theorem dX12_weightOf_68 : decode cX12_weightOf 68 = .ok (.invokestatic 397, 3) := by decide +kernel
theorem dX12_weightOf_71 : decode cX12_weightOf 71 = .ok (.imul, 1) := by decide +kernel
theorem dX12_weightOf_72 : decode cX12_weightOf 72 = .ok (.iadd, 1) := by decide +kernel
theorem dX12_weightOf_73 : decode cX12_weightOf 73 = .ok (.iaload, 1) := by decide +kernel
theorem dX12_weightOf_74 : decode cX12_weightOf 74 = .ok (.i2l, 1) := by decide +kernel
theorem dX12_weightOf_75 : decode cX12_weightOf 75 = .ok (.lmul, 1) := by decide +kernel
theorem dX12_weightOf_76 : decode cX12_weightOf 76 = .ok (.lstore 4, 2) := by decide +kernel
theorem dX12_weightOf_78 : decode cX12_weightOf 78 = .ok (.lload 4, 2) := by decide +kernel
theorem dX12_weightOf_80 : decode cX12_weightOf 80 = .ok (.aload_n 0, 1) := by decide +kernel
theorem dX12_weightOf_81 : decode cX12_weightOf 81 = .ok (.getfield 94, 3) := by decide +kernel
theorem dX12_weightOf_84 : decode cX12_weightOf 84 = .ok (.bipush 27, 2) := by decide +kernel
theorem dX12_weightOf_86 : decode cX12_weightOf 86 = .ok (.iconst 4, 1) := by decide +kernel
theorem dX12_weightOf_87 : decode cX12_weightOf 87 = .ok (.iload_n 1, 1) := by decide +kernel
theorem dX12_weightOf_88 : decode cX12_weightOf 88 = .ok (.iconst 1, 1) := by decide +kernel
theorem dX12_weightOf_89 : decode cX12_weightOf 89 = .ok (.iload_n 3, 1) := by decide +kernel
theorem dX12_weightOf_90 : decode cX12_weightOf 90 = .ok (.isub, 1) := by decide +kernel
theorem dX12_weightOf_91 : decode cX12_weightOf 91 = .ok (.invokestatic 397, 3) := by decide +kernel
theorem dX12_weightOf_94 : decode cX12_weightOf 94 = .ok (.imul, 1) := by decide +kernel
theorem dX12_weightOf_95 : decode cX12_weightOf 95 = .ok (.iadd, 1) := by decide +kernel
theorem dX12_weightOf_96 : decode cX12_weightOf 96 = .ok (.iaload, 1) := by decide +kernel
theorem dX12_weightOf_97 : decode cX12_weightOf 97 = .ok (.i2l, 1) := by decide +kernel
theorem dX12_weightOf_98 : decode cX12_weightOf 98 = .ok (.lmul, 1) := by decide +kernel
theorem dX12_weightOf_99 : decode cX12_weightOf 99 = .ok (.lstore 4, 2) := by decide +kernel
theorem dX12_weightOf_101 : decode cX12_weightOf 101 = .ok (.iload_n 2, 1) := by decide +kernel
theorem dX12_weightOf_102 : decode cX12_weightOf 102 = .ok (.ifCond .eq 6, 3) := by decide +kernel
theorem dX12_weightOf_105 : decode cX12_weightOf 105 = .ok (.lload 4, 2) := by decide +kernel
theorem dX12_weightOf_107 : decode cX12_weightOf 107 = .ok (.lreturn, 1) := by decide +kernel
theorem dX12_weightOf_108 : decode cX12_weightOf 108 = .ok (.iconst 0, 1) := by decide +kernel
theorem dX12_weightOf_109 : decode cX12_weightOf 109 = .ok (.istore 6, 2) := by decide +kernel
theorem dX12_weightOf_111 : decode cX12_weightOf 111 = .ok (.iload 6, 2) := by decide +kernel
theorem dX12_weightOf_113 : decode cX12_weightOf 113 = .ok (.aload_n 0, 1) := by decide +kernel
theorem dX12_weightOf_114 : decode cX12_weightOf 114 = .ok (.invokevirtual 403, 3) := by decide +kernel
theorem dX12_weightOf_117 : decode cX12_weightOf 117 = .ok (.if_icmp .ge 88, 3) := by decide +kernel
theorem dX12_weightOf_120 : decode cX12_weightOf 120 = .ok (.iconst 0, 1) := by decide +kernel
theorem dX12_weightOf_121 : decode cX12_weightOf 121 = .ok (.istore 7, 2) := by decide +kernel
theorem dX12_weightOf_123 : decode cX12_weightOf 123 = .ok (.iload 7, 2) := by decide +kernel
theorem dX12_weightOf_125 : decode cX12_weightOf 125 = .ok (.iconst 2, 1) := by decide +kernel
theorem dX12_weightOf_126 : decode cX12_weightOf 126 = .ok (.if_icmp .ge 73, 3) := by decide +kernel
theorem dX12_weightOf_129 : decode cX12_weightOf 129 = .ok (.aload_n 0, 1) := by decide +kernel
theorem dX12_weightOf_130 : decode cX12_weightOf 130 = .ok (.iload 6, 2) := by decide +kernel
theorem dX12_weightOf_132 : decode cX12_weightOf 132 = .ok (.iload 7, 2) := by decide +kernel
theorem dX12_weightOf_134 : decode cX12_weightOf 134 = .ok (.invokevirtual 406, 3) := by decide +kernel
theorem dX12_weightOf_137 : decode cX12_weightOf 137 = .ok (.istore 8, 2) := by decide +kernel
theorem dX12_weightOf_139 : decode cX12_weightOf 139 = .ok (.aload_n 0, 1) := by decide +kernel
theorem dX12_weightOf_140 : decode cX12_weightOf 140 = .ok (.getfield 100, 3) := by decide +kernel
theorem dX12_weightOf_143 : decode cX12_weightOf 143 = .ok (.bipush 10, 2) := by decide +kernel
theorem dX12_weightOf_145 : decode cX12_weightOf 145 = .ok (.iconst 2, 1) := by decide +kernel
theorem dX12_weightOf_146 : decode cX12_weightOf 146 = .ok (.iload 6, 2) := by decide +kernel
theorem dX12_weightOf_148 : decode cX12_weightOf 148 = .ok (.imul, 1) := by decide +kernel
theorem dX12_weightOf_149 : decode cX12_weightOf 149 = .ok (.iadd, 1) := by decide +kernel
theorem dX12_weightOf_150 : decode cX12_weightOf 150 = .ok (.iload 7, 2) := by decide +kernel
theorem dX12_weightOf_152 : decode cX12_weightOf 152 = .ok (.iload_n 3, 1) := by decide +kernel
theorem dX12_weightOf_153 : decode cX12_weightOf 153 = .ok (.if_icmp .ne 7, 3) := by decide +kernel
theorem dX12_weightOf_156 : decode cX12_weightOf 156 = .ok (.iconst 0, 1) := by decide +kernel
theorem dX12_weightOf_157 : decode cX12_weightOf 157 = .ok (.goto 4, 3) := by decide +kernel
theorem dX12_weightOf_160 : decode cX12_weightOf 160 = .ok (.iconst 1, 1) := by decide +kernel
theorem dX12_weightOf_161 : decode cX12_weightOf 161 = .ok (.iadd, 1) := by decide +kernel
theorem dX12_weightOf_162 : decode cX12_weightOf 162 = .ok (.iaload, 1) := by decide +kernel
theorem dX12_weightOf_163 : decode cX12_weightOf 163 = .ok (.istore 9, 2) := by decide +kernel
theorem dX12_weightOf_165 : decode cX12_weightOf 165 = .ok (.iload 8, 2) := by decide +kernel
theorem dX12_weightOf_167 : decode cX12_weightOf 167 = .ok (.ifCond .eq 26, 3) := by decide +kernel
theorem dX12_weightOf_170 : decode cX12_weightOf 170 = .ok (.lload 4, 2) := by decide +kernel
theorem dX12_weightOf_172 : decode cX12_weightOf 172 = .ok (.iload 8, 2) := by decide +kernel
theorem dX12_weightOf_174 : decode cX12_weightOf 174 = .ok (.iconst 2, 1) := by decide +kernel
theorem dX12_weightOf_175 : decode cX12_weightOf 175 = .ok (.if_icmp .ne 9, 3) := by decide +kernel
theorem dX12_weightOf_178 : decode cX12_weightOf 178 = .ok (.iload 9, 2) := by decide +kernel
theorem dX12_weightOf_180 : decode cX12_weightOf 180 = .ok (.i2l, 1) := by decide +kernel
theorem dX12_weightOf_181 : decode cX12_weightOf 181 = .ok (.goto 9, 3) := by decide +kernel
theorem dX12_weightOf_184 : decode cX12_weightOf 184 = .ok (.bipush 10, 2) := by decide +kernel
theorem dX12_weightOf_186 : decode cX12_weightOf 186 = .ok (.iload 9, 2) := by decide +kernel
theorem dX12_weightOf_188 : decode cX12_weightOf 188 = .ok (.isub, 1) := by decide +kernel
theorem dX12_weightOf_189 : decode cX12_weightOf 189 = .ok (.i2l, 1) := by decide +kernel
theorem dX12_weightOf_190 : decode cX12_weightOf 190 = .ok (.lmul, 1) := by decide +kernel
theorem dX12_weightOf_191 : decode cX12_weightOf 191 = .ok (.lstore 4, 2) := by decide +kernel
theorem dX12_weightOf_193 : decode cX12_weightOf 193 = .ok (.iinc 7 1, 3) := by decide +kernel
theorem dX12_weightOf_196 : decode cX12_weightOf 196 = .ok (.goto (-73), 3) := by decide +kernel
theorem dX12_weightOf_199 : decode cX12_weightOf 199 = .ok (.iinc 6 1, 3) := by decide +kernel
theorem dX12_weightOf_202 : decode cX12_weightOf 202 = .ok (.goto (-91), 3) := by decide +kernel
theorem dX12_weightOf_205 : decode cX12_weightOf 205 = .ok (.aload_n 0, 1) := by decide +kernel
theorem dX12_weightOf_206 : decode cX12_weightOf 206 = .ok (.iload_n 1, 1) := by decide +kernel
theorem dX12_weightOf_207 : decode cX12_weightOf 207 = .ok (.invokevirtual 409, 3) := by decide +kernel
theorem dX12_weightOf_210 : decode cX12_weightOf 210 = .ok (.ifCond .eq 8, 3) := by decide +kernel
theorem dX12_weightOf_213 : decode cX12_weightOf 213 = .ok (.lload 4, 2) := by decide +kernel
theorem dX12_weightOf_215 : decode cX12_weightOf 215 = .ok (.goto 4, 3) := by decide +kernel
theorem dX12_weightOf_218 : decode cX12_weightOf 218 = .ok (.lconst 0, 1) := by decide +kernel
theorem dX12_weightOf_219 : decode cX12_weightOf 219 = .ok (.lreturn, 1) := by decide +kernel
theorem kc_RX12_403 : Cond.methodLink RX12 403 yX12_markMany ∈ ktG ∧ (Cond.instanceMethod yX12_markMany ∈ ktG ∧ Cond.selects yX12_markMany.cls yX12_markMany yX12_markMany ∈ ktG) ∧ Cond.initialized yX12_markMany.cls ∈ ktG ∧ Cond.code yX12_markMany cX12_markMany 1 (some .int) ∈ ktG := ⟨(kwm 1699 (by decide +kernel) (by decide +kernel)), ⟨(kwm 1701 (by decide +kernel) (by decide +kernel)), (kwm 79 (by decide +kernel) (by decide +kernel))⟩, (kwm 139 (by decide +kernel) (by decide +kernel)), kwm 1702 (by decide +kernel) (by decide +kernel)⟩
theorem kh_X12_markMany : yX12_markMany.cls ≠ "java/lang/invoke/MethodHandle" ∧ yX12_markMany.cls ≠ "java/lang/invoke/VarHandle" ∧ (parseMethodDescriptor yX12_markMany.desc).map (fun d => d.parameters.length) = some 0 := by decide +kernel
theorem kc_RX12_406 : Cond.methodLink RX12 406 yX12_markOf ∈ ktG ∧ (Cond.instanceMethod yX12_markOf ∈ ktG ∧ Cond.selects yX12_markOf.cls yX12_markOf yX12_markOf ∈ ktG) ∧ Cond.initialized yX12_markOf.cls ∈ ktG ∧ Cond.code yX12_markOf cX12_markOf 3 (some .int) ∈ ktG := ⟨(kwm 1738 (by decide +kernel) (by decide +kernel)), ⟨(kwm 1740 (by decide +kernel) (by decide +kernel)), (kwm 84 (by decide +kernel) (by decide +kernel))⟩, (kwm 139 (by decide +kernel) (by decide +kernel)), kwm 1741 (by decide +kernel) (by decide +kernel)⟩
theorem kh_X12_markOf : yX12_markOf.cls ≠ "java/lang/invoke/MethodHandle" ∧ yX12_markOf.cls ≠ "java/lang/invoke/VarHandle" ∧ (parseMethodDescriptor yX12_markOf.desc).map (fun d => d.parameters.length) = some 2 := by decide +kernel
theorem kc_RX12_409 : Cond.methodLink RX12 409 yX12_isAsHeard ∈ ktG ∧ (Cond.instanceMethod yX12_isAsHeard ∈ ktG ∧ Cond.selects yX12_isAsHeard.cls yX12_isAsHeard yX12_isAsHeard ∈ ktG) ∧ Cond.initialized yX12_isAsHeard.cls ∈ ktG ∧ Cond.code yX12_isAsHeard cX12_isAsHeard 4 (some .boolean) ∈ ktG := ⟨(kwm 1801 (by decide +kernel) (by decide +kernel)), ⟨(kwm 1803 (by decide +kernel) (by decide +kernel)), (kwm 93 (by decide +kernel) (by decide +kernel))⟩, (kwm 139 (by decide +kernel) (by decide +kernel)), kwm 1804 (by decide +kernel) (by decide +kernel)⟩
theorem kh_X12_isAsHeard : yX12_isAsHeard.cls ≠ "java/lang/invoke/MethodHandle" ∧ yX12_isAsHeard.cls ≠ "java/lang/invoke/VarHandle" ∧ (parseMethodDescriptor yX12_isAsHeard.desc).map (fun d => d.parameters.length) = some 1 := by decide +kernel
def E_X12_weightOf_l111 (h : KH) (v0 : Nat) (v1 : Int32) (v3 : Int32) : Int64 → Nat → List (Nat × Value) → List Value → KH → Prop := fun (e : Int64) pc ls st hh => pc = 205 ∧ ls = [(0, .ref v0), (1, .int v1), (4, .long e)] ∧ st = [] ∧ h = hh
def B_X12_weightOf_l111 (h : KH) (v0 : Nat) (v1 : Int32) (v3 : Int32) : ((Int64 × Int32) ⊕ (Int64)) → Nat → List (Nat × Value) → List Value → KH → Prop := Sum.elim (fun (s : Int64 × Int32) pc ls st hh => pc = 111 ∧ ls = [(0, .ref v0), (1, .int v1), (3, .int v3), (4, .long s.1), (6, .int s.2)] ∧ st = [] ∧ hh = h) (E_X12_weightOf_l111 h v0 v1 v3)
def E_X12_weightOf_l123 (h : KH) (v0 : Nat) (v1 : Int32) (v3 : Int32) (v6 : Int32) : Int64 → Nat → List (Nat × Value) → List Value → KH → Prop := fun (e : Int64) pc ls st hh => pc = 199 ∧ ls = [(0, .ref v0), (1, .int v1), (3, .int v3), (4, .long e), (6, .int v6)] ∧ st = [] ∧ h = hh
def B_X12_weightOf_l123 (h : KH) (v0 : Nat) (v1 : Int32) (v3 : Int32) (v6 : Int32) : ((Int64 × Int32) ⊕ (Int64)) → Nat → List (Nat × Value) → List Value → KH → Prop := Sum.elim (fun (s : Int64 × Int32) pc ls st hh => pc = 123 ∧ ls = [(0, .ref v0), (1, .int v1), (3, .int v3), (4, .long s.1), (6, .int v6), (7, .int s.2)] ∧ st = [] ∧ hh = h) (E_X12_weightOf_l123 h v0 v1 v3 v6)
def f_X12_weightOf_b193 (h : KH) (v0 : Nat) (v1 : Int32) (v3 : Int32) (v4 : Int64) (v6 : Int32) (v7 : Int32) : Option ((Int64 × Int32) ⊕ (Int64)) :=
  kl (v7 + (1 : Int32)) fun x1 =>
  some (.inl (v4, x1))
set_option maxHeartbeats 4000000 in
set_option maxRecDepth 100000 in
theorem s_X12_weightOf_b193 {Z : Nat → (Nat → Nat) → State → Prop} (h : KH) (v0 : Nat) (v1 : Int32) (v3 : Int32) (v4 : Int64) (v6 : Int32) (v7 : Int32) {t : (Int64 × Int32) ⊕ (Int64)} (hn : h.1 = 243) (H : f_X12_weightOf_b193 h v0 v1 v3 v4 v6 v7 = some t) : KX Z RX12 cX12_weightOf 10 false 3 (B_X12_weightOf_l123 h v0 v1 v3 v6 t) 193 [(0, .ref v0), (1, .int v1), (3, .int v3), (4, .long v4), (6, .int v6), (7, .int v7)] [] h := by
  unfold f_X12_weightOf_b193 at H
  replace H := kle H; obtain ⟨x1, q2, H⟩ := H
  refine x_iinc (q := 196) (i := 7) (ls2 := [(7, .int x1), (0, .ref v0), (1, .int v1), (3, .int v3), (4, .long v4), (6, .int v6)]) dX12_weightOf_193 rfl rfl (by decide) (by rw [q2]; rfl) ?_
  refine x_goto dX12_weightOf_196 (q := 123) (by decide) ?_
  cases H
  refine x_sub (ls2 := [(0, .ref v0), (1, .int v1), (3, .int v3), (4, .long v4), (6, .int v6), (7, .int x1)]) [1, 2, 3, 4, 5, 0] rfl ?_
  exact x_end (x_cfg rfl)
def f_X12_weightOf_b190 (h : KH) (v0 : Nat) (v1 : Int32) (v3 : Int32) (v6 : Int32) (v7 : Int32) (w0 : Int64) (w1 : Int64) : Option ((Int64 × Int32) ⊕ (Int64)) :=
  kl (w0 * w1) fun x1 =>
  f_X12_weightOf_b193 h v0 v1 v3 x1 v6 v7
set_option maxHeartbeats 4000000 in
set_option maxRecDepth 100000 in
theorem s_X12_weightOf_b190 {Z : Nat → (Nat → Nat) → State → Prop} (h : KH) (v0 : Nat) (v1 : Int32) (v3 : Int32) (v6 : Int32) (v7 : Int32) (w0 : Int64) (w1 : Int64) {t : (Int64 × Int32) ⊕ (Int64)} (hn : h.1 = 243) (H : f_X12_weightOf_b190 h v0 v1 v3 v6 v7 w0 w1 = some t) : KX Z RX12 cX12_weightOf 10 false 3 (B_X12_weightOf_l123 h v0 v1 v3 v6 t) 190 [(0, .ref v0), (1, .int v1), (3, .int v3), (6, .int v6), (7, .int v7)] [.long w1, .long w0] h := by
  unfold f_X12_weightOf_b190 at H
  refine x_lmul (q := 191) dX12_weightOf_190 rfl ?_
  replace H := kle H; obtain ⟨x1, q2, H⟩ := H
  refine x_nmL q2 ?_
  refine x_lstore (q := 193) (i := 4) (ls2 := [(4, .long x1), (0, .ref v0), (1, .int v1), (3, .int v3), (6, .int v6), (7, .int v7)]) dX12_weightOf_191 rfl (by decide) rfl ?_
  refine x_sub (ls2 := [(0, .ref v0), (1, .int v1), (3, .int v3), (4, .long x1), (6, .int v6), (7, .int v7)]) [1, 2, 3, 0, 4, 5] rfl ?_
  exact s_X12_weightOf_b193 h v0 v1 v3 x1 v6 v7 hn H
def f_X12_weightOf_b161 (h : KH) (v0 : Nat) (v1 : Int32) (v3 : Int32) (v4 : Int64) (v6 : Int32) (v7 : Int32) (v8 : Int32) (w0 : Nat) (w1 : Int32) (w2 : Int32) : Option ((Int64 × Int32) ⊕ (Int64)) :=
  if kkind w0 = 20 then if ((w1 + w2) < 0 ∨ klen w0 ≤ ((w1 + w2)).toNatClampNeg) then none else kl (kI h w0 (((w1 + w2)).toNatClampNeg)) fun x3 =>
  if v8 = 0 then
  f_X12_weightOf_b193 h v0 v1 v3 v4 v6 v7
  else
  if v8 = (2 : Int32) then
  f_X12_weightOf_b190 h v0 v1 v3 v6 v7 v4 ((x3).toInt64)
  else
  f_X12_weightOf_b190 h v0 v1 v3 v6 v7 v4 ((((10 : Int32) - x3)).toInt64) else none
set_option maxHeartbeats 4000000 in
set_option maxRecDepth 100000 in
theorem s_X12_weightOf_b161 {Z : Nat → (Nat → Nat) → State → Prop} (h : KH) (v0 : Nat) (v1 : Int32) (v3 : Int32) (v4 : Int64) (v6 : Int32) (v7 : Int32) (v8 : Int32) (w0 : Nat) (w1 : Int32) (w2 : Int32) {t : (Int64 × Int32) ⊕ (Int64)} (hn : h.1 = 243) (H : f_X12_weightOf_b161 h v0 v1 v3 v4 v6 v7 v8 w0 w1 w2 = some t) : KX Z RX12 cX12_weightOf 10 false 3 (B_X12_weightOf_l123 h v0 v1 v3 v6 t) 161 [(0, .ref v0), (1, .int v1), (3, .int v3), (4, .long v4), (6, .int v6), (7, .int v7), (8, .int v8)] [.int w2, .int w1, .ref w0] h := by
  unfold f_X12_weightOf_b161 at H
  refine x_iadd (q := 162) dX12_weightOf_161 rfl ?_
  replace H := kif H; obtain ⟨g1, H⟩ := H
  replace H := kifn H; obtain ⟨g2, H⟩ := H
  refine x_iald (q := 163) dX12_weightOf_162 rfl (k243 g1 (by decide) hn) g2 ?_
  replace H := kle H; obtain ⟨x3, q4, H⟩ := H
  refine x_nmI q4 ?_
  refine x_istore (q := 165) (i := 9) (ls2 := [(9, .int x3), (0, .ref v0), (1, .int v1), (3, .int v3), (4, .long v4), (6, .int v6), (7, .int v7), (8, .int v8)]) dX12_weightOf_163 rfl (by decide) rfl ?_
  refine x_iload (q := 167) dX12_weightOf_165 rfl rfl ?_
  replace H := kite H; rcases H with ⟨g5, H⟩ | ⟨g5, H⟩
  · refine x_if_eq_t dX12_weightOf_167 (q := 193) (by decide) g5 ?_
    refine x_sub (ls2 := [(0, .ref v0), (1, .int v1), (3, .int v3), (4, .long v4), (6, .int v6), (7, .int v7)]) [1, 2, 3, 4, 5, 6] rfl ?_
    exact s_X12_weightOf_b193 h v0 v1 v3 v4 v6 v7 hn H
  · refine x_if_eq_f (q := 170) dX12_weightOf_167 (t := 193) (by decide) rfl g5 ?_
    refine x_lload (q := 172) dX12_weightOf_170 rfl rfl ?_
    refine x_iload (q := 174) dX12_weightOf_172 rfl rfl ?_
    refine x_iconst (q := 175) (v := (2 : Int32)) dX12_weightOf_174 rfl (by decide) ?_
    replace H := kite H; rcases H with ⟨g6, H⟩ | ⟨g6, H⟩
    · refine x_icmp_ne_f (q := 178) dX12_weightOf_175 (t := 184) (by decide) rfl g6 ?_
      refine x_iload (q := 180) dX12_weightOf_178 rfl rfl ?_
      refine x_i2l (q := 181) dX12_weightOf_180 rfl ?_
      refine x_goto dX12_weightOf_181 (q := 190) (by decide) ?_
      refine x_sub (ls2 := [(0, .ref v0), (1, .int v1), (3, .int v3), (6, .int v6), (7, .int v7)]) [1, 2, 3, 5, 6] rfl ?_
      exact s_X12_weightOf_b190 h v0 v1 v3 v6 v7 v4 ((x3).toInt64) hn H
    · refine x_icmp_ne_t dX12_weightOf_175 (q := 184) (by decide) g6 ?_
      refine x_bipush (q := 186) (v := (10 : Int32)) dX12_weightOf_184 rfl (by decide) ?_
      refine x_iload (q := 188) dX12_weightOf_186 rfl rfl ?_
      refine x_isub (q := 189) dX12_weightOf_188 rfl ?_
      refine x_i2l (q := 190) dX12_weightOf_189 rfl ?_
      refine x_sub (ls2 := [(0, .ref v0), (1, .int v1), (3, .int v3), (6, .int v6), (7, .int v7)]) [1, 2, 3, 5, 6] rfl ?_
      exact s_X12_weightOf_b190 h v0 v1 v3 v6 v7 v4 ((((10 : Int32) - x3)).toInt64) hn H
def f_X12_weightOf_l123 (h : KH) (v0 : Nat) (v1 : Int32) (v3 : Int32) (v6 : Int32) (s : Int64 × Int32) : Option ((Int64 × Int32) ⊕ (Int64)) :=
  if (2 : Int32) ≤ s.2 then
  some (.inr s.1)
  else
  if kkind v0 = 12 then kb (f_X12_markOf h v0 v6 s.2) fun r3 =>
  if (kR h v0 37) < 999999 then if s.2 = v3 then
  f_X12_weightOf_b161 h v0 v1 v3 s.1 v6 s.2 r3 (kR h v0 37) ((10 : Int32) + ((2 : Int32) * v6)) (0 : Int32)
  else
  f_X12_weightOf_b161 h v0 v1 v3 s.1 v6 s.2 r3 (kR h v0 37) ((10 : Int32) + ((2 : Int32) * v6)) (1 : Int32) else none else none
set_option maxHeartbeats 4000000 in
set_option maxRecDepth 100000 in
theorem s_X12_weightOf_l123 {Z : Nat → (Nat → Nat) → State → Prop} (h : KH) (v0 : Nat) (v1 : Int32) (v3 : Int32) (v6 : Int32) (s : Int64 × Int32) (t : (Int64 × Int32) ⊕ (Int64)) (hn : (h).1 = 243) (H : f_X12_weightOf_l123 h v0 v1 v3 v6 s = some t) : KX Z RX12 cX12_weightOf 10 false 3 (B_X12_weightOf_l123 h v0 v1 v3 v6 t) 123 [(0, .ref v0), (1, .int v1), (3, .int v3), (4, .long s.1), (6, .int v6), (7, .int s.2)] [] h := by
  unfold f_X12_weightOf_l123 at H
  refine x_iload (q := 125) dX12_weightOf_123 rfl rfl ?_
  refine x_iconst (q := 126) (v := (2 : Int32)) dX12_weightOf_125 rfl (by decide) ?_
  replace H := kite H; rcases H with ⟨g1, H⟩ | ⟨g1, H⟩
  · refine x_icmp_ge_t dX12_weightOf_126 (q := 199) (by decide) g1 ?_
    cases H
    refine x_sub (ls2 := [(0, .ref v0), (1, .int v1), (3, .int v3), (4, .long s.1), (6, .int v6)]) [0, 1, 2, 3, 4] rfl ?_
    exact x_end (x_cfg rfl)
  · refine x_icmp_ge_f (q := 129) dX12_weightOf_126 (t := 199) (by decide) rfl g1 ?_
    refine x_aload_n (q := 130) dX12_weightOf_129 rfl rfl ?_
    refine x_iload (q := 132) dX12_weightOf_130 rfl rfl ?_
    refine x_iload (q := 134) dX12_weightOf_132 rfl rfl ?_
    replace H := kif H; obtain ⟨g2, H⟩ := H
    replace H := kbe H; obtain ⟨r3, c4, H⟩ := H
    have m5 := s_X12_markOf (Z := Z) h v0 v6 s.2 hn c4
    refine x_callV (q := 137) (as := [.int v6, .int s.2]) (rest := []) dX12_weightOf_134 rfl kc_RX12_406 kh_X12_markOf (by decide) (Nat.le_of_ble_eq_true rfl) m5 (ci := 12) (by exact ⟨rfl, by decide⟩) (k243 g2 (by decide) hn) ?_
    refine x_istore (q := 139) (i := 8) (ls2 := [(8, .int r3), (0, .ref v0), (1, .int v1), (3, .int v3), (4, .long s.1), (6, .int v6), (7, .int s.2)]) dX12_weightOf_137 rfl (by decide) rfl ?_
    refine x_aload_n (q := 140) dX12_weightOf_139 rfl rfl ?_
    replace H := kif H; obtain ⟨g6, H⟩ := H
    refine x_getR (q := 143) dX12_weightOf_140 rfl kl_RX12_100 rfl (k243 g2 (by decide) hn) g6 ?_
    refine x_bipush (q := 145) (v := (10 : Int32)) dX12_weightOf_143 rfl (by decide) ?_
    refine x_iconst (q := 146) (v := (2 : Int32)) dX12_weightOf_145 rfl (by decide) ?_
    refine x_iload (q := 148) dX12_weightOf_146 rfl rfl ?_
    refine x_imul (q := 149) dX12_weightOf_148 rfl ?_
    refine x_iadd (q := 150) dX12_weightOf_149 rfl ?_
    refine x_iload (q := 152) dX12_weightOf_150 rfl rfl ?_
    refine x_iload_n (q := 153) dX12_weightOf_152 rfl rfl ?_
    replace H := kite H; rcases H with ⟨g7, H⟩ | ⟨g7, H⟩
    · refine x_icmp_ne_f (q := 156) dX12_weightOf_153 (t := 160) (by decide) rfl g7 ?_
      refine x_iconst (q := 157) (v := (0 : Int32)) dX12_weightOf_156 rfl (by decide) ?_
      refine x_goto dX12_weightOf_157 (q := 161) (by decide) ?_
      refine x_sub (ls2 := [(0, .ref v0), (1, .int v1), (3, .int v3), (4, .long s.1), (6, .int v6), (7, .int s.2), (8, .int r3)]) [1, 2, 3, 4, 5, 6, 0] rfl ?_
      exact s_X12_weightOf_b161 h v0 v1 v3 s.1 v6 s.2 r3 (kR h v0 37) ((10 : Int32) + ((2 : Int32) * v6)) (0 : Int32) hn H
    · refine x_icmp_ne_t dX12_weightOf_153 (q := 160) (by decide) g7 ?_
      refine x_iconst (q := 161) (v := (1 : Int32)) dX12_weightOf_160 rfl (by decide) ?_
      refine x_sub (ls2 := [(0, .ref v0), (1, .int v1), (3, .int v3), (4, .long s.1), (6, .int v6), (7, .int s.2), (8, .int r3)]) [1, 2, 3, 4, 5, 6, 0] rfl ?_
      exact s_X12_weightOf_b161 h v0 v1 v3 s.1 v6 s.2 r3 (kR h v0 37) ((10 : Int32) + ((2 : Int32) * v6)) (1 : Int32) hn H
theorem sl_X12_weightOf_l123 {Z : Nat → (Nat → Nat) → State → Prop} (h : KH) (v0 : Nat) (v1 : Int32) (v3 : Int32) (v6 : Int32) (n : Nat) (s : Int64 × Int32) (r : Int64) (hn : (h).1 = 243) (H : kloop (f_X12_weightOf_l123 h v0 v1 v3 v6) n s = some r) : KX Z RX12 cX12_weightOf 10 false 3 (E_X12_weightOf_l123 h v0 v1 v3 v6 r) 123 [(0, .ref v0), (1, .int v1), (3, .int v3), (4, .long s.1), (6, .int v6), (7, .int s.2)] [] h :=
  k_loop (ls := (fun (s : Int64 × Int32) => ([(0, .ref v0), (1, .int v1), (3, .int v3), (4, .long s.1), (6, .int v6), (7, .int s.2)] : List (Nat × Value)))) (hp := (fun (s : Int64 × Int32) => (h : KH))) (G := E_X12_weightOf_l123 h v0 v1 v3 v6) (fun s t hn H => s_X12_weightOf_l123 h v0 v1 v3 v6 s t hn H) n s r hn H
def f_X12_weightOf_l111 (h : KH) (v0 : Nat) (v1 : Int32) (v3 : Int32) (s : Int64 × Int32) : Option ((Int64 × Int32) ⊕ (Int64)) :=
  if kkind v0 = 12 then kb (f_X12_markMany h v0) fun r2 =>
  if r2 ≤ s.2 then
  some (.inr s.1)
  else
  kb (kloop (f_X12_weightOf_l123 h v0 v1 v3 s.2) KF (s.1, (0 : Int32))) fun e6 =>
  kl (s.2 + (1 : Int32)) fun x9 =>
  some (.inl (e6, x9)) else none
set_option maxHeartbeats 4000000 in
set_option maxRecDepth 100000 in
theorem s_X12_weightOf_l111 {Z : Nat → (Nat → Nat) → State → Prop} (h : KH) (v0 : Nat) (v1 : Int32) (v3 : Int32) (s : Int64 × Int32) (t : (Int64 × Int32) ⊕ (Int64)) (hn : (h).1 = 243) (H : f_X12_weightOf_l111 h v0 v1 v3 s = some t) : KX Z RX12 cX12_weightOf 10 false 3 (B_X12_weightOf_l111 h v0 v1 v3 t) 111 [(0, .ref v0), (1, .int v1), (3, .int v3), (4, .long s.1), (6, .int s.2)] [] h := by
  unfold f_X12_weightOf_l111 at H
  refine x_iload (q := 113) dX12_weightOf_111 rfl rfl ?_
  refine x_aload_n (q := 114) dX12_weightOf_113 rfl rfl ?_
  replace H := kif H; obtain ⟨g1, H⟩ := H
  replace H := kbe H; obtain ⟨r2, c3, H⟩ := H
  have m4 := s_X12_markMany (Z := Z) h v0 hn c3
  refine x_callV (q := 117) (as := []) (rest := [.int s.2]) dX12_weightOf_114 rfl kc_RX12_403 kh_X12_markMany (by decide) (Nat.le_of_ble_eq_true rfl) m4 (ci := 12) (by exact ⟨rfl, by decide⟩) (k243 g1 (by decide) hn) ?_
  replace H := kite H; rcases H with ⟨g5, H⟩ | ⟨g5, H⟩
  · refine x_icmp_ge_t dX12_weightOf_117 (q := 205) (by decide) g5 ?_
    cases H
    refine x_sub (ls2 := [(0, .ref v0), (1, .int v1), (4, .long s.1)]) [0, 1, 3] rfl ?_
    exact x_end (x_cfg rfl)
  · refine x_icmp_ge_f (q := 120) dX12_weightOf_117 (t := 205) (by decide) rfl g5 ?_
    refine x_iconst (q := 121) (v := (0 : Int32)) dX12_weightOf_120 rfl (by decide) ?_
    refine x_istore (q := 123) (i := 7) (ls2 := [(7, .int (0 : Int32)), (0, .ref v0), (1, .int v1), (3, .int v3), (4, .long s.1), (6, .int s.2)]) dX12_weightOf_121 rfl (by decide) rfl ?_
    refine x_sub (ls2 := [(0, .ref v0), (1, .int v1), (3, .int v3), (4, .long s.1), (6, .int s.2), (7, .int (0 : Int32))]) [1, 2, 3, 4, 5, 0] rfl ?_
    replace H := kbe H; obtain ⟨e6, c7, H⟩ := H
    refine x_app (sl_X12_weightOf_l123 h v0 v1 v3 s.2 KF (s.1, (0 : Int32)) e6 hn c7) fun pc2 ls2 st2 h2 hg m8 => ?_
    obtain ⟨rfl, rfl, rfl, rfl⟩ := hg
    replace H := kle H; obtain ⟨x9, q10, H⟩ := H
    refine x_iinc (q := 202) (i := 6) (ls2 := [(6, .int x9), (0, .ref v0), (1, .int v1), (3, .int v3), (4, .long e6)]) dX12_weightOf_199 rfl rfl (by decide) (by rw [q10]; rfl) ?_
    refine x_goto dX12_weightOf_202 (q := 111) (by decide) ?_
    cases H
    refine x_sub (ls2 := [(0, .ref v0), (1, .int v1), (3, .int v3), (4, .long e6), (6, .int x9)]) [1, 2, 3, 4, 0] rfl ?_
    exact x_end (x_cfg rfl)
theorem sl_X12_weightOf_l111 {Z : Nat → (Nat → Nat) → State → Prop} (h : KH) (v0 : Nat) (v1 : Int32) (v3 : Int32) (n : Nat) (s : Int64 × Int32) (r : Int64) (hn : (h).1 = 243) (H : kloop (f_X12_weightOf_l111 h v0 v1 v3) n s = some r) : KX Z RX12 cX12_weightOf 10 false 3 (E_X12_weightOf_l111 h v0 v1 v3 r) 111 [(0, .ref v0), (1, .int v1), (3, .int v3), (4, .long s.1), (6, .int s.2)] [] h :=
  k_loop (ls := (fun (s : Int64 × Int32) => ([(0, .ref v0), (1, .int v1), (3, .int v3), (4, .long s.1), (6, .int s.2)] : List (Nat × Value)))) (hp := (fun (s : Int64 × Int32) => (h : KH))) (G := E_X12_weightOf_l111 h v0 v1 v3) (fun s t hn H => s_X12_weightOf_l111 h v0 v1 v3 s t hn H) n s r hn H
def f_X12_weightOf_b55 (h : KH) (v0 : Nat) (v1 : Int32) (v2 : Int32) (v3 : Int32) (w0 : Int64) : Option (Int64) :=
  if kkind v0 = 12 then if (kR h v0 35) < 999999 then kb (f_X12_kindIn h v1 v3) fun r3 =>
  if kkind (kR h v0 35) = 20 then if (((26 : Int32) + ((4 : Int32) * r3)) < 0 ∨ klen (kR h v0 35) ≤ (((26 : Int32) + ((4 : Int32) * r3))).toNatClampNeg) then none else kl (w0 * (((kI h (kR h v0 35) ((((26 : Int32) + ((4 : Int32) * r3))).toNatClampNeg))).toInt64)) fun x8 =>
  kb (f_X12_kindIn h v1 ((1 : Int32) - v3)) fun r10 =>
  if (((27 : Int32) + ((4 : Int32) * r10)) < 0 ∨ klen (kR h v0 35) ≤ (((27 : Int32) + ((4 : Int32) * r10))).toNatClampNeg) then none else kl (x8 * (((kI h (kR h v0 35) ((((27 : Int32) + ((4 : Int32) * r10))).toNatClampNeg))).toInt64)) fun x14 =>
  if v2 = 0 then
  kb (kloop (f_X12_weightOf_l111 h v0 v1 v3) KF (x14, (0 : Int32))) fun e17 =>
  kb (f_X12_isAsHeard h v0 v1) fun r20 =>
  if r20 = 0 then
  some (0 : Int64)
  else
  some e17
  else
  some x14 else none else none else none
set_option maxHeartbeats 4000000 in
set_option maxRecDepth 100000 in
theorem s_X12_weightOf_b55 {Z : Nat → (Nat → Nat) → State → Prop} (h : KH) (v0 : Nat) (v1 : Int32) (v2 : Int32) (v3 : Int32) (w0 : Int64) {t : Int64} (hn : h.1 = 243) (H : f_X12_weightOf_b55 h v0 v1 v2 v3 w0 = some t) : KX Z RX12 cX12_weightOf 10 false 3 (KRl cX12_weightOf t h) 55 [(0, .ref v0), (1, .int v1), (2, .int v2), (3, .int v3)] [.long w0] h := by
  unfold f_X12_weightOf_b55 at H
  refine x_lstore (q := 57) (i := 4) (ls2 := [(4, .long w0), (0, .ref v0), (1, .int v1), (2, .int v2), (3, .int v3)]) dX12_weightOf_55 rfl (by decide) rfl ?_
  refine x_lload (q := 59) dX12_weightOf_57 rfl rfl ?_
  refine x_aload_n (q := 60) dX12_weightOf_59 rfl rfl ?_
  replace H := kif H; obtain ⟨g1, H⟩ := H
  replace H := kif H; obtain ⟨g2, H⟩ := H
  refine x_getR (q := 63) dX12_weightOf_60 rfl kl_RX12_94 rfl (k243 g1 (by decide) hn) g2 ?_
  refine x_bipush (q := 65) (v := (26 : Int32)) dX12_weightOf_63 rfl (by decide) ?_
  refine x_iconst (q := 66) (v := (4 : Int32)) dX12_weightOf_65 rfl (by decide) ?_
  refine x_iload_n (q := 67) dX12_weightOf_66 rfl rfl ?_
  refine x_iload_n (q := 68) dX12_weightOf_67 rfl rfl ?_
  replace H := kbe H; obtain ⟨r3, c4, H⟩ := H
  have m5 := s_X12_kindIn (Z := Z) h v1 v3 hn c4
  refine x_callS (q := 71) (as := [.int v1, .int v3]) (rest := [.int (4 : Int32), .int (26 : Int32), .ref (kR h v0 35), .long w0]) dX12_weightOf_68 rfl kc_RX12_397 kh_X12_kindIn (by decide) (Nat.le_of_ble_eq_true rfl) m5 ?_
  refine x_imul (q := 72) dX12_weightOf_71 rfl ?_
  refine x_iadd (q := 73) dX12_weightOf_72 rfl ?_
  replace H := kif H; obtain ⟨g6, H⟩ := H
  replace H := kifn H; obtain ⟨g7, H⟩ := H
  refine x_iald (q := 74) dX12_weightOf_73 rfl (k243 g6 (by decide) hn) g7 ?_
  refine x_i2l (q := 75) dX12_weightOf_74 rfl ?_
  refine x_lmul (q := 76) dX12_weightOf_75 rfl ?_
  replace H := kle H; obtain ⟨x8, q9, H⟩ := H
  refine x_nmL q9 ?_
  refine x_lstore (q := 78) (i := 4) (ls2 := [(4, .long x8), (0, .ref v0), (1, .int v1), (2, .int v2), (3, .int v3)]) dX12_weightOf_76 rfl (by decide) rfl ?_
  refine x_lload (q := 80) dX12_weightOf_78 rfl rfl ?_
  refine x_aload_n (q := 81) dX12_weightOf_80 rfl rfl ?_
  refine x_getR (q := 84) dX12_weightOf_81 rfl kl_RX12_94 rfl (k243 g1 (by decide) hn) g2 ?_
  refine x_bipush (q := 86) (v := (27 : Int32)) dX12_weightOf_84 rfl (by decide) ?_
  refine x_iconst (q := 87) (v := (4 : Int32)) dX12_weightOf_86 rfl (by decide) ?_
  refine x_iload_n (q := 88) dX12_weightOf_87 rfl rfl ?_
  refine x_iconst (q := 89) (v := (1 : Int32)) dX12_weightOf_88 rfl (by decide) ?_
  refine x_iload_n (q := 90) dX12_weightOf_89 rfl rfl ?_
  refine x_isub (q := 91) dX12_weightOf_90 rfl ?_
  replace H := kbe H; obtain ⟨r10, c11, H⟩ := H
  have m12 := s_X12_kindIn (Z := Z) h v1 ((1 : Int32) - v3) hn c11
  refine x_callS (q := 94) (as := [.int v1, .int ((1 : Int32) - v3)]) (rest := [.int (4 : Int32), .int (27 : Int32), .ref (kR h v0 35), .long x8]) dX12_weightOf_91 rfl kc_RX12_397 kh_X12_kindIn (by decide) (Nat.le_of_ble_eq_true rfl) m12 ?_
  refine x_imul (q := 95) dX12_weightOf_94 rfl ?_
  refine x_iadd (q := 96) dX12_weightOf_95 rfl ?_
  replace H := kifn H; obtain ⟨g13, H⟩ := H
  refine x_iald (q := 97) dX12_weightOf_96 rfl (k243 g6 (by decide) hn) g13 ?_
  refine x_i2l (q := 98) dX12_weightOf_97 rfl ?_
  refine x_lmul (q := 99) dX12_weightOf_98 rfl ?_
  replace H := kle H; obtain ⟨x14, q15, H⟩ := H
  refine x_nmL q15 ?_
  refine x_lstore (q := 101) (i := 4) (ls2 := [(4, .long x14), (0, .ref v0), (1, .int v1), (2, .int v2), (3, .int v3)]) dX12_weightOf_99 rfl (by decide) rfl ?_
  refine x_iload_n (q := 102) dX12_weightOf_101 rfl rfl ?_
  replace H := kite H; rcases H with ⟨g16, H⟩ | ⟨g16, H⟩
  · refine x_if_eq_t dX12_weightOf_102 (q := 108) (by decide) g16 ?_
    refine x_iconst (q := 109) (v := (0 : Int32)) dX12_weightOf_108 rfl (by decide) ?_
    refine x_istore (q := 111) (i := 6) (ls2 := [(6, .int (0 : Int32)), (4, .long x14), (0, .ref v0), (1, .int v1), (2, .int v2), (3, .int v3)]) dX12_weightOf_109 rfl (by decide) rfl ?_
    refine x_sub (ls2 := [(0, .ref v0), (1, .int v1), (3, .int v3), (4, .long x14), (6, .int (0 : Int32))]) [2, 3, 5, 1, 0] rfl ?_
    replace H := kbe H; obtain ⟨e17, c18, H⟩ := H
    refine x_app (sl_X12_weightOf_l111 h v0 v1 v3 KF (x14, (0 : Int32)) e17 hn c18) fun pc2 ls2 st2 h2 hg m19 => ?_
    obtain ⟨rfl, rfl, rfl, rfl⟩ := hg
    refine x_aload_n (q := 206) dX12_weightOf_205 rfl rfl ?_
    refine x_iload_n (q := 207) dX12_weightOf_206 rfl rfl ?_
    replace H := kbe H; obtain ⟨r20, c21, H⟩ := H
    have m22 := s_X12_isAsHeard (Z := Z) h v0 v1 hn c21
    refine x_callV (q := 210) (as := [.int v1]) (rest := []) dX12_weightOf_207 rfl kc_RX12_409 kh_X12_isAsHeard (by decide) (Nat.le_of_ble_eq_true rfl) m22 (ci := 12) (by exact ⟨rfl, by decide⟩) (k243 g1 (by decide) hn) ?_
    replace H := kite H; rcases H with ⟨g23, H⟩ | ⟨g23, H⟩
    · refine x_if_eq_t dX12_weightOf_210 (q := 218) (by decide) g23 ?_
      refine x_lconst (q := 219) (v := (0 : Int64)) dX12_weightOf_218 rfl (by decide) ?_
      cases H
      exact x_end ⟨dX12_weightOf_219, rfl, rfl⟩
    · refine x_if_eq_f (q := 213) dX12_weightOf_210 (t := 218) (by decide) rfl g23 ?_
      refine x_lload (q := 215) dX12_weightOf_213 rfl rfl ?_
      refine x_goto dX12_weightOf_215 (q := 219) (by decide) ?_
      cases H
      exact x_end ⟨dX12_weightOf_219, rfl, rfl⟩
  · refine x_if_eq_f (q := 105) dX12_weightOf_102 (t := 108) (by decide) rfl g16 ?_
    refine x_lload (q := 107) dX12_weightOf_105 rfl rfl ?_
    cases H
    exact x_end ⟨dX12_weightOf_107, rfl, rfl⟩
def f_X12_weightOf (h : KH) (v0 : Nat) (v1 : Int32) (v2 : Int32) : Option (Int64) :=
  kb (f_X12_kindIn h v1 (0 : Int32)) fun r1 =>
  if kkind v0 = 12 then kb (f_X12_kindMany h v0) fun r5 =>
  if r5 ≤ r1 then
  some (0 : Int64)
  else
  kb (f_X12_kindIn h v1 (1 : Int32)) fun r9 =>
  kb (f_X12_kindMany h v0) fun r12 =>
  if r9 < r12 then
  kb (f_X12_truthOf h v1) fun r16 =>
  if r16 = 0 then
  if (kR h v0 38) < 999999 then if kkind (kR h v0 38) = 20 then if klen (kR h v0 38) ≤ 2 then none else f_X12_weightOf_b55 h v0 v1 v2 r16 (((kI h (kR h v0 38) 2)).toInt64) else none else none
  else
  if (kR h v0 38) < 999999 then if kkind (kR h v0 38) = 20 then if klen (kR h v0 38) ≤ 2 then none else f_X12_weightOf_b55 h v0 v1 v2 r16 ((((100 : Int32) - (kI h (kR h v0 38) 2))).toInt64) else none else none
  else
  some (0 : Int64) else none
set_option maxHeartbeats 4000000 in
set_option maxRecDepth 100000 in
theorem s0_X12_weightOf {Z : Nat → (Nat → Nat) → State → Prop} (h : KH) (v0 : Nat) (v1 : Int32) (v2 : Int32) {t : Int64} (hn : h.1 = 243) (H : f_X12_weightOf h v0 v1 v2 = some t) : KX Z RX12 cX12_weightOf 10 false 3 (KRl cX12_weightOf t h) 0 [(0, .ref v0), (1, .int v1), (2, .int v2)] [] h := by
  unfold f_X12_weightOf at H
  refine x_iload_n (q := 1) dX12_weightOf_0 rfl rfl ?_
  refine x_iconst (q := 2) (v := (0 : Int32)) dX12_weightOf_1 rfl (by decide) ?_
  replace H := kbe H; obtain ⟨r1, c2, H⟩ := H
  have m3 := s_X12_kindIn (Z := Z) h v1 (0 : Int32) hn c2
  refine x_callS (q := 5) (as := [.int v1, .int (0 : Int32)]) (rest := []) dX12_weightOf_2 rfl kc_RX12_397 kh_X12_kindIn (by decide) (Nat.le_of_ble_eq_true rfl) m3 ?_
  refine x_aload_n (q := 6) dX12_weightOf_5 rfl rfl ?_
  replace H := kif H; obtain ⟨g4, H⟩ := H
  replace H := kbe H; obtain ⟨r5, c6, H⟩ := H
  have m7 := s_X12_kindMany (Z := Z) h v0 hn c6
  refine x_callV (q := 9) (as := []) (rest := [.int r1]) dX12_weightOf_6 rfl kc_RX12_364 kh_X12_kindMany (by decide) (Nat.le_of_ble_eq_true rfl) m7 (ci := 12) (by exact ⟨rfl, by decide⟩) (k243 g4 (by decide) hn) ?_
  replace H := kite H; rcases H with ⟨g8, H⟩ | ⟨g8, H⟩
  · refine x_icmp_ge_t dX12_weightOf_9 (q := 24) (by decide) g8 ?_
    refine x_lconst (q := 25) (v := (0 : Int64)) dX12_weightOf_24 rfl (by decide) ?_
    cases H
    exact x_end ⟨dX12_weightOf_25, rfl, rfl⟩
  · refine x_icmp_ge_f (q := 12) dX12_weightOf_9 (t := 24) (by decide) rfl g8 ?_
    refine x_iload_n (q := 13) dX12_weightOf_12 rfl rfl ?_
    refine x_iconst (q := 14) (v := (1 : Int32)) dX12_weightOf_13 rfl (by decide) ?_
    replace H := kbe H; obtain ⟨r9, c10, H⟩ := H
    have m11 := s_X12_kindIn (Z := Z) h v1 (1 : Int32) hn c10
    refine x_callS (q := 17) (as := [.int v1, .int (1 : Int32)]) (rest := []) dX12_weightOf_14 rfl kc_RX12_397 kh_X12_kindIn (by decide) (Nat.le_of_ble_eq_true rfl) m11 ?_
    refine x_aload_n (q := 18) dX12_weightOf_17 rfl rfl ?_
    replace H := kbe H; obtain ⟨r12, c13, H⟩ := H
    have m14 := s_X12_kindMany (Z := Z) h v0 hn c13
    refine x_callV (q := 21) (as := []) (rest := [.int r9]) dX12_weightOf_18 rfl kc_RX12_364 kh_X12_kindMany (by decide) (Nat.le_of_ble_eq_true rfl) m14 (ci := 12) (by exact ⟨rfl, by decide⟩) (k243 g4 (by decide) hn) ?_
    replace H := kite H; rcases H with ⟨g15, H⟩ | ⟨g15, H⟩
    · refine x_icmp_lt_t dX12_weightOf_21 (q := 26) (by decide) g15 ?_
      refine x_iload_n (q := 27) dX12_weightOf_26 rfl rfl ?_
      replace H := kbe H; obtain ⟨r16, c17, H⟩ := H
      have m18 := s_X12_truthOf (Z := Z) h v1 hn c17
      refine x_callS (q := 30) (as := [.int v1]) (rest := []) dX12_weightOf_27 rfl kc_RX12_393 kh_X12_truthOf (by decide) (Nat.le_of_ble_eq_true rfl) m18 ?_
      refine x_istore_n (q := 31) (i := 3) (ls2 := [(3, .int r16), (0, .ref v0), (1, .int v1), (2, .int v2)]) dX12_weightOf_30 rfl rfl (by decide) rfl ?_
      refine x_iload_n (q := 32) dX12_weightOf_31 rfl rfl ?_
      replace H := kite H; rcases H with ⟨g19, H⟩ | ⟨g19, H⟩
      · refine x_if_ne_f (q := 35) dX12_weightOf_32 (t := 45) (by decide) rfl g19 ?_
        refine x_aload_n (q := 36) dX12_weightOf_35 rfl rfl ?_
        replace H := kif H; obtain ⟨g23, H⟩ := H
        refine x_getR (q := 39) dX12_weightOf_36 rfl kl_RX12_103 rfl (k243 g4 (by decide) hn) g23 ?_
        refine x_iconst (q := 40) (v := (2 : Int32)) dX12_weightOf_39 rfl (by decide) ?_
        replace H := kif H; obtain ⟨g24, H⟩ := H
        replace H := kifn H; obtain ⟨g25, H⟩ := H
        refine x_iald (q := 41) dX12_weightOf_40 rfl (k243 g24 (by decide) hn) (fun z => z.elim (by decide) g25) ?_
        refine x_i2l (q := 42) dX12_weightOf_41 rfl ?_
        refine x_goto dX12_weightOf_42 (q := 55) (by decide) ?_
        refine x_sub (ls2 := [(0, .ref v0), (1, .int v1), (2, .int v2), (3, .int r16)]) [1, 2, 3, 0] rfl ?_
        exact s_X12_weightOf_b55 h v0 v1 v2 r16 (((kI h (kR h v0 38) 2)).toInt64) hn H
      · refine x_if_ne_t dX12_weightOf_32 (q := 45) (by decide) g19 ?_
        refine x_bipush (q := 47) (v := (100 : Int32)) dX12_weightOf_45 rfl (by decide) ?_
        refine x_aload_n (q := 48) dX12_weightOf_47 rfl rfl ?_
        replace H := kif H; obtain ⟨g20, H⟩ := H
        refine x_getR (q := 51) dX12_weightOf_48 rfl kl_RX12_103 rfl (k243 g4 (by decide) hn) g20 ?_
        refine x_iconst (q := 52) (v := (2 : Int32)) dX12_weightOf_51 rfl (by decide) ?_
        replace H := kif H; obtain ⟨g21, H⟩ := H
        replace H := kifn H; obtain ⟨g22, H⟩ := H
        refine x_iald (q := 53) dX12_weightOf_52 rfl (k243 g21 (by decide) hn) (fun z => z.elim (by decide) g22) ?_
        refine x_isub (q := 54) dX12_weightOf_53 rfl ?_
        refine x_i2l (q := 55) dX12_weightOf_54 rfl ?_
        refine x_sub (ls2 := [(0, .ref v0), (1, .int v1), (2, .int v2), (3, .int r16)]) [1, 2, 3, 0] rfl ?_
        exact s_X12_weightOf_b55 h v0 v1 v2 r16 ((((100 : Int32) - (kI h (kR h v0 38) 2))).toInt64) hn H
    · refine x_icmp_lt_f (q := 24) dX12_weightOf_21 (t := 26) (by decide) rfl g15 ?_
      refine x_lconst (q := 25) (v := (0 : Int64)) dX12_weightOf_24 rfl (by decide) ?_
      cases H
      exact x_end ⟨dX12_weightOf_25, rfl, rfl⟩
theorem s_X12_weightOf {Z : Nat → (Nat → Nat) → State → Prop} (h : KH) (v0 : Nat) (v1 : Int32) (v2 : Int32) {t : Int64} (hn : h.1 = 243) (H : f_X12_weightOf h v0 v1 v2 = some t) : KM Z yX12_weightOf cX12_weightOf 10 (some .long) 3 [.ref v0, .int v1, .int v2] h (some (.long t)) h :=
  kx_l (own := RX12) (ini := false) (by decide +kernel) (by decide +kernel) rfl (Nat.le_of_ble_eq_true rfl) (s0_X12_weightOf h v0 v1 v2 hn H)
theorem dX12_laysYields_0 : decode cX12_laysYields 0 = .ok (.iconst 0, 1) := by decide +kernel
theorem dX12_laysYields_1 : decode cX12_laysYields 1 = .ok (.istore_n 1, 1) := by decide +kernel
theorem dX12_laysYields_2 : decode cX12_laysYields 2 = .ok (.iload_n 1, 1) := by decide +kernel
theorem dX12_laysYields_3 : decode cX12_laysYields 3 = .ok (.aload_n 0, 1) := by decide +kernel
theorem dX12_laysYields_4 : decode cX12_laysYields 4 = .ok (.invokevirtual 367, 3) := by decide +kernel
theorem dX12_laysYields_7 : decode cX12_laysYields 7 = .ok (.if_icmp .ge 66, 3) := by decide +kernel
theorem dX12_laysYields_10 : decode cX12_laysYields 10 = .ok (.iconst 0, 1) := by decide +kernel
theorem dX12_laysYields_11 : decode cX12_laysYields 11 = .ok (.istore_n 2, 1) := by decide +kernel
theorem dX12_laysYields_12 : decode cX12_laysYields 12 = .ok (.iload_n 2, 1) := by decide +kernel
theorem dX12_laysYields_13 : decode cX12_laysYields 13 = .ok (.aload_n 0, 1) := by decide +kernel
theorem dX12_laysYields_14 : decode cX12_laysYields 14 = .ok (.invokevirtual 364, 3) := by decide +kernel
theorem dX12_laysYields_17 : decode cX12_laysYields 17 = .ok (.if_icmp .ge 50, 3) := by decide +kernel
theorem dX12_laysYields_20 : decode cX12_laysYields 20 = .ok (.iconst 0, 1) := by decide +kernel
theorem dX12_laysYields_21 : decode cX12_laysYields 21 = .ok (.istore_n 3, 1) := by decide +kernel
theorem dX12_laysYields_22 : decode cX12_laysYields 22 = .ok (.iload_n 3, 1) := by decide +kernel
theorem dX12_laysYields_23 : decode cX12_laysYields 23 = .ok (.iconst 2, 1) := by decide +kernel
theorem dX12_laysYields_24 : decode cX12_laysYields 24 = .ok (.if_icmp .ge 37, 3) := by decide +kernel
theorem dX12_laysYields_27 : decode cX12_laysYields 27 = .ok (.aload_n 0, 1) := by decide +kernel
theorem dX12_laysYields_28 : decode cX12_laysYields 28 = .ok (.getfield 121, 3) := by decide +kernel
theorem dX12_laysYields_31 : decode cX12_laysYields 31 = .ok (.bipush 36, 2) := by decide +kernel
theorem dX12_laysYields_33 : decode cX12_laysYields 33 = .ok (.iload_n 3, 1) := by decide +kernel
theorem dX12_laysYields_34 : decode cX12_laysYields 34 = .ok (.imul, 1) := by decide +kernel
theorem dX12_laysYields_35 : decode cX12_laysYields 35 = .ok (.bipush 6, 2) := by decide +kernel
theorem dX12_laysYields_37 : decode cX12_laysYields 37 = .ok (.iload_n 1, 1) := by decide +kernel
theorem dX12_laysYields_38 : decode cX12_laysYields 38 = .ok (.imul, 1) := by decide +kernel
theorem dX12_laysYields_39 : decode cX12_laysYields 39 = .ok (.iadd, 1) := by decide +kernel
theorem dX12_laysYields_40 : decode cX12_laysYields 40 = .ok (.iload_n 2, 1) := by decide +kernel
theorem dX12_laysYields_41 : decode cX12_laysYields 41 = .ok (.iadd, 1) := by decide +kernel
theorem dX12_laysYields_42 : decode cX12_laysYields 42 = .ok (.aload_n 0, 1) := by decide +kernel
theorem dX12_laysYields_43 : decode cX12_laysYields 43 = .ok (.iload_n 2, 1) := by decide +kernel
theorem dX12_laysYields_44 : decode cX12_laysYields 44 = .ok (.iload_n 1, 1) := by decide +kernel
theorem dX12_laysYields_45 : decode cX12_laysYields 45 = .ok (.iload_n 3, 1) := by decide +kernel
theorem dX12_laysYields_46 : decode cX12_laysYields 46 = .ok (.aload_n 0, 1) := by decide +kernel
theorem dX12_laysYields_47 : decode cX12_laysYields 47 = .ok (.iload_n 1, 1) := by decide +kernel
theorem dX12_laysYields_48 : decode cX12_laysYields 48 = .ok (.invokevirtual 412, 3) := by decide +kernel
theorem dX12_laysYields_51 : decode cX12_laysYields 51 = .ok (.invokevirtual 415, 3) := by decide +kernel
theorem dX12_laysYields_54 : decode cX12_laysYields 54 = .ok (.iastore, 1) := by decide +kernel
theorem dX12_laysYields_55 : decode cX12_laysYields 55 = .ok (.iinc 3 1, 3) := by decide +kernel
theorem dX12_laysYields_58 : decode cX12_laysYields 58 = .ok (.goto (-36), 3) := by decide +kernel
theorem dX12_laysYields_61 : decode cX12_laysYields 61 = .ok (.iinc 2 1, 3) := by decide +kernel
theorem dX12_laysYields_64 : decode cX12_laysYields 64 = .ok (.goto (-52), 3) := by decide +kernel
theorem dX12_laysYields_67 : decode cX12_laysYields 67 = .ok (.iinc 1 1, 3) := by decide +kernel
theorem dX12_laysYields_70 : decode cX12_laysYields 70 = .ok (.goto (-68), 3) := by decide +kernel
theorem dX12_laysYields_73 : decode cX12_laysYields 73 = .ok (.return_, 1) := by decide +kernel
theorem kc_RX12_415 : Cond.methodLink RX12 415 yX12_yieldsAt ∈ ktG ∧ (Cond.instanceMethod yX12_yieldsAt ∈ ktG ∧ Cond.selects yX12_yieldsAt.cls yX12_yieldsAt yX12_yieldsAt ∈ ktG) ∧ Cond.initialized yX12_yieldsAt.cls ∈ ktG ∧ Cond.code yX12_yieldsAt cX12_yieldsAt 7 (some .int) ∈ ktG := ⟨(kwm 1746 (by decide +kernel) (by decide +kernel)), ⟨(kwm 1748 (by decide +kernel) (by decide +kernel)), (kwm 85 (by decide +kernel) (by decide +kernel))⟩, (kwm 139 (by decide +kernel) (by decide +kernel)), kwm 1749 (by decide +kernel) (by decide +kernel)⟩
theorem kh_X12_yieldsAt : yX12_yieldsAt.cls ≠ "java/lang/invoke/MethodHandle" ∧ yX12_yieldsAt.cls ≠ "java/lang/invoke/VarHandle" ∧ (parseMethodDescriptor yX12_yieldsAt.desc).map (fun d => d.parameters.length) = some 4 := by decide +kernel
def E_X12_laysYields_l2 (v0 : Nat) : KH → Nat → List (Nat × Value) → List Value → KH → Prop := fun (e : KH) pc ls st hh => pc = 73 ∧ ls = [] ∧ st = [] ∧ e = hh
def B_X12_laysYields_l2 (v0 : Nat) : ((Int32 × KH) ⊕ (KH)) → Nat → List (Nat × Value) → List Value → KH → Prop := Sum.elim (fun (s : Int32 × KH) pc ls st hh => pc = 2 ∧ ls = [(0, .ref v0), (1, .int s.1)] ∧ st = [] ∧ hh = s.2) (E_X12_laysYields_l2 v0)
def E_X12_laysYields_l12 (v0 : Nat) (v1 : Int32) : KH → Nat → List (Nat × Value) → List Value → KH → Prop := fun (e : KH) pc ls st hh => pc = 67 ∧ ls = [(0, .ref v0), (1, .int v1)] ∧ st = [] ∧ e = hh
def B_X12_laysYields_l12 (v0 : Nat) (v1 : Int32) : ((Int32 × KH) ⊕ (KH)) → Nat → List (Nat × Value) → List Value → KH → Prop := Sum.elim (fun (s : Int32 × KH) pc ls st hh => pc = 12 ∧ ls = [(0, .ref v0), (1, .int v1), (2, .int s.1)] ∧ st = [] ∧ hh = s.2) (E_X12_laysYields_l12 v0 v1)
def E_X12_laysYields_l22 (v0 : Nat) (v1 : Int32) (v2 : Int32) : KH → Nat → List (Nat × Value) → List Value → KH → Prop := fun (e : KH) pc ls st hh => pc = 61 ∧ ls = [(0, .ref v0), (1, .int v1), (2, .int v2)] ∧ st = [] ∧ e = hh
def B_X12_laysYields_l22 (v0 : Nat) (v1 : Int32) (v2 : Int32) : ((Int32 × KH) ⊕ (KH)) → Nat → List (Nat × Value) → List Value → KH → Prop := Sum.elim (fun (s : Int32 × KH) pc ls st hh => pc = 22 ∧ ls = [(0, .ref v0), (1, .int v1), (2, .int v2), (3, .int s.1)] ∧ st = [] ∧ hh = s.2) (E_X12_laysYields_l22 v0 v1 v2)
def f_X12_laysYields_l22 (v0 : Nat) (v1 : Int32) (v2 : Int32) (s : Int32 × KH) : Option ((Int32 × KH) ⊕ (KH)) :=
  if (2 : Int32) ≤ s.1 then
  some (.inr s.2)
  else
  if kkind v0 = 12 then if (kR s.2 v0 50) < 999999 then kb (f_X12_heardOf s.2 v0 v1) fun r4 =>
  kb (f_X12_yieldsAt s.2 v0 v2 v1 s.1 r4) fun r7 =>
  if kkind (kR s.2 v0 50) = 20 then if (((((36 : Int32) * s.1) + ((6 : Int32) * v1)) + v2) < 0 ∨ klen (kR s.2 v0 50) ≤ (((((36 : Int32) * s.1) + ((6 : Int32) * v1)) + v2)).toNatClampNeg) then none else kl (ksI r7.2 (kR s.2 v0 50) ((((((36 : Int32) * s.1) + ((6 : Int32) * v1)) + v2)).toNatClampNeg) r7.1) fun h13 =>
  kl (s.1 + (1 : Int32)) fun x16 =>
  some (.inl (x16, h13)) else none else none else none
set_option maxHeartbeats 4000000 in
set_option maxRecDepth 100000 in
theorem s_X12_laysYields_l22 {Z : Nat → (Nat → Nat) → State → Prop} (v0 : Nat) (v1 : Int32) (v2 : Int32) (s : Int32 × KH) (t : (Int32 × KH) ⊕ (KH)) (hn : (s.2).1 = 243) (H : f_X12_laysYields_l22 v0 v1 v2 s = some t) : KX Z RX12 cX12_laysYields 4 false 4 (B_X12_laysYields_l22 v0 v1 v2 t) 22 [(0, .ref v0), (1, .int v1), (2, .int v2), (3, .int s.1)] [] s.2 := by
  unfold f_X12_laysYields_l22 at H
  refine x_iload_n (q := 23) dX12_laysYields_22 rfl rfl ?_
  refine x_iconst (q := 24) (v := (2 : Int32)) dX12_laysYields_23 rfl (by decide) ?_
  replace H := kite H; rcases H with ⟨g1, H⟩ | ⟨g1, H⟩
  · refine x_icmp_ge_t dX12_laysYields_24 (q := 61) (by decide) g1 ?_
    cases H
    refine x_sub (ls2 := [(0, .ref v0), (1, .int v1), (2, .int v2)]) [0, 1, 2] rfl ?_
    exact x_end (x_cfg rfl)
  · refine x_icmp_ge_f (q := 27) dX12_laysYields_24 (t := 61) (by decide) rfl g1 ?_
    refine x_aload_n (q := 28) dX12_laysYields_27 rfl rfl ?_
    replace H := kif H; obtain ⟨g2, H⟩ := H
    replace H := kif H; obtain ⟨g3, H⟩ := H
    refine x_getR (q := 31) dX12_laysYields_28 rfl kl_RX12_121 rfl (k243 g2 (by decide) hn) g3 ?_
    refine x_bipush (q := 33) (v := (36 : Int32)) dX12_laysYields_31 rfl (by decide) ?_
    refine x_iload_n (q := 34) dX12_laysYields_33 rfl rfl ?_
    refine x_imul (q := 35) dX12_laysYields_34 rfl ?_
    refine x_bipush (q := 37) (v := (6 : Int32)) dX12_laysYields_35 rfl (by decide) ?_
    refine x_iload_n (q := 38) dX12_laysYields_37 rfl rfl ?_
    refine x_imul (q := 39) dX12_laysYields_38 rfl ?_
    refine x_iadd (q := 40) dX12_laysYields_39 rfl ?_
    refine x_iload_n (q := 41) dX12_laysYields_40 rfl rfl ?_
    refine x_iadd (q := 42) dX12_laysYields_41 rfl ?_
    refine x_aload_n (q := 43) dX12_laysYields_42 rfl rfl ?_
    refine x_iload_n (q := 44) dX12_laysYields_43 rfl rfl ?_
    refine x_iload_n (q := 45) dX12_laysYields_44 rfl rfl ?_
    refine x_iload_n (q := 46) dX12_laysYields_45 rfl rfl ?_
    refine x_aload_n (q := 47) dX12_laysYields_46 rfl rfl ?_
    refine x_iload_n (q := 48) dX12_laysYields_47 rfl rfl ?_
    replace H := kbe H; obtain ⟨r4, c5, H⟩ := H
    have m6 := s_X12_heardOf (Z := Z) s.2 v0 v1 hn c5
    refine x_callV (q := 51) (as := [.int v1]) (rest := [.int s.1, .int v1, .int v2, .ref v0, .int ((((36 : Int32) * s.1) + ((6 : Int32) * v1)) + v2), .ref (kR s.2 v0 50)]) dX12_laysYields_48 rfl kc_RX12_412 kh_X12_heardOf (by decide) (Nat.le_of_ble_eq_true rfl) m6 (ci := 12) (by exact ⟨rfl, by decide⟩) (k243 g2 (by decide) hn) ?_
    replace H := kbe H; obtain ⟨r7, c8, H⟩ := H
    have m9 := s_X12_yieldsAt (Z := Z) s.2 v0 v2 v1 s.1 r4 hn c8
    refine x_callV (q := 54) (as := [.int v2, .int v1, .int s.1, .int r4]) (rest := [.int ((((36 : Int32) * s.1) + ((6 : Int32) * v1)) + v2), .ref (kR s.2 v0 50)]) dX12_laysYields_51 rfl kc_RX12_415 kh_X12_yieldsAt (by decide) (Nat.le_of_ble_eq_true rfl) m9 (ci := 12) (by exact ⟨rfl, by decide⟩) (k243 g2 (by decide) hn) ?_
    have n10 : (r7.2).1 = 243 := m9.1.full hn
    replace H := kif H; obtain ⟨g11, H⟩ := H
    replace H := kifn H; obtain ⟨g12, H⟩ := H
    replace H := kle H; obtain ⟨h13, q14, H⟩ := H
    refine x_iast (q := 55) dX12_laysYields_54 rfl (k243 g11 (by decide) n10) g12 ?_
    refine x_nmH q14 ?_
    have n15 : h13.1 = 243 := by rw [q14]; exact n10
    replace H := kle H; obtain ⟨x16, q17, H⟩ := H
    refine x_iinc (q := 58) (i := 3) (ls2 := [(3, .int x16), (0, .ref v0), (1, .int v1), (2, .int v2)]) dX12_laysYields_55 rfl rfl (by decide) (by rw [q17]; rfl) ?_
    refine x_goto dX12_laysYields_58 (q := 22) (by decide) ?_
    cases H
    refine x_sub (ls2 := [(0, .ref v0), (1, .int v1), (2, .int v2), (3, .int x16)]) [1, 2, 3, 0] rfl ?_
    exact x_end (x_cfg rfl)
theorem sl_X12_laysYields_l22 {Z : Nat → (Nat → Nat) → State → Prop} (v0 : Nat) (v1 : Int32) (v2 : Int32) (n : Nat) (s : Int32 × KH) (r : KH) (hn : (s.2).1 = 243) (H : kloop (f_X12_laysYields_l22 v0 v1 v2) n s = some r) : KX Z RX12 cX12_laysYields 4 false 4 (E_X12_laysYields_l22 v0 v1 v2 r) 22 [(0, .ref v0), (1, .int v1), (2, .int v2), (3, .int s.1)] [] s.2 :=
  k_loop (ls := (fun (s : Int32 × KH) => ([(0, .ref v0), (1, .int v1), (2, .int v2), (3, .int s.1)] : List (Nat × Value)))) (hp := (fun (s : Int32 × KH) => (s.2 : KH))) (G := E_X12_laysYields_l22 v0 v1 v2) (fun s t hn H => s_X12_laysYields_l22 v0 v1 v2 s t hn H) n s r hn H
def f_X12_laysYields_l12 (v0 : Nat) (v1 : Int32) (s : Int32 × KH) : Option ((Int32 × KH) ⊕ (KH)) :=
  if kkind v0 = 12 then kb (f_X12_kindMany s.2 v0) fun r2 =>
  if r2 ≤ s.1 then
  some (.inr s.2)
  else
  kb (kloop (f_X12_laysYields_l22 v0 v1 s.1) KF ((0 : Int32), s.2)) fun e6 =>
  kl (s.1 + (1 : Int32)) fun x9 =>
  some (.inl (x9, e6)) else none
set_option maxHeartbeats 4000000 in
set_option maxRecDepth 100000 in
theorem s_X12_laysYields_l12 {Z : Nat → (Nat → Nat) → State → Prop} (v0 : Nat) (v1 : Int32) (s : Int32 × KH) (t : (Int32 × KH) ⊕ (KH)) (hn : (s.2).1 = 243) (H : f_X12_laysYields_l12 v0 v1 s = some t) : KX Z RX12 cX12_laysYields 4 false 4 (B_X12_laysYields_l12 v0 v1 t) 12 [(0, .ref v0), (1, .int v1), (2, .int s.1)] [] s.2 := by
  unfold f_X12_laysYields_l12 at H
  refine x_iload_n (q := 13) dX12_laysYields_12 rfl rfl ?_
  refine x_aload_n (q := 14) dX12_laysYields_13 rfl rfl ?_
  replace H := kif H; obtain ⟨g1, H⟩ := H
  replace H := kbe H; obtain ⟨r2, c3, H⟩ := H
  have m4 := s_X12_kindMany (Z := Z) s.2 v0 hn c3
  refine x_callV (q := 17) (as := []) (rest := [.int s.1]) dX12_laysYields_14 rfl kc_RX12_364 kh_X12_kindMany (by decide) (Nat.le_of_ble_eq_true rfl) m4 (ci := 12) (by exact ⟨rfl, by decide⟩) (k243 g1 (by decide) hn) ?_
  replace H := kite H; rcases H with ⟨g5, H⟩ | ⟨g5, H⟩
  · refine x_icmp_ge_t dX12_laysYields_17 (q := 67) (by decide) g5 ?_
    cases H
    refine x_sub (ls2 := [(0, .ref v0), (1, .int v1)]) [0, 1] rfl ?_
    exact x_end (x_cfg rfl)
  · refine x_icmp_ge_f (q := 20) dX12_laysYields_17 (t := 67) (by decide) rfl g5 ?_
    refine x_iconst (q := 21) (v := (0 : Int32)) dX12_laysYields_20 rfl (by decide) ?_
    refine x_istore_n (q := 22) (i := 3) (ls2 := [(3, .int (0 : Int32)), (0, .ref v0), (1, .int v1), (2, .int s.1)]) dX12_laysYields_21 rfl rfl (by decide) rfl ?_
    refine x_sub (ls2 := [(0, .ref v0), (1, .int v1), (2, .int s.1), (3, .int (0 : Int32))]) [1, 2, 3, 0] rfl ?_
    replace H := kbe H; obtain ⟨e6, c7, H⟩ := H
    refine x_app (sl_X12_laysYields_l22 v0 v1 s.1 KF ((0 : Int32), s.2) e6 hn c7) fun pc2 ls2 st2 h2 hg m8 => ?_
    obtain ⟨rfl, rfl, rfl, rfl⟩ := hg
    replace H := kle H; obtain ⟨x9, q10, H⟩ := H
    refine x_iinc (q := 64) (i := 2) (ls2 := [(2, .int x9), (0, .ref v0), (1, .int v1)]) dX12_laysYields_61 rfl rfl (by decide) (by rw [q10]; rfl) ?_
    refine x_goto dX12_laysYields_64 (q := 12) (by decide) ?_
    cases H
    refine x_sub (ls2 := [(0, .ref v0), (1, .int v1), (2, .int x9)]) [1, 2, 0] rfl ?_
    exact x_end (x_cfg rfl)
theorem sl_X12_laysYields_l12 {Z : Nat → (Nat → Nat) → State → Prop} (v0 : Nat) (v1 : Int32) (n : Nat) (s : Int32 × KH) (r : KH) (hn : (s.2).1 = 243) (H : kloop (f_X12_laysYields_l12 v0 v1) n s = some r) : KX Z RX12 cX12_laysYields 4 false 4 (E_X12_laysYields_l12 v0 v1 r) 12 [(0, .ref v0), (1, .int v1), (2, .int s.1)] [] s.2 :=
  k_loop (ls := (fun (s : Int32 × KH) => ([(0, .ref v0), (1, .int v1), (2, .int s.1)] : List (Nat × Value)))) (hp := (fun (s : Int32 × KH) => (s.2 : KH))) (G := E_X12_laysYields_l12 v0 v1) (fun s t hn H => s_X12_laysYields_l12 v0 v1 s t hn H) n s r hn H
def f_X12_laysYields_l2 (v0 : Nat) (s : Int32 × KH) : Option ((Int32 × KH) ⊕ (KH)) :=
  if kkind v0 = 12 then kb (f_X12_testMany s.2 v0) fun r2 =>
  if r2 ≤ s.1 then
  some (.inr s.2)
  else
  kb (kloop (f_X12_laysYields_l12 v0 s.1) KF ((0 : Int32), s.2)) fun e6 =>
  kl (s.1 + (1 : Int32)) fun x9 =>
  some (.inl (x9, e6)) else none
set_option maxHeartbeats 4000000 in
set_option maxRecDepth 100000 in
theorem s_X12_laysYields_l2 {Z : Nat → (Nat → Nat) → State → Prop} (v0 : Nat) (s : Int32 × KH) (t : (Int32 × KH) ⊕ (KH)) (hn : (s.2).1 = 243) (H : f_X12_laysYields_l2 v0 s = some t) : KX Z RX12 cX12_laysYields 4 false 4 (B_X12_laysYields_l2 v0 t) 2 [(0, .ref v0), (1, .int s.1)] [] s.2 := by
  unfold f_X12_laysYields_l2 at H
  refine x_iload_n (q := 3) dX12_laysYields_2 rfl rfl ?_
  refine x_aload_n (q := 4) dX12_laysYields_3 rfl rfl ?_
  replace H := kif H; obtain ⟨g1, H⟩ := H
  replace H := kbe H; obtain ⟨r2, c3, H⟩ := H
  have m4 := s_X12_testMany (Z := Z) s.2 v0 hn c3
  refine x_callV (q := 7) (as := []) (rest := [.int s.1]) dX12_laysYields_4 rfl kc_RX12_367 kh_X12_testMany (by decide) (Nat.le_of_ble_eq_true rfl) m4 (ci := 12) (by exact ⟨rfl, by decide⟩) (k243 g1 (by decide) hn) ?_
  replace H := kite H; rcases H with ⟨g5, H⟩ | ⟨g5, H⟩
  · refine x_icmp_ge_t dX12_laysYields_7 (q := 73) (by decide) g5 ?_
    cases H
    refine x_sub (ls2 := []) [] rfl ?_
    exact x_end (x_cfg rfl)
  · refine x_icmp_ge_f (q := 10) dX12_laysYields_7 (t := 73) (by decide) rfl g5 ?_
    refine x_iconst (q := 11) (v := (0 : Int32)) dX12_laysYields_10 rfl (by decide) ?_
    refine x_istore_n (q := 12) (i := 2) (ls2 := [(2, .int (0 : Int32)), (0, .ref v0), (1, .int s.1)]) dX12_laysYields_11 rfl rfl (by decide) rfl ?_
    refine x_sub (ls2 := [(0, .ref v0), (1, .int s.1), (2, .int (0 : Int32))]) [1, 2, 0] rfl ?_
    replace H := kbe H; obtain ⟨e6, c7, H⟩ := H
    refine x_app (sl_X12_laysYields_l12 v0 s.1 KF ((0 : Int32), s.2) e6 hn c7) fun pc2 ls2 st2 h2 hg m8 => ?_
    obtain ⟨rfl, rfl, rfl, rfl⟩ := hg
    replace H := kle H; obtain ⟨x9, q10, H⟩ := H
    refine x_iinc (q := 70) (i := 1) (ls2 := [(1, .int x9), (0, .ref v0)]) dX12_laysYields_67 rfl rfl (by decide) (by rw [q10]; rfl) ?_
    refine x_goto dX12_laysYields_70 (q := 2) (by decide) ?_
    cases H
    refine x_sub (ls2 := [(0, .ref v0), (1, .int x9)]) [1, 0] rfl ?_
    exact x_end (x_cfg rfl)
theorem sl_X12_laysYields_l2 {Z : Nat → (Nat → Nat) → State → Prop} (v0 : Nat) (n : Nat) (s : Int32 × KH) (r : KH) (hn : (s.2).1 = 243) (H : kloop (f_X12_laysYields_l2 v0) n s = some r) : KX Z RX12 cX12_laysYields 4 false 4 (E_X12_laysYields_l2 v0 r) 2 [(0, .ref v0), (1, .int s.1)] [] s.2 :=
  k_loop (ls := (fun (s : Int32 × KH) => ([(0, .ref v0), (1, .int s.1)] : List (Nat × Value)))) (hp := (fun (s : Int32 × KH) => (s.2 : KH))) (G := E_X12_laysYields_l2 v0) (fun s t hn H => s_X12_laysYields_l2 v0 s t hn H) n s r hn H
def f_X12_laysYields (h : KH) (v0 : Nat) : Option (KH) :=
  kb (kloop (f_X12_laysYields_l2 v0) KF ((0 : Int32), h)) fun e1 =>
  some e1
set_option maxHeartbeats 4000000 in
set_option maxRecDepth 100000 in
theorem s0_X12_laysYields {Z : Nat → (Nat → Nat) → State → Prop} (h : KH) (v0 : Nat) {t : KH} (hn : h.1 = 243) (H : f_X12_laysYields h v0 = some t) : KX Z RX12 cX12_laysYields 4 false 4 (KRv cX12_laysYields t) 0 [(0, .ref v0)] [] h := by
  unfold f_X12_laysYields at H
  refine x_iconst (q := 1) (v := (0 : Int32)) dX12_laysYields_0 rfl (by decide) ?_
  refine x_istore_n (q := 2) (i := 1) (ls2 := [(1, .int (0 : Int32)), (0, .ref v0)]) dX12_laysYields_1 rfl rfl (by decide) rfl ?_
  refine x_sub (ls2 := [(0, .ref v0), (1, .int (0 : Int32))]) [1, 0] rfl ?_
  replace H := kbe H; obtain ⟨e1, c2, H⟩ := H
  refine x_app (sl_X12_laysYields_l2 v0 KF ((0 : Int32), h) e1 hn c2) fun pc2 ls2 st2 h2 hg m3 => ?_
  obtain ⟨rfl, rfl, rfl, rfl⟩ := hg
  cases H
  exact x_end ⟨dX12_laysYields_73, rfl, rfl⟩
theorem s_X12_laysYields {Z : Nat → (Nat → Nat) → State → Prop} (h : KH) (v0 : Nat) {t : KH} (hn : h.1 = 243) (H : f_X12_laysYields h v0 = some t) : KM Z yX12_laysYields cX12_laysYields 4 none 4 [.ref v0] h none t :=
  kx_v (own := RX12) (ini := false) (by decide +kernel) (by decide +kernel) rfl (Nat.le_of_ble_eq_true rfl) (s0_X12_laysYields h v0 hn H)
theorem dX12_laysWorlds_0 : decode cX12_laysWorlds 0 = .ok (.aload_n 0, 1) := by decide +kernel
theorem dX12_laysWorlds_1 : decode cX12_laysWorlds 1 = .ok (.invokevirtual 419, 3) := by decide +kernel
theorem dX12_laysWorlds_4 : decode cX12_laysWorlds 4 = .ok (.aload_n 0, 1) := by decide +kernel
theorem dX12_laysWorlds_5 : decode cX12_laysWorlds 5 = .ok (.lconst 0, 1) := by decide +kernel
theorem dX12_laysWorlds_6 : decode cX12_laysWorlds 6 = .ok (.putfield 422, 3) := by decide +kernel
theorem dX12_laysWorlds_9 : decode cX12_laysWorlds 9 = .ok (.iconst 0, 1) := by decide +kernel
theorem dX12_laysWorlds_10 : decode cX12_laysWorlds 10 = .ok (.istore_n 2, 1) := by decide +kernel
theorem dX12_laysWorlds_11 : decode cX12_laysWorlds 11 = .ok (.iload_n 2, 1) := by decide +kernel
theorem dX12_laysWorlds_12 : decode cX12_laysWorlds 12 = .ok (.bipush 72, 2) := by decide +kernel
theorem dX12_laysWorlds_14 : decode cX12_laysWorlds 14 = .ok (.if_icmp .ge 89, 3) := by decide +kernel
theorem dX12_laysWorlds_17 : decode cX12_laysWorlds 17 = .ok (.aload_n 0, 1) := by decide +kernel
theorem dX12_laysWorlds_18 : decode cX12_laysWorlds 18 = .ok (.getfield 136, 3) := by decide +kernel
theorem dX12_laysWorlds_21 : decode cX12_laysWorlds 21 = .ok (.iload_n 2, 1) := by decide +kernel
theorem dX12_laysWorlds_22 : decode cX12_laysWorlds 22 = .ok (.iconst 0, 1) := by decide +kernel
theorem dX12_laysWorlds_23 : decode cX12_laysWorlds 23 = .ok (.iastore, 1) := by decide +kernel
theorem dX12_laysWorlds_24 : decode cX12_laysWorlds 24 = .ok (.iconst 0, 1) := by decide +kernel
theorem dX12_laysWorlds_25 : decode cX12_laysWorlds 25 = .ok (.istore_n 3, 1) := by decide +kernel
theorem dX12_laysWorlds_26 : decode cX12_laysWorlds 26 = .ok (.iload_n 3, 1) := by decide +kernel
theorem dX12_laysWorlds_27 : decode cX12_laysWorlds 27 = .ok (.aload_n 0, 1) := by decide +kernel
theorem dX12_laysWorlds_28 : decode cX12_laysWorlds 28 = .ok (.invokevirtual 367, 3) := by decide +kernel
theorem dX12_laysWorlds_31 : decode cX12_laysWorlds 31 = .ok (.if_icmp .ge 39, 3) := by decide +kernel
theorem dX12_laysWorlds_34 : decode cX12_laysWorlds 34 = .ok (.aload_n 0, 1) := by decide +kernel
theorem dX12_laysWorlds_35 : decode cX12_laysWorlds 35 = .ok (.getfield 136, 3) := by decide +kernel
theorem dX12_laysWorlds_38 : decode cX12_laysWorlds 38 = .ok (.iload_n 2, 1) := by decide +kernel
theorem dX12_laysWorlds_39 : decode cX12_laysWorlds 39 = .ok (.dup2, 1) := by decide +kernel
theorem dX12_laysWorlds_40 : decode cX12_laysWorlds 40 = .ok (.iaload, 1) := by decide +kernel
theorem dX12_laysWorlds_41 : decode cX12_laysWorlds 41 = .ok (.aload_n 0, 1) := by decide +kernel
theorem dX12_laysWorlds_42 : decode cX12_laysWorlds 42 = .ok (.iload_n 2, 1) := by decide +kernel
theorem dX12_laysWorlds_43 : decode cX12_laysWorlds 43 = .ok (.iconst 0, 1) := by decide +kernel
theorem dX12_laysWorlds_44 : decode cX12_laysWorlds 44 = .ok (.iload_n 3, 1) := by decide +kernel
theorem dX12_laysWorlds_45 : decode cX12_laysWorlds 45 = .ok (.invokevirtual 425, 3) := by decide +kernel
theorem dX12_laysWorlds_48 : decode cX12_laysWorlds 48 = .ok (.iconst 2, 1) := by decide +kernel
theorem dX12_laysWorlds_49 : decode cX12_laysWorlds 49 = .ok (.aload_n 0, 1) := by decide +kernel
theorem dX12_laysWorlds_50 : decode cX12_laysWorlds 50 = .ok (.iload_n 2, 1) := by decide +kernel
theorem dX12_laysWorlds_51 : decode cX12_laysWorlds 51 = .ok (.iconst 1, 1) := by decide +kernel
theorem dX12_laysWorlds_52 : decode cX12_laysWorlds 52 = .ok (.iload_n 3, 1) := by decide +kernel
theorem dX12_laysWorlds_53 : decode cX12_laysWorlds 53 = .ok (.invokevirtual 425, 3) := by decide +kernel
theorem dX12_laysWorlds_56 : decode cX12_laysWorlds 56 = .ok (.imul, 1) := by decide +kernel
theorem dX12_laysWorlds_57 : decode cX12_laysWorlds 57 = .ok (.iadd, 1) := by decide +kernel
theorem dX12_laysWorlds_58 : decode cX12_laysWorlds 58 = .ok (.iconst 2, 1) := by decide +kernel
theorem dX12_laysWorlds_59 : decode cX12_laysWorlds 59 = .ok (.iload_n 3, 1) := by decide +kernel
theorem dX12_laysWorlds_60 : decode cX12_laysWorlds 60 = .ok (.imul, 1) := by decide +kernel
theorem dX12_laysWorlds_61 : decode cX12_laysWorlds 61 = .ok (.ishl, 1) := by decide +kernel
theorem dX12_laysWorlds_62 : decode cX12_laysWorlds 62 = .ok (.ior, 1) := by decide +kernel
theorem dX12_laysWorlds_63 : decode cX12_laysWorlds 63 = .ok (.iastore, 1) := by decide +kernel
theorem dX12_laysWorlds_64 : decode cX12_laysWorlds 64 = .ok (.iinc 3 1, 3) := by decide +kernel
theorem dX12_laysWorlds_67 : decode cX12_laysWorlds 67 = .ok (.goto (-41), 3) := by decide +kernel
theorem dX12_laysWorlds_70 : decode cX12_laysWorlds 70 = .ok (.aload_n 0, 1) := by decide +kernel
theorem dX12_laysWorlds_71 : decode cX12_laysWorlds 71 = .ok (.getfield 133, 3) := by decide +kernel
theorem dX12_laysWorlds_74 : decode cX12_laysWorlds 74 = .ok (.iload_n 2, 1) := by decide +kernel
theorem dX12_laysWorlds_75 : decode cX12_laysWorlds 75 = .ok (.aload_n 0, 1) := by decide +kernel
theorem dX12_laysWorlds_76 : decode cX12_laysWorlds 76 = .ok (.iload_n 2, 1) := by decide +kernel
theorem dX12_laysWorlds_77 : decode cX12_laysWorlds 77 = .ok (.iload_n 1, 1) := by decide +kernel
theorem dX12_laysWorlds_78 : decode cX12_laysWorlds 78 = .ok (.invokevirtual 429, 3) := by decide +kernel
theorem dX12_laysWorlds_81 : decode cX12_laysWorlds 81 = .ok (.lastore, 1) := by decide +kernel
theorem dX12_laysWorlds_82 : decode cX12_laysWorlds 82 = .ok (.aload_n 0, 1) := by decide +kernel
theorem dX12_laysWorlds_83 : decode cX12_laysWorlds 83 = .ok (.dup, 1) := by decide +kernel
theorem dX12_laysWorlds_84 : decode cX12_laysWorlds 84 = .ok (.getfield 422, 3) := by decide +kernel
theorem dX12_laysWorlds_87 : decode cX12_laysWorlds 87 = .ok (.aload_n 0, 1) := by decide +kernel
theorem dX12_laysWorlds_88 : decode cX12_laysWorlds 88 = .ok (.getfield 133, 3) := by decide +kernel
theorem dX12_laysWorlds_91 : decode cX12_laysWorlds 91 = .ok (.iload_n 2, 1) := by decide +kernel
theorem dX12_laysWorlds_92 : decode cX12_laysWorlds 92 = .ok (.laload, 1) := by decide +kernel
theorem dX12_laysWorlds_93 : decode cX12_laysWorlds 93 = .ok (.ladd, 1) := by decide +kernel
theorem dX12_laysWorlds_94 : decode cX12_laysWorlds 94 = .ok (.putfield 422, 3) := by decide +kernel
theorem dX12_laysWorlds_97 : decode cX12_laysWorlds 97 = .ok (.iinc 2 1, 3) := by decide +kernel
theorem dX12_laysWorlds_100 : decode cX12_laysWorlds 100 = .ok (.goto (-89), 3) := by decide +kernel
theorem dX12_laysWorlds_103 : decode cX12_laysWorlds 103 = .ok (.return_, 1) := by decide +kernel
theorem kc_RX12_419 : Cond.methodLink RX12 419 yX12_laysYields ∈ ktG ∧ (Cond.instanceMethod yX12_laysYields ∈ ktG ∧ Cond.selects yX12_laysYields.cls yX12_laysYields yX12_laysYields ∈ ktG) ∧ Cond.initialized yX12_laysYields.cls ∈ ktG ∧ Cond.code yX12_laysYields cX12_laysYields 4 none ∈ ktG := ⟨(kwm 1783 (by decide +kernel) (by decide +kernel)), ⟨(kwm 1785 (by decide +kernel) (by decide +kernel)), (kwm 90 (by decide +kernel) (by decide +kernel))⟩, (kwm 139 (by decide +kernel) (by decide +kernel)), kwm 1786 (by decide +kernel) (by decide +kernel)⟩
theorem kh_X12_laysYields : yX12_laysYields.cls ≠ "java/lang/invoke/MethodHandle" ∧ yX12_laysYields.cls ≠ "java/lang/invoke/VarHandle" ∧ (parseMethodDescriptor yX12_laysYields.desc).map (fun d => d.parameters.length) = some 0 := by decide +kernel
theorem kl_RX12_422 : KLk RX12 422 12 56 := ⟨RX12, TX12, 97, rfl, by decide, Or.inl (kwm 1253 (by decide +kernel) (by decide +kernel))⟩
theorem kc_RX12_425 : Cond.methodLink RX12 425 yX12_yieldIn ∈ ktG ∧ (Cond.instanceMethod yX12_yieldIn ∈ ktG ∧ Cond.selects yX12_yieldIn.cls yX12_yieldIn yX12_yieldIn ∈ ktG) ∧ Cond.initialized yX12_yieldIn.cls ∈ ktG ∧ Cond.code yX12_yieldIn cX12_yieldIn 4 (some .int) ∈ ktG := ⟨(kwm 1787 (by decide +kernel) (by decide +kernel)), ⟨(kwm 1789 (by decide +kernel) (by decide +kernel)), (kwm 91 (by decide +kernel) (by decide +kernel))⟩, (kwm 139 (by decide +kernel) (by decide +kernel)), kwm 1790 (by decide +kernel) (by decide +kernel)⟩
theorem kh_X12_yieldIn : yX12_yieldIn.cls ≠ "java/lang/invoke/MethodHandle" ∧ yX12_yieldIn.cls ≠ "java/lang/invoke/VarHandle" ∧ (parseMethodDescriptor yX12_yieldIn.desc).map (fun d => d.parameters.length) = some 3 := by decide +kernel
theorem kl_RX12_133 : KLk RX12 133 12 54 := ⟨RX12, TX12, 97, rfl, by decide, Or.inl (kwm 1251 (by decide +kernel) (by decide +kernel))⟩
theorem kc_RX12_429 : Cond.methodLink RX12 429 yX12_weightOf ∈ ktG ∧ (Cond.instanceMethod yX12_weightOf ∈ ktG ∧ Cond.selects yX12_weightOf.cls yX12_weightOf yX12_weightOf ∈ ktG) ∧ Cond.initialized yX12_weightOf.cls ∈ ktG ∧ Cond.code yX12_weightOf cX12_weightOf 10 (some .long) ∈ ktG := ⟨(kwm 1797 (by decide +kernel) (by decide +kernel)), ⟨(kwm 1799 (by decide +kernel) (by decide +kernel)), (kwm 92 (by decide +kernel) (by decide +kernel))⟩, (kwm 139 (by decide +kernel) (by decide +kernel)), kwm 1800 (by decide +kernel) (by decide +kernel)⟩
theorem kh_X12_weightOf : yX12_weightOf.cls ≠ "java/lang/invoke/MethodHandle" ∧ yX12_weightOf.cls ≠ "java/lang/invoke/VarHandle" ∧ (parseMethodDescriptor yX12_weightOf.desc).map (fun d => d.parameters.length) = some 2 := by decide +kernel
def E_X12_laysWorlds_l11 (v0 : Nat) (v1 : Int32) : KH → Nat → List (Nat × Value) → List Value → KH → Prop := fun (e : KH) pc ls st hh => pc = 103 ∧ ls = [] ∧ st = [] ∧ e = hh
def B_X12_laysWorlds_l11 (v0 : Nat) (v1 : Int32) : ((Int32 × KH) ⊕ (KH)) → Nat → List (Nat × Value) → List Value → KH → Prop := Sum.elim (fun (s : Int32 × KH) pc ls st hh => pc = 11 ∧ ls = [(0, .ref v0), (1, .int v1), (2, .int s.1)] ∧ st = [] ∧ hh = s.2) (E_X12_laysWorlds_l11 v0 v1)
def E_X12_laysWorlds_l26 (v0 : Nat) (v1 : Int32) (v2 : Int32) : KH → Nat → List (Nat × Value) → List Value → KH → Prop := fun (e : KH) pc ls st hh => pc = 70 ∧ ls = [(0, .ref v0), (1, .int v1), (2, .int v2)] ∧ st = [] ∧ e = hh
def B_X12_laysWorlds_l26 (v0 : Nat) (v1 : Int32) (v2 : Int32) : ((Int32 × KH) ⊕ (KH)) → Nat → List (Nat × Value) → List Value → KH → Prop := Sum.elim (fun (s : Int32 × KH) pc ls st hh => pc = 26 ∧ ls = [(0, .ref v0), (1, .int v1), (2, .int v2), (3, .int s.1)] ∧ st = [] ∧ hh = s.2) (E_X12_laysWorlds_l26 v0 v1 v2)
def f_X12_laysWorlds_l26 (v0 : Nat) (v1 : Int32) (v2 : Int32) (s : Int32 × KH) : Option ((Int32 × KH) ⊕ (KH)) :=
  if kkind v0 = 12 then kb (f_X12_testMany s.2 v0) fun r2 =>
  if r2 ≤ s.1 then
  some (.inr s.2)
  else
  if (kR s.2 v0 55) < 999999 then if kkind (kR s.2 v0 55) = 20 then if (v2 < 0 ∨ klen (kR s.2 v0 55) ≤ (v2).toNatClampNeg) then none else kb (f_X12_yieldIn s.2 v0 v2 (0 : Int32) s.1) fun r9 =>
  kb (f_X12_yieldIn s.2 v0 v2 (1 : Int32) s.1) fun r12 =>
  kl (ksI s.2 (kR s.2 v0 55) ((v2).toNatClampNeg) ((kI s.2 (kR s.2 v0 55) ((v2).toNatClampNeg)) ||| ((r9 + ((2 : Int32) * r12)) <<< (((2 : Int32) * s.1) &&& 31)))) fun h15 =>
  kl (s.1 + (1 : Int32)) fun x18 =>
  some (.inl (x18, h15)) else none else none else none
set_option maxHeartbeats 4000000 in
set_option maxRecDepth 100000 in
theorem s_X12_laysWorlds_l26 {Z : Nat → (Nat → Nat) → State → Prop} (v0 : Nat) (v1 : Int32) (v2 : Int32) (s : Int32 × KH) (t : (Int32 × KH) ⊕ (KH)) (hn : (s.2).1 = 243) (H : f_X12_laysWorlds_l26 v0 v1 v2 s = some t) : KX Z RX12 cX12_laysWorlds 4 false 5 (B_X12_laysWorlds_l26 v0 v1 v2 t) 26 [(0, .ref v0), (1, .int v1), (2, .int v2), (3, .int s.1)] [] s.2 := by
  unfold f_X12_laysWorlds_l26 at H
  refine x_iload_n (q := 27) dX12_laysWorlds_26 rfl rfl ?_
  refine x_aload_n (q := 28) dX12_laysWorlds_27 rfl rfl ?_
  replace H := kif H; obtain ⟨g1, H⟩ := H
  replace H := kbe H; obtain ⟨r2, c3, H⟩ := H
  have m4 := s_X12_testMany (Z := Z) s.2 v0 hn c3
  refine x_callV (q := 31) (as := []) (rest := [.int s.1]) dX12_laysWorlds_28 rfl kc_RX12_367 kh_X12_testMany (by decide) (Nat.le_of_ble_eq_true rfl) m4 (ci := 12) (by exact ⟨rfl, by decide⟩) (k243 g1 (by decide) hn) ?_
  replace H := kite H; rcases H with ⟨g5, H⟩ | ⟨g5, H⟩
  · refine x_icmp_ge_t dX12_laysWorlds_31 (q := 70) (by decide) g5 ?_
    cases H
    refine x_sub (ls2 := [(0, .ref v0), (1, .int v1), (2, .int v2)]) [0, 1, 2] rfl ?_
    exact x_end (x_cfg rfl)
  · refine x_icmp_ge_f (q := 34) dX12_laysWorlds_31 (t := 70) (by decide) rfl g5 ?_
    refine x_aload_n (q := 35) dX12_laysWorlds_34 rfl rfl ?_
    replace H := kif H; obtain ⟨g6, H⟩ := H
    refine x_getR (q := 38) dX12_laysWorlds_35 rfl kl_RX12_136 rfl (k243 g1 (by decide) hn) g6 ?_
    refine x_iload_n (q := 39) dX12_laysWorlds_38 rfl rfl ?_
    refine x_dup2 (q := 40) dX12_laysWorlds_39 rfl ⟨rfl, rfl⟩ ?_
    replace H := kif H; obtain ⟨g7, H⟩ := H
    replace H := kifn H; obtain ⟨g8, H⟩ := H
    refine x_iald (q := 41) dX12_laysWorlds_40 rfl (k243 g7 (by decide) hn) g8 ?_
    refine x_aload_n (q := 42) dX12_laysWorlds_41 rfl rfl ?_
    refine x_iload_n (q := 43) dX12_laysWorlds_42 rfl rfl ?_
    refine x_iconst (q := 44) (v := (0 : Int32)) dX12_laysWorlds_43 rfl (by decide) ?_
    refine x_iload_n (q := 45) dX12_laysWorlds_44 rfl rfl ?_
    replace H := kbe H; obtain ⟨r9, c10, H⟩ := H
    have m11 := s_X12_yieldIn (Z := Z) s.2 v0 v2 (0 : Int32) s.1 hn c10
    refine x_callV (q := 48) (as := [.int v2, .int (0 : Int32), .int s.1]) (rest := [.int (kI s.2 (kR s.2 v0 55) ((v2).toNatClampNeg)), .int v2, .ref (kR s.2 v0 55)]) dX12_laysWorlds_45 rfl kc_RX12_425 kh_X12_yieldIn (by decide) (Nat.le_of_ble_eq_true rfl) m11 (ci := 12) (by exact ⟨rfl, by decide⟩) (k243 g1 (by decide) hn) ?_
    refine x_iconst (q := 49) (v := (2 : Int32)) dX12_laysWorlds_48 rfl (by decide) ?_
    refine x_aload_n (q := 50) dX12_laysWorlds_49 rfl rfl ?_
    refine x_iload_n (q := 51) dX12_laysWorlds_50 rfl rfl ?_
    refine x_iconst (q := 52) (v := (1 : Int32)) dX12_laysWorlds_51 rfl (by decide) ?_
    refine x_iload_n (q := 53) dX12_laysWorlds_52 rfl rfl ?_
    replace H := kbe H; obtain ⟨r12, c13, H⟩ := H
    have m14 := s_X12_yieldIn (Z := Z) s.2 v0 v2 (1 : Int32) s.1 hn c13
    refine x_callV (q := 56) (as := [.int v2, .int (1 : Int32), .int s.1]) (rest := [.int (2 : Int32), .int r9, .int (kI s.2 (kR s.2 v0 55) ((v2).toNatClampNeg)), .int v2, .ref (kR s.2 v0 55)]) dX12_laysWorlds_53 rfl kc_RX12_425 kh_X12_yieldIn (by decide) (Nat.le_of_ble_eq_true rfl) m14 (ci := 12) (by exact ⟨rfl, by decide⟩) (k243 g1 (by decide) hn) ?_
    refine x_imul (q := 57) dX12_laysWorlds_56 rfl ?_
    refine x_iadd (q := 58) dX12_laysWorlds_57 rfl ?_
    refine x_iconst (q := 59) (v := (2 : Int32)) dX12_laysWorlds_58 rfl (by decide) ?_
    refine x_iload_n (q := 60) dX12_laysWorlds_59 rfl rfl ?_
    refine x_imul (q := 61) dX12_laysWorlds_60 rfl ?_
    refine x_ishl (q := 62) dX12_laysWorlds_61 rfl ?_
    refine x_ior (q := 63) dX12_laysWorlds_62 rfl ?_
    replace H := kle H; obtain ⟨h15, q16, H⟩ := H
    refine x_iast (q := 64) dX12_laysWorlds_63 rfl (k243 g7 (by decide) hn) g8 ?_
    refine x_nmH q16 ?_
    have n17 : h15.1 = 243 := by rw [q16]; exact hn
    replace H := kle H; obtain ⟨x18, q19, H⟩ := H
    refine x_iinc (q := 67) (i := 3) (ls2 := [(3, .int x18), (0, .ref v0), (1, .int v1), (2, .int v2)]) dX12_laysWorlds_64 rfl rfl (by decide) (by rw [q19]; rfl) ?_
    refine x_goto dX12_laysWorlds_67 (q := 26) (by decide) ?_
    cases H
    refine x_sub (ls2 := [(0, .ref v0), (1, .int v1), (2, .int v2), (3, .int x18)]) [1, 2, 3, 0] rfl ?_
    exact x_end (x_cfg rfl)
theorem sl_X12_laysWorlds_l26 {Z : Nat → (Nat → Nat) → State → Prop} (v0 : Nat) (v1 : Int32) (v2 : Int32) (n : Nat) (s : Int32 × KH) (r : KH) (hn : (s.2).1 = 243) (H : kloop (f_X12_laysWorlds_l26 v0 v1 v2) n s = some r) : KX Z RX12 cX12_laysWorlds 4 false 5 (E_X12_laysWorlds_l26 v0 v1 v2 r) 26 [(0, .ref v0), (1, .int v1), (2, .int v2), (3, .int s.1)] [] s.2 :=
  k_loop (ls := (fun (s : Int32 × KH) => ([(0, .ref v0), (1, .int v1), (2, .int v2), (3, .int s.1)] : List (Nat × Value)))) (hp := (fun (s : Int32 × KH) => (s.2 : KH))) (G := E_X12_laysWorlds_l26 v0 v1 v2) (fun s t hn H => s_X12_laysWorlds_l26 v0 v1 v2 s t hn H) n s r hn H
def f_X12_laysWorlds_l11 (v0 : Nat) (v1 : Int32) (s : Int32 × KH) : Option ((Int32 × KH) ⊕ (KH)) :=
  if (72 : Int32) ≤ s.1 then
  some (.inr s.2)
  else
  if kkind v0 = 12 then if (kR s.2 v0 55) < 999999 then if kkind (kR s.2 v0 55) = 20 then if (s.1 < 0 ∨ klen (kR s.2 v0 55) ≤ (s.1).toNatClampNeg) then none else kl (ksI s.2 (kR s.2 v0 55) ((s.1).toNatClampNeg) (0 : Int32)) fun h6 =>
  kb (kloop (f_X12_laysWorlds_l26 v0 v1 s.1) KF ((0 : Int32), h6)) fun e9 =>
  if (kR e9 v0 54) < 999999 then kb (f_X12_weightOf e9 v0 s.1 v1) fun r13 =>
  if kkind (kR e9 v0 54) = 21 then if (s.1 < 0 ∨ klen (kR e9 v0 54) ≤ (s.1).toNatClampNeg) then none else kl (ksL e9 (kR e9 v0 54) ((s.1).toNatClampNeg) r13) fun h18 =>
  if (kR h18 v0 54) < 999999 then if kkind (kR h18 v0 54) = 21 then if (s.1 < 0 ∨ klen (kR h18 v0 54) ≤ (s.1).toNatClampNeg) then none else kl (ksL h18 v0 56 ((kL h18 v0 56) + (kL h18 (kR h18 v0 54) ((s.1).toNatClampNeg)))) fun h24 =>
  kl (s.1 + (1 : Int32)) fun x27 =>
  some (.inl (x27, h24)) else none else none else none else none else none else none else none
set_option maxHeartbeats 4000000 in
set_option maxRecDepth 100000 in
theorem s_X12_laysWorlds_l11 {Z : Nat → (Nat → Nat) → State → Prop} (v0 : Nat) (v1 : Int32) (s : Int32 × KH) (t : (Int32 × KH) ⊕ (KH)) (hn : (s.2).1 = 243) (H : f_X12_laysWorlds_l11 v0 v1 s = some t) : KX Z RX12 cX12_laysWorlds 4 false 5 (B_X12_laysWorlds_l11 v0 v1 t) 11 [(0, .ref v0), (1, .int v1), (2, .int s.1)] [] s.2 := by
  unfold f_X12_laysWorlds_l11 at H
  refine x_iload_n (q := 12) dX12_laysWorlds_11 rfl rfl ?_
  refine x_bipush (q := 14) (v := (72 : Int32)) dX12_laysWorlds_12 rfl (by decide) ?_
  replace H := kite H; rcases H with ⟨g1, H⟩ | ⟨g1, H⟩
  · refine x_icmp_ge_t dX12_laysWorlds_14 (q := 103) (by decide) g1 ?_
    cases H
    refine x_sub (ls2 := []) [] rfl ?_
    exact x_end (x_cfg rfl)
  · refine x_icmp_ge_f (q := 17) dX12_laysWorlds_14 (t := 103) (by decide) rfl g1 ?_
    refine x_aload_n (q := 18) dX12_laysWorlds_17 rfl rfl ?_
    replace H := kif H; obtain ⟨g2, H⟩ := H
    replace H := kif H; obtain ⟨g3, H⟩ := H
    refine x_getR (q := 21) dX12_laysWorlds_18 rfl kl_RX12_136 rfl (k243 g2 (by decide) hn) g3 ?_
    refine x_iload_n (q := 22) dX12_laysWorlds_21 rfl rfl ?_
    refine x_iconst (q := 23) (v := (0 : Int32)) dX12_laysWorlds_22 rfl (by decide) ?_
    replace H := kif H; obtain ⟨g4, H⟩ := H
    replace H := kifn H; obtain ⟨g5, H⟩ := H
    replace H := kle H; obtain ⟨h6, q7, H⟩ := H
    refine x_iast (q := 24) dX12_laysWorlds_23 rfl (k243 g4 (by decide) hn) g5 ?_
    refine x_nmH q7 ?_
    have n8 : h6.1 = 243 := by rw [q7]; exact hn
    refine x_iconst (q := 25) (v := (0 : Int32)) dX12_laysWorlds_24 rfl (by decide) ?_
    refine x_istore_n (q := 26) (i := 3) (ls2 := [(3, .int (0 : Int32)), (0, .ref v0), (1, .int v1), (2, .int s.1)]) dX12_laysWorlds_25 rfl rfl (by decide) rfl ?_
    refine x_sub (ls2 := [(0, .ref v0), (1, .int v1), (2, .int s.1), (3, .int (0 : Int32))]) [1, 2, 3, 0] rfl ?_
    replace H := kbe H; obtain ⟨e9, c10, H⟩ := H
    refine x_app (sl_X12_laysWorlds_l26 v0 v1 s.1 KF ((0 : Int32), h6) e9 n8 c10) fun pc2 ls2 st2 h2 hg m11 => ?_
    obtain ⟨rfl, rfl, rfl, rfl⟩ := hg
    refine x_aload_n (q := 71) dX12_laysWorlds_70 rfl rfl ?_
    replace H := kif H; obtain ⟨g12, H⟩ := H
    refine x_getR (q := 74) dX12_laysWorlds_71 rfl kl_RX12_133 rfl (k243 g2 (by decide) (m11.full n8)) g12 ?_
    refine x_iload_n (q := 75) dX12_laysWorlds_74 rfl rfl ?_
    refine x_aload_n (q := 76) dX12_laysWorlds_75 rfl rfl ?_
    refine x_iload_n (q := 77) dX12_laysWorlds_76 rfl rfl ?_
    refine x_iload_n (q := 78) dX12_laysWorlds_77 rfl rfl ?_
    replace H := kbe H; obtain ⟨r13, c14, H⟩ := H
    have m15 := s_X12_weightOf (Z := Z) e9 v0 s.1 v1 (m11.full n8) c14
    refine x_callV (q := 81) (as := [.int s.1, .int v1]) (rest := [.int s.1, .ref (kR e9 v0 54)]) dX12_laysWorlds_78 rfl kc_RX12_429 kh_X12_weightOf (by decide) (Nat.le_of_ble_eq_true rfl) m15 (ci := 12) (by exact ⟨rfl, by decide⟩) (k243 g2 (by decide) (m11.full n8)) ?_
    replace H := kif H; obtain ⟨g16, H⟩ := H
    replace H := kifn H; obtain ⟨g17, H⟩ := H
    replace H := kle H; obtain ⟨h18, q19, H⟩ := H
    refine x_last (q := 82) dX12_laysWorlds_81 rfl (k243 g16 (by decide) (m11.full n8)) g17 ?_
    refine x_nmH q19 ?_
    have n20 : h18.1 = 243 := by rw [q19]; exact (m11.full n8)
    refine x_aload_n (q := 83) dX12_laysWorlds_82 rfl rfl ?_
    refine x_dup (q := 84) dX12_laysWorlds_83 rfl rfl ?_
    refine x_getL (q := 87) dX12_laysWorlds_84 rfl kl_RX12_422 rfl (k243 g2 (by decide) n20) ?_
    refine x_aload_n (q := 88) dX12_laysWorlds_87 rfl rfl ?_
    replace H := kif H; obtain ⟨g21, H⟩ := H
    refine x_getR (q := 91) dX12_laysWorlds_88 rfl kl_RX12_133 rfl (k243 g2 (by decide) n20) g21 ?_
    refine x_iload_n (q := 92) dX12_laysWorlds_91 rfl rfl ?_
    replace H := kif H; obtain ⟨g22, H⟩ := H
    replace H := kifn H; obtain ⟨g23, H⟩ := H
    refine x_lald (q := 93) dX12_laysWorlds_92 rfl (k243 g22 (by decide) n20) g23 ?_
    refine x_ladd (q := 94) dX12_laysWorlds_93 rfl ?_
    replace H := kle H; obtain ⟨h24, q25, H⟩ := H
    refine x_putL (q := 97) dX12_laysWorlds_94 rfl kl_RX12_422 (Or.inl rfl) rfl (k243 g2 (by decide) n20) ?_
    refine x_nmH q25 ?_
    have n26 : h24.1 = 243 := by rw [q25]; exact n20
    replace H := kle H; obtain ⟨x27, q28, H⟩ := H
    refine x_iinc (q := 100) (i := 2) (ls2 := [(2, .int x27), (0, .ref v0), (1, .int v1)]) dX12_laysWorlds_97 rfl rfl (by decide) (by rw [q28]; rfl) ?_
    refine x_goto dX12_laysWorlds_100 (q := 11) (by decide) ?_
    cases H
    refine x_sub (ls2 := [(0, .ref v0), (1, .int v1), (2, .int x27)]) [1, 2, 0] rfl ?_
    exact x_end (x_cfg rfl)
theorem sl_X12_laysWorlds_l11 {Z : Nat → (Nat → Nat) → State → Prop} (v0 : Nat) (v1 : Int32) (n : Nat) (s : Int32 × KH) (r : KH) (hn : (s.2).1 = 243) (H : kloop (f_X12_laysWorlds_l11 v0 v1) n s = some r) : KX Z RX12 cX12_laysWorlds 4 false 5 (E_X12_laysWorlds_l11 v0 v1 r) 11 [(0, .ref v0), (1, .int v1), (2, .int s.1)] [] s.2 :=
  k_loop (ls := (fun (s : Int32 × KH) => ([(0, .ref v0), (1, .int v1), (2, .int s.1)] : List (Nat × Value)))) (hp := (fun (s : Int32 × KH) => (s.2 : KH))) (G := E_X12_laysWorlds_l11 v0 v1) (fun s t hn H => s_X12_laysWorlds_l11 v0 v1 s t hn H) n s r hn H
def f_X12_laysWorlds (h : KH) (v0 : Nat) (v1 : Int32) : Option (KH) :=
  if kkind v0 = 12 then kb (f_X12_laysYields h v0) fun r2 =>
  kl (ksL r2 v0 56 (0 : Int64)) fun h6 =>
  kb (kloop (f_X12_laysWorlds_l11 v0 v1) KF ((0 : Int32), h6)) fun e9 =>
  some e9 else none
set_option maxHeartbeats 4000000 in
set_option maxRecDepth 100000 in
theorem s0_X12_laysWorlds {Z : Nat → (Nat → Nat) → State → Prop} (h : KH) (v0 : Nat) (v1 : Int32) {t : KH} (hn : h.1 = 243) (H : f_X12_laysWorlds h v0 v1 = some t) : KX Z RX12 cX12_laysWorlds 4 false 5 (KRv cX12_laysWorlds t) 0 [(0, .ref v0), (1, .int v1)] [] h := by
  unfold f_X12_laysWorlds at H
  refine x_aload_n (q := 1) dX12_laysWorlds_0 rfl rfl ?_
  replace H := kif H; obtain ⟨g1, H⟩ := H
  replace H := kbe H; obtain ⟨r2, c3, H⟩ := H
  have m4 := s_X12_laysYields (Z := Z) h v0 hn c3
  refine x_callV (q := 4) (as := []) (rest := []) dX12_laysWorlds_1 rfl kc_RX12_419 kh_X12_laysYields (by decide) (Nat.le_of_ble_eq_true rfl) m4 (ci := 12) (by exact ⟨rfl, by decide⟩) (k243 g1 (by decide) hn) ?_
  have n5 : (r2).1 = 243 := m4.1.full hn
  refine x_aload_n (q := 5) dX12_laysWorlds_4 rfl rfl ?_
  refine x_lconst (q := 6) (v := (0 : Int64)) dX12_laysWorlds_5 rfl (by decide) ?_
  replace H := kle H; obtain ⟨h6, q7, H⟩ := H
  refine x_putL (q := 9) dX12_laysWorlds_6 rfl kl_RX12_422 (Or.inl rfl) rfl (k243 g1 (by decide) n5) ?_
  refine x_nmH q7 ?_
  have n8 : h6.1 = 243 := by rw [q7]; exact n5
  refine x_iconst (q := 10) (v := (0 : Int32)) dX12_laysWorlds_9 rfl (by decide) ?_
  refine x_istore_n (q := 11) (i := 2) (ls2 := [(2, .int (0 : Int32)), (0, .ref v0), (1, .int v1)]) dX12_laysWorlds_10 rfl rfl (by decide) rfl ?_
  refine x_sub (ls2 := [(0, .ref v0), (1, .int v1), (2, .int (0 : Int32))]) [1, 2, 0] rfl ?_
  replace H := kbe H; obtain ⟨e9, c10, H⟩ := H
  refine x_app (sl_X12_laysWorlds_l11 v0 v1 KF ((0 : Int32), h6) e9 n8 c10) fun pc2 ls2 st2 h2 hg m11 => ?_
  obtain ⟨rfl, rfl, rfl, rfl⟩ := hg
  cases H
  exact x_end ⟨dX12_laysWorlds_103, rfl, rfl⟩
theorem s_X12_laysWorlds {Z : Nat → (Nat → Nat) → State → Prop} (h : KH) (v0 : Nat) (v1 : Int32) {t : KH} (hn : h.1 = 243) (H : f_X12_laysWorlds h v0 v1 = some t) : KM Z yX12_laysWorlds cX12_laysWorlds 4 none 5 [.ref v0, .int v1] h none t :=
  kx_v (own := RX12) (ini := false) (by decide +kernel) (by decide +kernel) rfl (Nat.le_of_ble_eq_true rfl) (s0_X12_laysWorlds h v0 v1 hn H)
theorem dX12_millionths_0 : decode cX12_millionths 0 = .ok (.lload_n 1, 1) := by decide +kernel
theorem dX12_millionths_1 : decode cX12_millionths 1 = .ok (.lstore_n 3, 1) := by decide +kernel
theorem dX12_millionths_2 : decode cX12_millionths 2 = .ok (.iconst 0, 1) := by decide +kernel
theorem dX12_millionths_3 : decode cX12_millionths 3 = .ok (.istore 5, 2) := by decide +kernel
theorem dX12_millionths_5 : decode cX12_millionths 5 = .ok (.iconst 0, 1) := by decide +kernel
theorem dX12_millionths_6 : decode cX12_millionths 6 = .ok (.istore 6, 2) := by decide +kernel
theorem dX12_millionths_8 : decode cX12_millionths 8 = .ok (.iload 6, 2) := by decide +kernel
theorem dX12_millionths_10 : decode cX12_millionths 10 = .ok (.bipush 6, 2) := by decide +kernel
theorem dX12_millionths_12 : decode cX12_millionths 12 = .ok (.if_icmp .ge 37, 3) := by decide +kernel
theorem dX12_millionths_15 : decode cX12_millionths 15 = .ok (.lload_n 3, 1) := by decide +kernel
theorem dX12_millionths_16 : decode cX12_millionths 16 = .ok (.ldc2_w 433, 3) := by decide +kernel
theorem dX12_millionths_19 : decode cX12_millionths 19 = .ok (.lmul, 1) := by decide +kernel
theorem dX12_millionths_20 : decode cX12_millionths 20 = .ok (.lstore_n 3, 1) := by decide +kernel
theorem dX12_millionths_21 : decode cX12_millionths 21 = .ok (.bipush 10, 2) := by decide +kernel
theorem dX12_millionths_23 : decode cX12_millionths 23 = .ok (.iload 5, 2) := by decide +kernel
theorem dX12_millionths_25 : decode cX12_millionths 25 = .ok (.imul, 1) := by decide +kernel
theorem dX12_millionths_26 : decode cX12_millionths 26 = .ok (.lload_n 3, 1) := by decide +kernel
theorem dX12_millionths_27 : decode cX12_millionths 27 = .ok (.aload_n 0, 1) := by decide +kernel
theorem dX12_millionths_28 : decode cX12_millionths 28 = .ok (.getfield 422, 3) := by decide +kernel
theorem dX12_millionths_31 : decode cX12_millionths 31 = .ok (.ldiv, 1) := by decide +kernel
theorem dX12_millionths_32 : decode cX12_millionths 32 = .ok (.l2i, 1) := by decide +kernel
theorem dX12_millionths_33 : decode cX12_millionths 33 = .ok (.iadd, 1) := by decide +kernel
theorem dX12_millionths_34 : decode cX12_millionths 34 = .ok (.istore 5, 2) := by decide +kernel
theorem dX12_millionths_36 : decode cX12_millionths 36 = .ok (.lload_n 3, 1) := by decide +kernel
theorem dX12_millionths_37 : decode cX12_millionths 37 = .ok (.aload_n 0, 1) := by decide +kernel
theorem dX12_millionths_38 : decode cX12_millionths 38 = .ok (.getfield 422, 3) := by decide +kernel
theorem dX12_millionths_41 : decode cX12_millionths 41 = .ok (.lrem, 1) := by decide +kernel
theorem dX12_millionths_42 : decode cX12_millionths 42 = .ok (.lstore_n 3, 1) := by decide +kernel
theorem dX12_millionths_43 : decode cX12_millionths 43 = .ok (.iinc 6 1, 3) := by decide +kernel
theorem dX12_millionths_46 : decode cX12_millionths 46 = .ok (.goto (-38), 3) := by decide +kernel
theorem dX12_millionths_49 : decode cX12_millionths 49 = .ok (.iload 5, 2) := by decide +kernel
theorem dX12_millionths_51 : decode cX12_millionths 51 = .ok (.ireturn, 1) := by decide +kernel
theorem kk_RX12_433 : Jvm.Cond.constantLong RX12 433 (10 : Int64) ∈ ktG := kwm 1813 (by decide +kernel) (by decide +kernel)
def E_X12_millionths_l8 (h : KH) (v0 : Nat) : Int32 → Nat → List (Nat × Value) → List Value → KH → Prop := fun (e : Int32) pc ls st hh => pc = 49 ∧ ls = [(5, .int e)] ∧ st = [] ∧ h = hh
def B_X12_millionths_l8 (h : KH) (v0 : Nat) : ((Int64 × Int32 × Int32) ⊕ (Int32)) → Nat → List (Nat × Value) → List Value → KH → Prop := Sum.elim (fun (s : Int64 × Int32 × Int32) pc ls st hh => pc = 8 ∧ ls = [(0, .ref v0), (3, .long s.1), (5, .int s.2.1), (6, .int s.2.2)] ∧ st = [] ∧ hh = h) (E_X12_millionths_l8 h v0)
def f_X12_millionths_l8 (h : KH) (v0 : Nat) (s : Int64 × Int32 × Int32) : Option ((Int64 × Int32 × Int32) ⊕ (Int32)) :=
  if (6 : Int32) ≤ s.2.2 then
  some (.inr s.2.1)
  else
  kl (s.1 * (10 : Int64)) fun x2 =>
  if kkind v0 = 12 then if (kL h v0 56) = 0 then none else kl (((10 : Int32) * s.2.1) + (((x2 / (kL h v0 56))).toInt32)) fun x6 =>
  if (kL h v0 56) = 0 then none else kl (x2 - x2 / (kL h v0 56) * (kL h v0 56)) fun x9 =>
  kl (s.2.2 + (1 : Int32)) fun x11 =>
  some (.inl (x9, x6, x11)) else none
set_option maxHeartbeats 4000000 in
set_option maxRecDepth 100000 in
theorem s_X12_millionths_l8 {Z : Nat → (Nat → Nat) → State → Prop} (h : KH) (v0 : Nat) (s : Int64 × Int32 × Int32) (t : (Int64 × Int32 × Int32) ⊕ (Int32)) (hn : (h).1 = 243) (H : f_X12_millionths_l8 h v0 s = some t) : KX Z RX12 cX12_millionths 7 false 1 (B_X12_millionths_l8 h v0 t) 8 [(0, .ref v0), (3, .long s.1), (5, .int s.2.1), (6, .int s.2.2)] [] h := by
  unfold f_X12_millionths_l8 at H
  refine x_iload (q := 10) dX12_millionths_8 rfl rfl ?_
  refine x_bipush (q := 12) (v := (6 : Int32)) dX12_millionths_10 rfl (by decide) ?_
  replace H := kite H; rcases H with ⟨g1, H⟩ | ⟨g1, H⟩
  · refine x_icmp_ge_t dX12_millionths_12 (q := 49) (by decide) g1 ?_
    cases H
    refine x_sub (ls2 := [(5, .int s.2.1)]) [2] rfl ?_
    exact x_end (x_cfg rfl)
  · refine x_icmp_ge_f (q := 15) dX12_millionths_12 (t := 49) (by decide) rfl g1 ?_
    refine x_lload_n (q := 16) dX12_millionths_15 rfl rfl ?_
    refine x_ldc2 (q := 19) (v := (10 : Int64)) dX12_millionths_16 rfl kk_RX12_433 ?_
    refine x_lmul (q := 20) dX12_millionths_19 rfl ?_
    replace H := kle H; obtain ⟨x2, q3, H⟩ := H
    refine x_nmL q3 ?_
    refine x_lstore_n (q := 21) (i := 3) (ls2 := [(3, .long x2), (0, .ref v0), (5, .int s.2.1), (6, .int s.2.2)]) dX12_millionths_20 rfl rfl (by decide) rfl ?_
    refine x_bipush (q := 23) (v := (10 : Int32)) dX12_millionths_21 rfl (by decide) ?_
    refine x_iload (q := 25) dX12_millionths_23 rfl rfl ?_
    refine x_imul (q := 26) dX12_millionths_25 rfl ?_
    refine x_lload_n (q := 27) dX12_millionths_26 rfl rfl ?_
    refine x_aload_n (q := 28) dX12_millionths_27 rfl rfl ?_
    replace H := kif H; obtain ⟨g4, H⟩ := H
    refine x_getL (q := 31) dX12_millionths_28 rfl kl_RX12_422 rfl (k243 g4 (by decide) hn) ?_
    replace H := kifn H; obtain ⟨g5, H⟩ := H
    refine x_ldiv (q := 32) dX12_millionths_31 rfl g5 ?_
    refine x_l2i (q := 33) dX12_millionths_32 rfl ?_
    refine x_iadd (q := 34) dX12_millionths_33 rfl ?_
    replace H := kle H; obtain ⟨x6, q7, H⟩ := H
    refine x_nmI q7 ?_
    refine x_istore (q := 36) (i := 5) (ls2 := [(5, .int x6), (3, .long x2), (0, .ref v0), (6, .int s.2.2)]) dX12_millionths_34 rfl (by decide) rfl ?_
    refine x_lload_n (q := 37) dX12_millionths_36 rfl rfl ?_
    refine x_aload_n (q := 38) dX12_millionths_37 rfl rfl ?_
    refine x_getL (q := 41) dX12_millionths_38 rfl kl_RX12_422 rfl (k243 g4 (by decide) hn) ?_
    replace H := kifn H; obtain ⟨g8, H⟩ := H
    refine x_lrem (q := 42) dX12_millionths_41 rfl g8 ?_
    replace H := kle H; obtain ⟨x9, q10, H⟩ := H
    refine x_nmL q10 ?_
    refine x_lstore_n (q := 43) (i := 3) (ls2 := [(3, .long x9), (5, .int x6), (0, .ref v0), (6, .int s.2.2)]) dX12_millionths_42 rfl rfl (by decide) rfl ?_
    replace H := kle H; obtain ⟨x11, q12, H⟩ := H
    refine x_iinc (q := 46) (i := 6) (ls2 := [(6, .int x11), (3, .long x9), (5, .int x6), (0, .ref v0)]) dX12_millionths_43 rfl rfl (by decide) (by rw [q12]; rfl) ?_
    refine x_goto dX12_millionths_46 (q := 8) (by decide) ?_
    cases H
    refine x_sub (ls2 := [(0, .ref v0), (3, .long x9), (5, .int x6), (6, .int x11)]) [3, 1, 2, 0] rfl ?_
    exact x_end (x_cfg rfl)
theorem sl_X12_millionths_l8 {Z : Nat → (Nat → Nat) → State → Prop} (h : KH) (v0 : Nat) (n : Nat) (s : Int64 × Int32 × Int32) (r : Int32) (hn : (h).1 = 243) (H : kloop (f_X12_millionths_l8 h v0) n s = some r) : KX Z RX12 cX12_millionths 7 false 1 (E_X12_millionths_l8 h v0 r) 8 [(0, .ref v0), (3, .long s.1), (5, .int s.2.1), (6, .int s.2.2)] [] h :=
  k_loop (ls := (fun (s : Int64 × Int32 × Int32) => ([(0, .ref v0), (3, .long s.1), (5, .int s.2.1), (6, .int s.2.2)] : List (Nat × Value)))) (hp := (fun (s : Int64 × Int32 × Int32) => (h : KH))) (G := E_X12_millionths_l8 h v0) (fun s t hn H => s_X12_millionths_l8 h v0 s t hn H) n s r hn H
def f_X12_millionths (h : KH) (v0 : Nat) (v1 : Int64) : Option (Int32) :=
  kb (kloop (f_X12_millionths_l8 h v0) KF (v1, (0 : Int32), (0 : Int32))) fun e1 =>
  some e1
set_option maxHeartbeats 4000000 in
set_option maxRecDepth 100000 in
theorem s0_X12_millionths {Z : Nat → (Nat → Nat) → State → Prop} (h : KH) (v0 : Nat) (v1 : Int64) {t : Int32} (hn : h.1 = 243) (H : f_X12_millionths h v0 v1 = some t) : KX Z RX12 cX12_millionths 7 false 1 (KRi cX12_millionths t h) 0 [(0, .ref v0), (1, .long v1)] [] h := by
  unfold f_X12_millionths at H
  refine x_lload_n (q := 1) dX12_millionths_0 rfl rfl ?_
  refine x_lstore_n (q := 2) (i := 3) (ls2 := [(3, .long v1), (0, .ref v0), (1, .long v1)]) dX12_millionths_1 rfl rfl (by decide) rfl ?_
  refine x_iconst (q := 3) (v := (0 : Int32)) dX12_millionths_2 rfl (by decide) ?_
  refine x_istore (q := 5) (i := 5) (ls2 := [(5, .int (0 : Int32)), (3, .long v1), (0, .ref v0), (1, .long v1)]) dX12_millionths_3 rfl (by decide) rfl ?_
  refine x_iconst (q := 6) (v := (0 : Int32)) dX12_millionths_5 rfl (by decide) ?_
  refine x_istore (q := 8) (i := 6) (ls2 := [(6, .int (0 : Int32)), (5, .int (0 : Int32)), (3, .long v1), (0, .ref v0), (1, .long v1)]) dX12_millionths_6 rfl (by decide) rfl ?_
  refine x_sub (ls2 := [(0, .ref v0), (3, .long v1), (5, .int (0 : Int32)), (6, .int (0 : Int32))]) [3, 2, 1, 0] rfl ?_
  replace H := kbe H; obtain ⟨e1, c2, H⟩ := H
  refine x_app (sl_X12_millionths_l8 h v0 KF (v1, (0 : Int32), (0 : Int32)) e1 hn c2) fun pc2 ls2 st2 h2 hg m3 => ?_
  obtain ⟨rfl, rfl, rfl, rfl⟩ := hg
  refine x_iload (q := 51) dX12_millionths_49 rfl rfl ?_
  cases H
  exact x_end ⟨dX12_millionths_51, rfl, rfl⟩
theorem s_X12_millionths {Z : Nat → (Nat → Nat) → State → Prop} (h : KH) (v0 : Nat) (v1 : Int64) {t : Int32} (hn : h.1 = 243) (H : f_X12_millionths h v0 v1 = some t) : KM Z yX12_millionths cX12_millionths 7 (some .int) 1 [.ref v0, .long v1] h (some (.int t)) h :=
  kx_i (own := RX12) (ini := false) (by decide +kernel) (by decide +kernel) rfl (Nat.le_of_ble_eq_true rfl) (s0_X12_millionths h v0 v1 hn H)
theorem dX12_maskOf_0 : decode cX12_maskOf 0 = .ok (.iconst 0, 1) := by decide +kernel
theorem dX12_maskOf_1 : decode cX12_maskOf 1 = .ok (.istore_n 1, 1) := by decide +kernel
theorem dX12_maskOf_2 : decode cX12_maskOf 2 = .ok (.iconst 0, 1) := by decide +kernel
theorem dX12_maskOf_3 : decode cX12_maskOf 3 = .ok (.istore_n 2, 1) := by decide +kernel
theorem dX12_maskOf_4 : decode cX12_maskOf 4 = .ok (.iload_n 2, 1) := by decide +kernel
theorem dX12_maskOf_5 : decode cX12_maskOf 5 = .ok (.bipush 6, 2) := by decide +kernel
theorem dX12_maskOf_7 : decode cX12_maskOf 7 = .ok (.if_icmp .ge 26, 3) := by decide +kernel
theorem dX12_maskOf_10 : decode cX12_maskOf 10 = .ok (.iload_n 0, 1) := by decide +kernel
theorem dX12_maskOf_11 : decode cX12_maskOf 11 = .ok (.iload_n 2, 1) := by decide +kernel
theorem dX12_maskOf_12 : decode cX12_maskOf 12 = .ok (.ishr, 1) := by decide +kernel
theorem dX12_maskOf_13 : decode cX12_maskOf 13 = .ok (.iconst 1, 1) := by decide +kernel
theorem dX12_maskOf_14 : decode cX12_maskOf 14 = .ok (.iand, 1) := by decide +kernel
theorem dX12_maskOf_15 : decode cX12_maskOf 15 = .ok (.iconst 1, 1) := by decide +kernel
theorem dX12_maskOf_16 : decode cX12_maskOf 16 = .ok (.if_icmp .ne 11, 3) := by decide +kernel
theorem dX12_maskOf_19 : decode cX12_maskOf 19 = .ok (.iload_n 1, 1) := by decide +kernel
theorem dX12_maskOf_20 : decode cX12_maskOf 20 = .ok (.iconst 3, 1) := by decide +kernel
theorem dX12_maskOf_21 : decode cX12_maskOf 21 = .ok (.iconst 2, 1) := by decide +kernel
theorem dX12_maskOf_22 : decode cX12_maskOf 22 = .ok (.iload_n 2, 1) := by decide +kernel
theorem dX12_maskOf_23 : decode cX12_maskOf 23 = .ok (.imul, 1) := by decide +kernel
theorem dX12_maskOf_24 : decode cX12_maskOf 24 = .ok (.ishl, 1) := by decide +kernel
theorem dX12_maskOf_25 : decode cX12_maskOf 25 = .ok (.ior, 1) := by decide +kernel
theorem dX12_maskOf_26 : decode cX12_maskOf 26 = .ok (.istore_n 1, 1) := by decide +kernel
theorem dX12_maskOf_27 : decode cX12_maskOf 27 = .ok (.iinc 2 1, 3) := by decide +kernel
theorem dX12_maskOf_30 : decode cX12_maskOf 30 = .ok (.goto (-26), 3) := by decide +kernel
theorem dX12_maskOf_33 : decode cX12_maskOf 33 = .ok (.iload_n 1, 1) := by decide +kernel
theorem dX12_maskOf_34 : decode cX12_maskOf 34 = .ok (.ireturn, 1) := by decide +kernel
def E_X12_maskOf_l4 (h : KH) (v0 : Int32) : Int32 → Nat → List (Nat × Value) → List Value → KH → Prop := fun (e : Int32) pc ls st hh => pc = 33 ∧ ls = [(1, .int e)] ∧ st = [] ∧ h = hh
def B_X12_maskOf_l4 (h : KH) (v0 : Int32) : ((Int32 × Int32) ⊕ (Int32)) → Nat → List (Nat × Value) → List Value → KH → Prop := Sum.elim (fun (s : Int32 × Int32) pc ls st hh => pc = 4 ∧ ls = [(0, .int v0), (1, .int s.1), (2, .int s.2)] ∧ st = [] ∧ hh = h) (E_X12_maskOf_l4 h v0)
def f_X12_maskOf_b27 (h : KH) (v0 : Int32) (v1 : Int32) (v2 : Int32) : Option ((Int32 × Int32) ⊕ (Int32)) :=
  kl (v2 + (1 : Int32)) fun x1 =>
  some (.inl (v1, x1))
set_option maxHeartbeats 4000000 in
set_option maxRecDepth 100000 in
theorem s_X12_maskOf_b27 {Z : Nat → (Nat → Nat) → State → Prop} (h : KH) (v0 : Int32) (v1 : Int32) (v2 : Int32) {t : (Int32 × Int32) ⊕ (Int32)} (hn : h.1 = 243) (H : f_X12_maskOf_b27 h v0 v1 v2 = some t) : KX Z RX12 cX12_maskOf 3 false 1 (B_X12_maskOf_l4 h v0 t) 27 [(0, .int v0), (1, .int v1), (2, .int v2)] [] h := by
  unfold f_X12_maskOf_b27 at H
  replace H := kle H; obtain ⟨x1, q2, H⟩ := H
  refine x_iinc (q := 30) (i := 2) (ls2 := [(2, .int x1), (0, .int v0), (1, .int v1)]) dX12_maskOf_27 rfl rfl (by decide) (by rw [q2]; rfl) ?_
  refine x_goto dX12_maskOf_30 (q := 4) (by decide) ?_
  cases H
  refine x_sub (ls2 := [(0, .int v0), (1, .int v1), (2, .int x1)]) [1, 2, 0] rfl ?_
  exact x_end (x_cfg rfl)
def f_X12_maskOf_l4 (h : KH) (v0 : Int32) (s : Int32 × Int32) : Option ((Int32 × Int32) ⊕ (Int32)) :=
  if (6 : Int32) ≤ s.2 then
  some (.inr s.1)
  else
  if ((v0 >>> (s.2 &&& 31)) &&& (1 : Int32)) = (1 : Int32) then
  kl (s.1 ||| ((3 : Int32) <<< (((2 : Int32) * s.2) &&& 31))) fun x3 =>
  f_X12_maskOf_b27 h v0 x3 s.2
  else
  f_X12_maskOf_b27 h v0 s.1 s.2
set_option maxHeartbeats 4000000 in
set_option maxRecDepth 100000 in
theorem s_X12_maskOf_l4 {Z : Nat → (Nat → Nat) → State → Prop} (h : KH) (v0 : Int32) (s : Int32 × Int32) (t : (Int32 × Int32) ⊕ (Int32)) (hn : (h).1 = 243) (H : f_X12_maskOf_l4 h v0 s = some t) : KX Z RX12 cX12_maskOf 3 false 1 (B_X12_maskOf_l4 h v0 t) 4 [(0, .int v0), (1, .int s.1), (2, .int s.2)] [] h := by
  unfold f_X12_maskOf_l4 at H
  refine x_iload_n (q := 5) dX12_maskOf_4 rfl rfl ?_
  refine x_bipush (q := 7) (v := (6 : Int32)) dX12_maskOf_5 rfl (by decide) ?_
  replace H := kite H; rcases H with ⟨g1, H⟩ | ⟨g1, H⟩
  · refine x_icmp_ge_t dX12_maskOf_7 (q := 33) (by decide) g1 ?_
    cases H
    refine x_sub (ls2 := [(1, .int s.1)]) [1] rfl ?_
    exact x_end (x_cfg rfl)
  · refine x_icmp_ge_f (q := 10) dX12_maskOf_7 (t := 33) (by decide) rfl g1 ?_
    refine x_iload_n (q := 11) dX12_maskOf_10 rfl rfl ?_
    refine x_iload_n (q := 12) dX12_maskOf_11 rfl rfl ?_
    refine x_ishr (q := 13) dX12_maskOf_12 rfl ?_
    refine x_iconst (q := 14) (v := (1 : Int32)) dX12_maskOf_13 rfl (by decide) ?_
    refine x_iand (q := 15) dX12_maskOf_14 rfl ?_
    refine x_iconst (q := 16) (v := (1 : Int32)) dX12_maskOf_15 rfl (by decide) ?_
    replace H := kite H; rcases H with ⟨g2, H⟩ | ⟨g2, H⟩
    · refine x_icmp_ne_f (q := 19) dX12_maskOf_16 (t := 27) (by decide) rfl g2 ?_
      refine x_iload_n (q := 20) dX12_maskOf_19 rfl rfl ?_
      refine x_iconst (q := 21) (v := (3 : Int32)) dX12_maskOf_20 rfl (by decide) ?_
      refine x_iconst (q := 22) (v := (2 : Int32)) dX12_maskOf_21 rfl (by decide) ?_
      refine x_iload_n (q := 23) dX12_maskOf_22 rfl rfl ?_
      refine x_imul (q := 24) dX12_maskOf_23 rfl ?_
      refine x_ishl (q := 25) dX12_maskOf_24 rfl ?_
      refine x_ior (q := 26) dX12_maskOf_25 rfl ?_
      replace H := kle H; obtain ⟨x3, q4, H⟩ := H
      refine x_nmI q4 ?_
      refine x_istore_n (q := 27) (i := 1) (ls2 := [(1, .int x3), (0, .int v0), (2, .int s.2)]) dX12_maskOf_26 rfl rfl (by decide) rfl ?_
      refine x_sub (ls2 := [(0, .int v0), (1, .int x3), (2, .int s.2)]) [1, 0, 2] rfl ?_
      exact s_X12_maskOf_b27 h v0 x3 s.2 hn H
    · refine x_icmp_ne_t dX12_maskOf_16 (q := 27) (by decide) g2 ?_
      refine x_sub (ls2 := [(0, .int v0), (1, .int s.1), (2, .int s.2)]) [0, 1, 2] rfl ?_
      exact s_X12_maskOf_b27 h v0 s.1 s.2 hn H
theorem sl_X12_maskOf_l4 {Z : Nat → (Nat → Nat) → State → Prop} (h : KH) (v0 : Int32) (n : Nat) (s : Int32 × Int32) (r : Int32) (hn : (h).1 = 243) (H : kloop (f_X12_maskOf_l4 h v0) n s = some r) : KX Z RX12 cX12_maskOf 3 false 1 (E_X12_maskOf_l4 h v0 r) 4 [(0, .int v0), (1, .int s.1), (2, .int s.2)] [] h :=
  k_loop (ls := (fun (s : Int32 × Int32) => ([(0, .int v0), (1, .int s.1), (2, .int s.2)] : List (Nat × Value)))) (hp := (fun (s : Int32 × Int32) => (h : KH))) (G := E_X12_maskOf_l4 h v0) (fun s t hn H => s_X12_maskOf_l4 h v0 s t hn H) n s r hn H
def f_X12_maskOf (h : KH) (v0 : Int32) : Option (Int32) :=
  kb (kloop (f_X12_maskOf_l4 h v0) KF ((0 : Int32), (0 : Int32))) fun e1 =>
  some e1
set_option maxHeartbeats 4000000 in
set_option maxRecDepth 100000 in
theorem s0_X12_maskOf {Z : Nat → (Nat → Nat) → State → Prop} (h : KH) (v0 : Int32) {t : Int32} (hn : h.1 = 243) (H : f_X12_maskOf h v0 = some t) : KX Z RX12 cX12_maskOf 3 false 1 (KRi cX12_maskOf t h) 0 [(0, .int v0)] [] h := by
  unfold f_X12_maskOf at H
  refine x_iconst (q := 1) (v := (0 : Int32)) dX12_maskOf_0 rfl (by decide) ?_
  refine x_istore_n (q := 2) (i := 1) (ls2 := [(1, .int (0 : Int32)), (0, .int v0)]) dX12_maskOf_1 rfl rfl (by decide) rfl ?_
  refine x_iconst (q := 3) (v := (0 : Int32)) dX12_maskOf_2 rfl (by decide) ?_
  refine x_istore_n (q := 4) (i := 2) (ls2 := [(2, .int (0 : Int32)), (1, .int (0 : Int32)), (0, .int v0)]) dX12_maskOf_3 rfl rfl (by decide) rfl ?_
  refine x_sub (ls2 := [(0, .int v0), (1, .int (0 : Int32)), (2, .int (0 : Int32))]) [2, 1, 0] rfl ?_
  replace H := kbe H; obtain ⟨e1, c2, H⟩ := H
  refine x_app (sl_X12_maskOf_l4 h v0 KF ((0 : Int32), (0 : Int32)) e1 hn c2) fun pc2 ls2 st2 h2 hg m3 => ?_
  obtain ⟨rfl, rfl, rfl, rfl⟩ := hg
  refine x_iload_n (q := 34) dX12_maskOf_33 rfl rfl ?_
  cases H
  exact x_end ⟨dX12_maskOf_34, rfl, rfl⟩
theorem s_X12_maskOf {Z : Nat → (Nat → Nat) → State → Prop} (h : KH) (v0 : Int32) {t : Int32} (hn : h.1 = 243) (H : f_X12_maskOf h v0 = some t) : KM Z yX12_maskOf cX12_maskOf 3 (some .int) 1 [.int v0] h (some (.int t)) h :=
  kx_i (own := RX12) (ini := false) (by decide +kernel) (by decide +kernel) rfl (Nat.le_of_ble_eq_true rfl) (s0_X12_maskOf h v0 hn H)
