-- methods as functions, and that the machine does as they say (by wip/whole/gen_all.py): X1_addNumber, X1_addWord, X1_addSign, X1_needOf, X1_valueAt, J9_min_7cf53, J9_max_7cf53, J9_floorDiv_7cf53, J9_min_f86c9, J9_max_f86c9, X1_signResult, X1_resultOf, X1_resultFor, J7_fill_53178, X2_clear, X2_nameIn, X2_nameOf, X2_hasName, X2_harmOf, X2_yieldBits, X7_stop, X9_byteAt, X7_isBlank, X7_isLetter, X7_letterOf, X7_filledUp, X7_readWord, X7_isDigit
theorem dX1_addNumber_0 : decode cX1_addNumber 0 = .ok (.aload_n 0, 1) := by decide +kernel
theorem dX1_addNumber_1 : decode cX1_addNumber 1 = .ok (.getfield 18, 3) := by decide +kernel
theorem dX1_addNumber_4 : decode cX1_addNumber 4 = .ok (.aload_n 0, 1) := by decide +kernel
theorem dX1_addNumber_5 : decode cX1_addNumber 5 = .ok (.getfield 9, 3) := by decide +kernel
theorem dX1_addNumber_8 : decode cX1_addNumber 8 = .ok (.arraylength, 1) := by decide +kernel
theorem dX1_addNumber_9 : decode cX1_addNumber 9 = .ok (.if_icmp .ge 23, 3) := by decide +kernel
theorem dX1_addNumber_12 : decode cX1_addNumber 12 = .ok (.aload_n 0, 1) := by decide +kernel
theorem dX1_addNumber_13 : decode cX1_addNumber 13 = .ok (.getfield 9, 3) := by decide +kernel
theorem dX1_addNumber_16 : decode cX1_addNumber 16 = .ok (.aload_n 0, 1) := by decide +kernel
theorem dX1_addNumber_17 : decode cX1_addNumber 17 = .ok (.getfield 18, 3) := by decide +kernel
theorem dX1_addNumber_20 : decode cX1_addNumber 20 = .ok (.iload_n 1, 1) := by decide +kernel
theorem dX1_addNumber_21 : decode cX1_addNumber 21 = .ok (.iastore, 1) := by decide +kernel
theorem dX1_addNumber_22 : decode cX1_addNumber 22 = .ok (.aload_n 0, 1) := by decide +kernel
theorem dX1_addNumber_23 : decode cX1_addNumber 23 = .ok (.dup, 1) := by decide +kernel
theorem dX1_addNumber_24 : decode cX1_addNumber 24 = .ok (.getfield 18, 3) := by decide +kernel
theorem dX1_addNumber_27 : decode cX1_addNumber 27 = .ok (.iconst 1, 1) := by decide +kernel
theorem dX1_addNumber_28 : decode cX1_addNumber 28 = .ok (.iadd, 1) := by decide +kernel
theorem dX1_addNumber_29 : decode cX1_addNumber 29 = .ok (.putfield 18, 3) := by decide +kernel
theorem dX1_addNumber_32 : decode cX1_addNumber 32 = .ok (.return_, 1) := by decide +kernel
theorem kl_RX1_18 : KLk RX1 18 1 2 := ⟨RX1, TX1, 3, rfl, by decide, Or.inl (kwm 182 (by decide +kernel) (by decide +kernel))⟩
theorem kl_RX1_9 : KLk RX1 9 1 0 := ⟨RX1, TX1, 3, rfl, by decide, Or.inl (kwm 180 (by decide +kernel) (by decide +kernel))⟩
def f_X1_addNumber (h : KH) (v0 : Nat) (v1 : Int32) : Option (KH) :=
  if kkind v0 = 1 then if (kR h v0 0) < 999999 then if kkind (kR h v0 0) = 20 then if (Int32.ofNat (klen (kR h v0 0))) ≤ (kI h v0 2) then
  some h
  else
  if ((kI h v0 2) < 0 ∨ klen (kR h v0 0) ≤ ((kI h v0 2)).toNatClampNeg) then none else kl (ksI h (kR h v0 0) (((kI h v0 2)).toNatClampNeg) v1) fun h6 =>
  kl (ksI h6 v0 2 ((kI h6 v0 2) + (1 : Int32))) fun h9 =>
  some h9 else none else none else none
set_option maxHeartbeats 4000000 in
set_option maxRecDepth 100000 in
theorem s0_X1_addNumber {Z : Nat → (Nat → Nat) → State → Prop} (h : KH) (v0 : Nat) (v1 : Int32) {t : KH} (hn : h.1 = 243) (H : f_X1_addNumber h v0 v1 = some t) : KX Z RX1 cX1_addNumber 2 false 1 (KRv cX1_addNumber t) 0 [(0, .ref v0), (1, .int v1)] [] h := by
  unfold f_X1_addNumber at H
  refine x_aload_n (q := 1) dX1_addNumber_0 rfl rfl ?_
  replace H := kif H; obtain ⟨g1, H⟩ := H
  refine x_getI (q := 4) dX1_addNumber_1 rfl kl_RX1_18 (Or.inl rfl) (k243 g1 (by decide) hn) ?_
  refine x_aload_n (q := 5) dX1_addNumber_4 rfl rfl ?_
  replace H := kif H; obtain ⟨g2, H⟩ := H
  refine x_getR (q := 8) dX1_addNumber_5 rfl kl_RX1_9 rfl (k243 g1 (by decide) hn) g2 ?_
  replace H := kif H; obtain ⟨g3, H⟩ := H
  refine x_alen (q := 9) dX1_addNumber_8 rfl (by decide) (k243 g3 (by decide) hn) ?_
  replace H := kite H; rcases H with ⟨g4, H⟩ | ⟨g4, H⟩
  · refine x_icmp_ge_t dX1_addNumber_9 (q := 32) (by decide) g4 ?_
    cases H
    exact x_end ⟨dX1_addNumber_32, rfl, rfl⟩
  · refine x_icmp_ge_f (q := 12) dX1_addNumber_9 (t := 32) (by decide) rfl g4 ?_
    refine x_aload_n (q := 13) dX1_addNumber_12 rfl rfl ?_
    refine x_getR (q := 16) dX1_addNumber_13 rfl kl_RX1_9 rfl (k243 g1 (by decide) hn) g2 ?_
    refine x_aload_n (q := 17) dX1_addNumber_16 rfl rfl ?_
    refine x_getI (q := 20) dX1_addNumber_17 rfl kl_RX1_18 (Or.inl rfl) (k243 g1 (by decide) hn) ?_
    refine x_iload_n (q := 21) dX1_addNumber_20 rfl rfl ?_
    replace H := kifn H; obtain ⟨g5, H⟩ := H
    replace H := kle H; obtain ⟨h6, q7, H⟩ := H
    refine x_iast (q := 22) dX1_addNumber_21 rfl (k243 g3 (by decide) hn) g5 ?_
    refine x_nmH q7 ?_
    have n8 : h6.1 = 243 := by rw [q7]; exact hn
    refine x_aload_n (q := 23) dX1_addNumber_22 rfl rfl ?_
    refine x_dup (q := 24) dX1_addNumber_23 rfl rfl ?_
    refine x_getI (q := 27) dX1_addNumber_24 rfl kl_RX1_18 (Or.inl rfl) (k243 g1 (by decide) n8) ?_
    refine x_iconst (q := 28) (v := (1 : Int32)) dX1_addNumber_27 rfl (by decide) ?_
    refine x_iadd (q := 29) dX1_addNumber_28 rfl ?_
    replace H := kle H; obtain ⟨h9, q10, H⟩ := H
    refine x_putI (q := 32) dX1_addNumber_29 rfl kl_RX1_18 (Or.inl rfl) rfl (k243 g1 (by decide) n8) ?_
    refine x_nmH q10 ?_
    have n11 : h9.1 = 243 := by rw [q10]; exact n8
    cases H
    exact x_end ⟨dX1_addNumber_32, rfl, rfl⟩
theorem s_X1_addNumber {Z : Nat → (Nat → Nat) → State → Prop} (h : KH) (v0 : Nat) (v1 : Int32) {t : KH} (hn : h.1 = 243) (H : f_X1_addNumber h v0 v1 = some t) : KM Z yX1_addNumber cX1_addNumber 2 none 1 [.ref v0, .int v1] h none t :=
  kx_v (own := RX1) (ini := false) (by decide +kernel) (by decide +kernel) rfl (Nat.le_of_ble_eq_true rfl) (s0_X1_addNumber h v0 v1 hn H)
theorem dX1_addWord_0 : decode cX1_addWord 0 = .ok (.aload_n 0, 1) := by decide +kernel
theorem dX1_addWord_1 : decode cX1_addWord 1 = .ok (.iconst (-1), 1) := by decide +kernel
theorem dX1_addWord_2 : decode cX1_addWord 2 = .ok (.iload_n 1, 1) := by decide +kernel
theorem dX1_addWord_3 : decode cX1_addWord 3 = .ok (.isub, 1) := by decide +kernel
theorem dX1_addWord_4 : decode cX1_addWord 4 = .ok (.invokevirtual 22, 3) := by decide +kernel
theorem dX1_addWord_7 : decode cX1_addWord 7 = .ok (.return_, 1) := by decide +kernel
theorem kc_RX1_22 : Cond.methodLink RX1 22 yX1_addNumber ∈ ktG ∧ (Cond.instanceMethod yX1_addNumber ∈ ktG ∧ Cond.selects yX1_addNumber.cls yX1_addNumber yX1_addNumber ∈ ktG) ∧ Cond.initialized yX1_addNumber.cls ∈ ktG ∧ Cond.code yX1_addNumber cX1_addNumber 2 none ∈ ktG := ⟨(kwm 732 (by decide +kernel) (by decide +kernel)), ⟨(kwm 733 (by decide +kernel) (by decide +kernel)), (kwm 734 (by decide +kernel) (by decide +kernel))⟩, (kwm 126 (by decide +kernel) (by decide +kernel)), kwm 735 (by decide +kernel) (by decide +kernel)⟩
theorem kh_X1_addNumber : yX1_addNumber.cls ≠ "java/lang/invoke/MethodHandle" ∧ yX1_addNumber.cls ≠ "java/lang/invoke/VarHandle" ∧ (parseMethodDescriptor yX1_addNumber.desc).map (fun d => d.parameters.length) = some 1 := by decide +kernel
def f_X1_addWord (h : KH) (v0 : Nat) (v1 : Int32) : Option (KH) :=
  if kkind v0 = 1 then kb (f_X1_addNumber h v0 ((-1 : Int32) - v1)) fun r2 =>
  some r2 else none
set_option maxHeartbeats 4000000 in
set_option maxRecDepth 100000 in
theorem s0_X1_addWord {Z : Nat → (Nat → Nat) → State → Prop} (h : KH) (v0 : Nat) (v1 : Int32) {t : KH} (hn : h.1 = 243) (H : f_X1_addWord h v0 v1 = some t) : KX Z RX1 cX1_addWord 2 false 2 (KRv cX1_addWord t) 0 [(0, .ref v0), (1, .int v1)] [] h := by
  unfold f_X1_addWord at H
  refine x_aload_n (q := 1) dX1_addWord_0 rfl rfl ?_
  refine x_iconst (q := 2) (v := (-1 : Int32)) dX1_addWord_1 rfl (by decide) ?_
  refine x_iload_n (q := 3) dX1_addWord_2 rfl rfl ?_
  refine x_isub (q := 4) dX1_addWord_3 rfl ?_
  replace H := kif H; obtain ⟨g1, H⟩ := H
  replace H := kbe H; obtain ⟨r2, c3, H⟩ := H
  have m4 := s_X1_addNumber (Z := Z) h v0 ((-1 : Int32) - v1) hn c3
  refine x_callV (q := 7) (as := [.int ((-1 : Int32) - v1)]) (rest := []) dX1_addWord_4 rfl kc_RX1_22 kh_X1_addNumber (by decide) (Nat.le_of_ble_eq_true rfl) m4 (ci := 1) (by exact ⟨rfl, by decide⟩) (k243 g1 (by decide) hn) ?_
  have n5 : (r2).1 = 243 := m4.1.full hn
  cases H
  exact x_end ⟨dX1_addWord_7, rfl, rfl⟩
theorem s_X1_addWord {Z : Nat → (Nat → Nat) → State → Prop} (h : KH) (v0 : Nat) (v1 : Int32) {t : KH} (hn : h.1 = 243) (H : f_X1_addWord h v0 v1 = some t) : KM Z yX1_addWord cX1_addWord 2 none 2 [.ref v0, .int v1] h none t :=
  kx_v (own := RX1) (ini := false) (by decide +kernel) (by decide +kernel) rfl (Nat.le_of_ble_eq_true rfl) (s0_X1_addWord h v0 v1 hn H)
theorem dX1_addSign_0 : decode cX1_addSign 0 = .ok (.aload_n 0, 1) := by decide +kernel
theorem dX1_addSign_1 : decode cX1_addSign 1 = .ok (.bipush (-100), 2) := by decide +kernel
theorem dX1_addSign_3 : decode cX1_addSign 3 = .ok (.iload_n 1, 1) := by decide +kernel
theorem dX1_addSign_4 : decode cX1_addSign 4 = .ok (.isub, 1) := by decide +kernel
theorem dX1_addSign_5 : decode cX1_addSign 5 = .ok (.invokevirtual 22, 3) := by decide +kernel
theorem dX1_addSign_8 : decode cX1_addSign 8 = .ok (.return_, 1) := by decide +kernel
def f_X1_addSign (h : KH) (v0 : Nat) (v1 : Int32) : Option (KH) :=
  if kkind v0 = 1 then kb (f_X1_addNumber h v0 ((-100 : Int32) - v1)) fun r2 =>
  some r2 else none
set_option maxHeartbeats 4000000 in
set_option maxRecDepth 100000 in
theorem s0_X1_addSign {Z : Nat → (Nat → Nat) → State → Prop} (h : KH) (v0 : Nat) (v1 : Int32) {t : KH} (hn : h.1 = 243) (H : f_X1_addSign h v0 v1 = some t) : KX Z RX1 cX1_addSign 2 false 2 (KRv cX1_addSign t) 0 [(0, .ref v0), (1, .int v1)] [] h := by
  unfold f_X1_addSign at H
  refine x_aload_n (q := 1) dX1_addSign_0 rfl rfl ?_
  refine x_bipush (q := 3) (v := (-100 : Int32)) dX1_addSign_1 rfl (by decide) ?_
  refine x_iload_n (q := 4) dX1_addSign_3 rfl rfl ?_
  refine x_isub (q := 5) dX1_addSign_4 rfl ?_
  replace H := kif H; obtain ⟨g1, H⟩ := H
  replace H := kbe H; obtain ⟨r2, c3, H⟩ := H
  have m4 := s_X1_addNumber (Z := Z) h v0 ((-100 : Int32) - v1) hn c3
  refine x_callV (q := 8) (as := [.int ((-100 : Int32) - v1)]) (rest := []) dX1_addSign_5 rfl kc_RX1_22 kh_X1_addNumber (by decide) (Nat.le_of_ble_eq_true rfl) m4 (ci := 1) (by exact ⟨rfl, by decide⟩) (k243 g1 (by decide) hn) ?_
  have n5 : (r2).1 = 243 := m4.1.full hn
  cases H
  exact x_end ⟨dX1_addSign_8, rfl, rfl⟩
theorem s_X1_addSign {Z : Nat → (Nat → Nat) → State → Prop} (h : KH) (v0 : Nat) (v1 : Int32) {t : KH} (hn : h.1 = 243) (H : f_X1_addSign h v0 v1 = some t) : KM Z yX1_addSign cX1_addSign 2 none 2 [.ref v0, .int v1] h none t :=
  kx_v (own := RX1) (ini := false) (by decide +kernel) (by decide +kernel) rfl (Nat.le_of_ble_eq_true rfl) (s0_X1_addSign h v0 v1 hn H)
theorem dX1_needOf_0 : decode cX1_needOf 0 = .ok (.iload_n 0, 1) := by decide +kernel
theorem dX1_needOf_1 : decode cX1_needOf 1 = .ok (.tableswitch 75 (-22) (-9) #[73, 73, 75, 71, 73, 73, 75, 75, 75, 75, 75, 75, 75, 71], 71) := by decide +kernel
theorem dX1_needOf_72 : decode cX1_needOf 72 = .ok (.iconst 1, 1) := by decide +kernel
theorem dX1_needOf_73 : decode cX1_needOf 73 = .ok (.ireturn, 1) := by decide +kernel
theorem dX1_needOf_74 : decode cX1_needOf 74 = .ok (.iconst 2, 1) := by decide +kernel
theorem dX1_needOf_75 : decode cX1_needOf 75 = .ok (.ireturn, 1) := by decide +kernel
theorem dX1_needOf_76 : decode cX1_needOf 76 = .ok (.iload_n 0, 1) := by decide +kernel
theorem dX1_needOf_77 : decode cX1_needOf 77 = .ok (.bipush (-100), 2) := by decide +kernel
theorem dX1_needOf_79 : decode cX1_needOf 79 = .ok (.if_icmp .ge 7, 3) := by decide +kernel
theorem dX1_needOf_82 : decode cX1_needOf 82 = .ok (.iconst 2, 1) := by decide +kernel
theorem dX1_needOf_83 : decode cX1_needOf 83 = .ok (.goto 4, 3) := by decide +kernel
theorem dX1_needOf_86 : decode cX1_needOf 86 = .ok (.iconst 0, 1) := by decide +kernel
theorem dX1_needOf_87 : decode cX1_needOf 87 = .ok (.ireturn, 1) := by decide +kernel
def f_X1_needOf (h : KH) (v0 : Int32) : Option (Int32) :=
  if v0 = (-22 : Int32) then
  some (2 : Int32)
  else if v0 = (-21 : Int32) then
  some (2 : Int32)
  else if v0 = (-20 : Int32) then
  if (-100 : Int32) ≤ v0 then
  some (0 : Int32)
  else
  some (2 : Int32)
  else if v0 = (-19 : Int32) then
  some (1 : Int32)
  else if v0 = (-18 : Int32) then
  some (2 : Int32)
  else if v0 = (-17 : Int32) then
  some (2 : Int32)
  else if v0 = (-16 : Int32) then
  if (-100 : Int32) ≤ v0 then
  some (0 : Int32)
  else
  some (2 : Int32)
  else if v0 = (-15 : Int32) then
  if (-100 : Int32) ≤ v0 then
  some (0 : Int32)
  else
  some (2 : Int32)
  else if v0 = (-14 : Int32) then
  if (-100 : Int32) ≤ v0 then
  some (0 : Int32)
  else
  some (2 : Int32)
  else if v0 = (-13 : Int32) then
  if (-100 : Int32) ≤ v0 then
  some (0 : Int32)
  else
  some (2 : Int32)
  else if v0 = (-12 : Int32) then
  if (-100 : Int32) ≤ v0 then
  some (0 : Int32)
  else
  some (2 : Int32)
  else if v0 = (-11 : Int32) then
  if (-100 : Int32) ≤ v0 then
  some (0 : Int32)
  else
  some (2 : Int32)
  else if v0 = (-10 : Int32) then
  if (-100 : Int32) ≤ v0 then
  some (0 : Int32)
  else
  some (2 : Int32)
  else if v0 = (-9 : Int32) then
  some (1 : Int32)
  else 
  if (-100 : Int32) ≤ v0 then
  some (0 : Int32)
  else
  some (2 : Int32)
set_option maxHeartbeats 4000000 in
set_option maxRecDepth 100000 in
theorem s0_X1_needOf {Z : Nat → (Nat → Nat) → State → Prop} (h : KH) (v0 : Int32) {t : Int32} (hn : h.1 = 243) (H : f_X1_needOf h v0 = some t) : KX Z RX1 cX1_needOf 1 false 1 (KRi cX1_needOf t h) 0 [(0, .int v0)] [] h := by
  unfold f_X1_needOf at H
  refine x_iload_n (q := 1) dX1_needOf_0 rfl rfl ?_
  replace H := kite H; rcases H with ⟨g1, H⟩ | ⟨g1, H⟩
  · refine x_tableIn (v := (-22 : Int32)) (off := 73) dX1_needOf_1 g1 (by decide) (q := 74) (by decide) ?_
    refine x_iconst (q := 75) (v := (2 : Int32)) dX1_needOf_74 rfl (by decide) ?_
    cases H
    exact x_end ⟨dX1_needOf_75, rfl, rfl⟩
  replace H := kite H; rcases H with ⟨g2, H⟩ | ⟨g2, H⟩
  · refine x_tableIn (v := (-21 : Int32)) (off := 73) dX1_needOf_1 g2 (by decide) (q := 74) (by decide) ?_
    refine x_iconst (q := 75) (v := (2 : Int32)) dX1_needOf_74 rfl (by decide) ?_
    cases H
    exact x_end ⟨dX1_needOf_75, rfl, rfl⟩
  replace H := kite H; rcases H with ⟨g3, H⟩ | ⟨g3, H⟩
  · refine x_tableIn (v := (-20 : Int32)) (off := 75) dX1_needOf_1 g3 (by decide) (q := 76) (by decide) ?_
    refine x_iload_n (q := 77) dX1_needOf_76 rfl rfl ?_
    refine x_bipush (q := 79) (v := (-100 : Int32)) dX1_needOf_77 rfl (by decide) ?_
    replace H := kite H; rcases H with ⟨g4, H⟩ | ⟨g4, H⟩
    · refine x_icmp_ge_t dX1_needOf_79 (q := 86) (by decide) g4 ?_
      refine x_iconst (q := 87) (v := (0 : Int32)) dX1_needOf_86 rfl (by decide) ?_
      cases H
      exact x_end ⟨dX1_needOf_87, rfl, rfl⟩
    · refine x_icmp_ge_f (q := 82) dX1_needOf_79 (t := 86) (by decide) rfl g4 ?_
      refine x_iconst (q := 83) (v := (2 : Int32)) dX1_needOf_82 rfl (by decide) ?_
      refine x_goto dX1_needOf_83 (q := 87) (by decide) ?_
      cases H
      exact x_end ⟨dX1_needOf_87, rfl, rfl⟩
  replace H := kite H; rcases H with ⟨g5, H⟩ | ⟨g5, H⟩
  · refine x_tableIn (v := (-19 : Int32)) (off := 71) dX1_needOf_1 g5 (by decide) (q := 72) (by decide) ?_
    refine x_iconst (q := 73) (v := (1 : Int32)) dX1_needOf_72 rfl (by decide) ?_
    cases H
    exact x_end ⟨dX1_needOf_73, rfl, rfl⟩
  replace H := kite H; rcases H with ⟨g6, H⟩ | ⟨g6, H⟩
  · refine x_tableIn (v := (-18 : Int32)) (off := 73) dX1_needOf_1 g6 (by decide) (q := 74) (by decide) ?_
    refine x_iconst (q := 75) (v := (2 : Int32)) dX1_needOf_74 rfl (by decide) ?_
    cases H
    exact x_end ⟨dX1_needOf_75, rfl, rfl⟩
  replace H := kite H; rcases H with ⟨g7, H⟩ | ⟨g7, H⟩
  · refine x_tableIn (v := (-17 : Int32)) (off := 73) dX1_needOf_1 g7 (by decide) (q := 74) (by decide) ?_
    refine x_iconst (q := 75) (v := (2 : Int32)) dX1_needOf_74 rfl (by decide) ?_
    cases H
    exact x_end ⟨dX1_needOf_75, rfl, rfl⟩
  replace H := kite H; rcases H with ⟨g8, H⟩ | ⟨g8, H⟩
  · refine x_tableIn (v := (-16 : Int32)) (off := 75) dX1_needOf_1 g8 (by decide) (q := 76) (by decide) ?_
    refine x_iload_n (q := 77) dX1_needOf_76 rfl rfl ?_
    refine x_bipush (q := 79) (v := (-100 : Int32)) dX1_needOf_77 rfl (by decide) ?_
    replace H := kite H; rcases H with ⟨g9, H⟩ | ⟨g9, H⟩
    · refine x_icmp_ge_t dX1_needOf_79 (q := 86) (by decide) g9 ?_
      refine x_iconst (q := 87) (v := (0 : Int32)) dX1_needOf_86 rfl (by decide) ?_
      cases H
      exact x_end ⟨dX1_needOf_87, rfl, rfl⟩
    · refine x_icmp_ge_f (q := 82) dX1_needOf_79 (t := 86) (by decide) rfl g9 ?_
      refine x_iconst (q := 83) (v := (2 : Int32)) dX1_needOf_82 rfl (by decide) ?_
      refine x_goto dX1_needOf_83 (q := 87) (by decide) ?_
      cases H
      exact x_end ⟨dX1_needOf_87, rfl, rfl⟩
  replace H := kite H; rcases H with ⟨g10, H⟩ | ⟨g10, H⟩
  · refine x_tableIn (v := (-15 : Int32)) (off := 75) dX1_needOf_1 g10 (by decide) (q := 76) (by decide) ?_
    refine x_iload_n (q := 77) dX1_needOf_76 rfl rfl ?_
    refine x_bipush (q := 79) (v := (-100 : Int32)) dX1_needOf_77 rfl (by decide) ?_
    replace H := kite H; rcases H with ⟨g11, H⟩ | ⟨g11, H⟩
    · refine x_icmp_ge_t dX1_needOf_79 (q := 86) (by decide) g11 ?_
      refine x_iconst (q := 87) (v := (0 : Int32)) dX1_needOf_86 rfl (by decide) ?_
      cases H
      exact x_end ⟨dX1_needOf_87, rfl, rfl⟩
    · refine x_icmp_ge_f (q := 82) dX1_needOf_79 (t := 86) (by decide) rfl g11 ?_
      refine x_iconst (q := 83) (v := (2 : Int32)) dX1_needOf_82 rfl (by decide) ?_
      refine x_goto dX1_needOf_83 (q := 87) (by decide) ?_
      cases H
      exact x_end ⟨dX1_needOf_87, rfl, rfl⟩
  replace H := kite H; rcases H with ⟨g12, H⟩ | ⟨g12, H⟩
  · refine x_tableIn (v := (-14 : Int32)) (off := 75) dX1_needOf_1 g12 (by decide) (q := 76) (by decide) ?_
    refine x_iload_n (q := 77) dX1_needOf_76 rfl rfl ?_
    refine x_bipush (q := 79) (v := (-100 : Int32)) dX1_needOf_77 rfl (by decide) ?_
    replace H := kite H; rcases H with ⟨g13, H⟩ | ⟨g13, H⟩
    · refine x_icmp_ge_t dX1_needOf_79 (q := 86) (by decide) g13 ?_
      refine x_iconst (q := 87) (v := (0 : Int32)) dX1_needOf_86 rfl (by decide) ?_
      cases H
      exact x_end ⟨dX1_needOf_87, rfl, rfl⟩
    · refine x_icmp_ge_f (q := 82) dX1_needOf_79 (t := 86) (by decide) rfl g13 ?_
      refine x_iconst (q := 83) (v := (2 : Int32)) dX1_needOf_82 rfl (by decide) ?_
      refine x_goto dX1_needOf_83 (q := 87) (by decide) ?_
      cases H
      exact x_end ⟨dX1_needOf_87, rfl, rfl⟩
  replace H := kite H; rcases H with ⟨g14, H⟩ | ⟨g14, H⟩
  · refine x_tableIn (v := (-13 : Int32)) (off := 75) dX1_needOf_1 g14 (by decide) (q := 76) (by decide) ?_
    refine x_iload_n (q := 77) dX1_needOf_76 rfl rfl ?_
    refine x_bipush (q := 79) (v := (-100 : Int32)) dX1_needOf_77 rfl (by decide) ?_
    replace H := kite H; rcases H with ⟨g15, H⟩ | ⟨g15, H⟩
    · refine x_icmp_ge_t dX1_needOf_79 (q := 86) (by decide) g15 ?_
      refine x_iconst (q := 87) (v := (0 : Int32)) dX1_needOf_86 rfl (by decide) ?_
      cases H
      exact x_end ⟨dX1_needOf_87, rfl, rfl⟩
    · refine x_icmp_ge_f (q := 82) dX1_needOf_79 (t := 86) (by decide) rfl g15 ?_
      refine x_iconst (q := 83) (v := (2 : Int32)) dX1_needOf_82 rfl (by decide) ?_
      refine x_goto dX1_needOf_83 (q := 87) (by decide) ?_
      cases H
      exact x_end ⟨dX1_needOf_87, rfl, rfl⟩
  replace H := kite H; rcases H with ⟨g16, H⟩ | ⟨g16, H⟩
  · refine x_tableIn (v := (-12 : Int32)) (off := 75) dX1_needOf_1 g16 (by decide) (q := 76) (by decide) ?_
    refine x_iload_n (q := 77) dX1_needOf_76 rfl rfl ?_
    refine x_bipush (q := 79) (v := (-100 : Int32)) dX1_needOf_77 rfl (by decide) ?_
    replace H := kite H; rcases H with ⟨g17, H⟩ | ⟨g17, H⟩
    · refine x_icmp_ge_t dX1_needOf_79 (q := 86) (by decide) g17 ?_
      refine x_iconst (q := 87) (v := (0 : Int32)) dX1_needOf_86 rfl (by decide) ?_
      cases H
      exact x_end ⟨dX1_needOf_87, rfl, rfl⟩
    · refine x_icmp_ge_f (q := 82) dX1_needOf_79 (t := 86) (by decide) rfl g17 ?_
      refine x_iconst (q := 83) (v := (2 : Int32)) dX1_needOf_82 rfl (by decide) ?_
      refine x_goto dX1_needOf_83 (q := 87) (by decide) ?_
      cases H
      exact x_end ⟨dX1_needOf_87, rfl, rfl⟩
  replace H := kite H; rcases H with ⟨g18, H⟩ | ⟨g18, H⟩
  · refine x_tableIn (v := (-11 : Int32)) (off := 75) dX1_needOf_1 g18 (by decide) (q := 76) (by decide) ?_
    refine x_iload_n (q := 77) dX1_needOf_76 rfl rfl ?_
    refine x_bipush (q := 79) (v := (-100 : Int32)) dX1_needOf_77 rfl (by decide) ?_
    replace H := kite H; rcases H with ⟨g19, H⟩ | ⟨g19, H⟩
    · refine x_icmp_ge_t dX1_needOf_79 (q := 86) (by decide) g19 ?_
      refine x_iconst (q := 87) (v := (0 : Int32)) dX1_needOf_86 rfl (by decide) ?_
      cases H
      exact x_end ⟨dX1_needOf_87, rfl, rfl⟩
    · refine x_icmp_ge_f (q := 82) dX1_needOf_79 (t := 86) (by decide) rfl g19 ?_
      refine x_iconst (q := 83) (v := (2 : Int32)) dX1_needOf_82 rfl (by decide) ?_
      refine x_goto dX1_needOf_83 (q := 87) (by decide) ?_
      cases H
      exact x_end ⟨dX1_needOf_87, rfl, rfl⟩
  replace H := kite H; rcases H with ⟨g20, H⟩ | ⟨g20, H⟩
  · refine x_tableIn (v := (-10 : Int32)) (off := 75) dX1_needOf_1 g20 (by decide) (q := 76) (by decide) ?_
    refine x_iload_n (q := 77) dX1_needOf_76 rfl rfl ?_
    refine x_bipush (q := 79) (v := (-100 : Int32)) dX1_needOf_77 rfl (by decide) ?_
    replace H := kite H; rcases H with ⟨g21, H⟩ | ⟨g21, H⟩
    · refine x_icmp_ge_t dX1_needOf_79 (q := 86) (by decide) g21 ?_
      refine x_iconst (q := 87) (v := (0 : Int32)) dX1_needOf_86 rfl (by decide) ?_
      cases H
      exact x_end ⟨dX1_needOf_87, rfl, rfl⟩
    · refine x_icmp_ge_f (q := 82) dX1_needOf_79 (t := 86) (by decide) rfl g21 ?_
      refine x_iconst (q := 83) (v := (2 : Int32)) dX1_needOf_82 rfl (by decide) ?_
      refine x_goto dX1_needOf_83 (q := 87) (by decide) ?_
      cases H
      exact x_end ⟨dX1_needOf_87, rfl, rfl⟩
  replace H := kite H; rcases H with ⟨g22, H⟩ | ⟨g22, H⟩
  · refine x_tableIn (v := (-9 : Int32)) (off := 71) dX1_needOf_1 g22 (by decide) (q := 72) (by decide) ?_
    refine x_iconst (q := 73) (v := (1 : Int32)) dX1_needOf_72 rfl (by decide) ?_
    cases H
    exact x_end ⟨dX1_needOf_73, rfl, rfl⟩
  refine x_tableOut dX1_needOf_1 (q := 76) (by decide) (by have z0 : v0.toInt ≠ -22 := kne g1 (by decide); have z1 : v0.toInt ≠ -21 := kne g2 (by decide); have z2 : v0.toInt ≠ -20 := kne g3 (by decide); have z3 : v0.toInt ≠ -19 := kne g5 (by decide); have z4 : v0.toInt ≠ -18 := kne g6 (by decide); have z5 : v0.toInt ≠ -17 := kne g7 (by decide); have z6 : v0.toInt ≠ -16 := kne g8 (by decide); have z7 : v0.toInt ≠ -15 := kne g10 (by decide); have z8 : v0.toInt ≠ -14 := kne g12 (by decide); have z9 : v0.toInt ≠ -13 := kne g14 (by decide); have z10 : v0.toInt ≠ -12 := kne g16 (by decide); have z11 : v0.toInt ≠ -11 := kne g18 (by decide); have z12 : v0.toInt ≠ -10 := kne g20 (by decide); have z13 : v0.toInt ≠ -9 := kne g22 (by decide); omega) ?_
  refine x_iload_n (q := 77) dX1_needOf_76 rfl rfl ?_
  refine x_bipush (q := 79) (v := (-100 : Int32)) dX1_needOf_77 rfl (by decide) ?_
  replace H := kite H; rcases H with ⟨g23, H⟩ | ⟨g23, H⟩
  · refine x_icmp_ge_t dX1_needOf_79 (q := 86) (by decide) g23 ?_
    refine x_iconst (q := 87) (v := (0 : Int32)) dX1_needOf_86 rfl (by decide) ?_
    cases H
    exact x_end ⟨dX1_needOf_87, rfl, rfl⟩
  · refine x_icmp_ge_f (q := 82) dX1_needOf_79 (t := 86) (by decide) rfl g23 ?_
    refine x_iconst (q := 83) (v := (2 : Int32)) dX1_needOf_82 rfl (by decide) ?_
    refine x_goto dX1_needOf_83 (q := 87) (by decide) ?_
    cases H
    exact x_end ⟨dX1_needOf_87, rfl, rfl⟩
theorem s_X1_needOf {Z : Nat → (Nat → Nat) → State → Prop} (h : KH) (v0 : Int32) {t : Int32} (hn : h.1 = 243) (H : f_X1_needOf h v0 = some t) : KM Z yX1_needOf cX1_needOf 1 (some .int) 1 [.int v0] h (some (.int t)) h :=
  kx_i (own := RX1) (ini := false) (by decide +kernel) (by decide +kernel) rfl (Nat.le_of_ble_eq_true rfl) (s0_X1_needOf h v0 hn H)
theorem dX1_valueAt_0 : decode cX1_valueAt 0 = .ok (.iload_n 1, 1) := by decide +kernel
theorem dX1_valueAt_1 : decode cX1_valueAt 1 = .ok (.ifCond .lt 15, 3) := by decide +kernel
theorem dX1_valueAt_4 : decode cX1_valueAt 4 = .ok (.iload_n 1, 1) := by decide +kernel
theorem dX1_valueAt_5 : decode cX1_valueAt 5 = .ok (.aload_n 0, 1) := by decide +kernel
theorem dX1_valueAt_6 : decode cX1_valueAt 6 = .ok (.arraylength, 1) := by decide +kernel
theorem dX1_valueAt_7 : decode cX1_valueAt 7 = .ok (.if_icmp .ge 9, 3) := by decide +kernel
theorem dX1_valueAt_10 : decode cX1_valueAt 10 = .ok (.aload_n 0, 1) := by decide +kernel
theorem dX1_valueAt_11 : decode cX1_valueAt 11 = .ok (.iload_n 1, 1) := by decide +kernel
theorem dX1_valueAt_12 : decode cX1_valueAt 12 = .ok (.iaload, 1) := by decide +kernel
theorem dX1_valueAt_13 : decode cX1_valueAt 13 = .ok (.goto 4, 3) := by decide +kernel
theorem dX1_valueAt_16 : decode cX1_valueAt 16 = .ok (.iconst 0, 1) := by decide +kernel
theorem dX1_valueAt_17 : decode cX1_valueAt 17 = .ok (.ireturn, 1) := by decide +kernel
def f_X1_valueAt (h : KH) (v0 : Nat) (v1 : Int32) : Option (Int32) :=
  if v1 < 0 then
  some (0 : Int32)
  else
  if kkind v0 = 20 then if (Int32.ofNat (klen v0)) ≤ v1 then
  some (0 : Int32)
  else
  if (v1 < 0 ∨ klen v0 ≤ (v1).toNatClampNeg) then none else some (kI h v0 ((v1).toNatClampNeg)) else none
set_option maxHeartbeats 4000000 in
set_option maxRecDepth 100000 in
theorem s0_X1_valueAt {Z : Nat → (Nat → Nat) → State → Prop} (h : KH) (v0 : Nat) (v1 : Int32) {t : Int32} (hn : h.1 = 243) (H : f_X1_valueAt h v0 v1 = some t) : KX Z RX1 cX1_valueAt 2 false 1 (KRi cX1_valueAt t h) 0 [(0, .ref v0), (1, .int v1)] [] h := by
  unfold f_X1_valueAt at H
  refine x_iload_n (q := 1) dX1_valueAt_0 rfl rfl ?_
  replace H := kite H; rcases H with ⟨g1, H⟩ | ⟨g1, H⟩
  · refine x_if_lt_t dX1_valueAt_1 (q := 16) (by decide) g1 ?_
    refine x_iconst (q := 17) (v := (0 : Int32)) dX1_valueAt_16 rfl (by decide) ?_
    cases H
    exact x_end ⟨dX1_valueAt_17, rfl, rfl⟩
  · refine x_if_lt_f (q := 4) dX1_valueAt_1 (t := 16) (by decide) rfl g1 ?_
    refine x_iload_n (q := 5) dX1_valueAt_4 rfl rfl ?_
    refine x_aload_n (q := 6) dX1_valueAt_5 rfl rfl ?_
    replace H := kif H; obtain ⟨g2, H⟩ := H
    refine x_alen (q := 7) dX1_valueAt_6 rfl (by decide) (k243 g2 (by decide) hn) ?_
    replace H := kite H; rcases H with ⟨g3, H⟩ | ⟨g3, H⟩
    · refine x_icmp_ge_t dX1_valueAt_7 (q := 16) (by decide) g3 ?_
      refine x_iconst (q := 17) (v := (0 : Int32)) dX1_valueAt_16 rfl (by decide) ?_
      cases H
      exact x_end ⟨dX1_valueAt_17, rfl, rfl⟩
    · refine x_icmp_ge_f (q := 10) dX1_valueAt_7 (t := 16) (by decide) rfl g3 ?_
      refine x_aload_n (q := 11) dX1_valueAt_10 rfl rfl ?_
      refine x_iload_n (q := 12) dX1_valueAt_11 rfl rfl ?_
      replace H := kifn H; obtain ⟨g4, H⟩ := H
      refine x_iald (q := 13) dX1_valueAt_12 rfl (k243 g2 (by decide) hn) g4 ?_
      refine x_goto dX1_valueAt_13 (q := 17) (by decide) ?_
      cases H
      exact x_end ⟨dX1_valueAt_17, rfl, rfl⟩
theorem s_X1_valueAt {Z : Nat → (Nat → Nat) → State → Prop} (h : KH) (v0 : Nat) (v1 : Int32) {t : Int32} (hn : h.1 = 243) (H : f_X1_valueAt h v0 v1 = some t) : KM Z yX1_valueAt cX1_valueAt 2 (some .int) 1 [.ref v0, .int v1] h (some (.int t)) h :=
  kx_i (own := RX1) (ini := false) (by decide +kernel) (by decide +kernel) rfl (Nat.le_of_ble_eq_true rfl) (s0_X1_valueAt h v0 v1 hn H)
theorem dJ9_min_7cf53_0 : decode cJ9_min_7cf53 0 = .ok (.iload_n 0, 1) := by decide +kernel
theorem dJ9_min_7cf53_1 : decode cJ9_min_7cf53 1 = .ok (.iload_n 1, 1) := by decide +kernel
theorem dJ9_min_7cf53_2 : decode cJ9_min_7cf53 2 = .ok (.if_icmp .gt 7, 3) := by decide +kernel
theorem dJ9_min_7cf53_5 : decode cJ9_min_7cf53 5 = .ok (.iload_n 0, 1) := by decide +kernel
theorem dJ9_min_7cf53_6 : decode cJ9_min_7cf53 6 = .ok (.goto 4, 3) := by decide +kernel
theorem dJ9_min_7cf53_9 : decode cJ9_min_7cf53 9 = .ok (.iload_n 1, 1) := by decide +kernel
theorem dJ9_min_7cf53_10 : decode cJ9_min_7cf53 10 = .ok (.ireturn, 1) := by decide +kernel
def f_J9_min_7cf53 (h : KH) (v0 : Int32) (v1 : Int32) : Option (Int32) :=
  if v1 < v0 then
  some v1
  else
  some v0
set_option maxHeartbeats 4000000 in
set_option maxRecDepth 100000 in
theorem s0_J9_min_7cf53 {Z : Nat → (Nat → Nat) → State → Prop} (h : KH) (v0 : Int32) (v1 : Int32) {t : Int32} (hn : h.1 = 243) (H : f_J9_min_7cf53 h v0 v1 = some t) : KX Z RJ9 cJ9_min_7cf53 2 false 1 (KRi cJ9_min_7cf53 t h) 0 [(0, .int v0), (1, .int v1)] [] h := by
  unfold f_J9_min_7cf53 at H
  refine x_iload_n (q := 1) dJ9_min_7cf53_0 rfl rfl ?_
  refine x_iload_n (q := 2) dJ9_min_7cf53_1 rfl rfl ?_
  replace H := kite H; rcases H with ⟨g1, H⟩ | ⟨g1, H⟩
  · refine x_icmp_gt_t dJ9_min_7cf53_2 (q := 9) (by decide) g1 ?_
    refine x_iload_n (q := 10) dJ9_min_7cf53_9 rfl rfl ?_
    cases H
    exact x_end ⟨dJ9_min_7cf53_10, rfl, rfl⟩
  · refine x_icmp_gt_f (q := 5) dJ9_min_7cf53_2 (t := 9) (by decide) rfl g1 ?_
    refine x_iload_n (q := 6) dJ9_min_7cf53_5 rfl rfl ?_
    refine x_goto dJ9_min_7cf53_6 (q := 10) (by decide) ?_
    cases H
    exact x_end ⟨dJ9_min_7cf53_10, rfl, rfl⟩
theorem s_J9_min_7cf53 {Z : Nat → (Nat → Nat) → State → Prop} (h : KH) (v0 : Int32) (v1 : Int32) {t : Int32} (hn : h.1 = 243) (H : f_J9_min_7cf53 h v0 v1 = some t) : KM Z yJ9_min_7cf53 cJ9_min_7cf53 2 (some .int) 1 [.int v0, .int v1] h (some (.int t)) h :=
  kx_i (own := RJ9) (ini := false) (by decide +kernel) (by decide +kernel) rfl (Nat.le_of_ble_eq_true rfl) (s0_J9_min_7cf53 h v0 v1 hn H)
theorem dJ9_max_7cf53_0 : decode cJ9_max_7cf53 0 = .ok (.iload_n 0, 1) := by decide +kernel
theorem dJ9_max_7cf53_1 : decode cJ9_max_7cf53 1 = .ok (.iload_n 1, 1) := by decide +kernel
theorem dJ9_max_7cf53_2 : decode cJ9_max_7cf53 2 = .ok (.if_icmp .lt 7, 3) := by decide +kernel
theorem dJ9_max_7cf53_5 : decode cJ9_max_7cf53 5 = .ok (.iload_n 0, 1) := by decide +kernel
theorem dJ9_max_7cf53_6 : decode cJ9_max_7cf53 6 = .ok (.goto 4, 3) := by decide +kernel
theorem dJ9_max_7cf53_9 : decode cJ9_max_7cf53 9 = .ok (.iload_n 1, 1) := by decide +kernel
theorem dJ9_max_7cf53_10 : decode cJ9_max_7cf53 10 = .ok (.ireturn, 1) := by decide +kernel
def f_J9_max_7cf53 (h : KH) (v0 : Int32) (v1 : Int32) : Option (Int32) :=
  if v0 < v1 then
  some v1
  else
  some v0
set_option maxHeartbeats 4000000 in
set_option maxRecDepth 100000 in
theorem s0_J9_max_7cf53 {Z : Nat → (Nat → Nat) → State → Prop} (h : KH) (v0 : Int32) (v1 : Int32) {t : Int32} (hn : h.1 = 243) (H : f_J9_max_7cf53 h v0 v1 = some t) : KX Z RJ9 cJ9_max_7cf53 2 false 1 (KRi cJ9_max_7cf53 t h) 0 [(0, .int v0), (1, .int v1)] [] h := by
  unfold f_J9_max_7cf53 at H
  refine x_iload_n (q := 1) dJ9_max_7cf53_0 rfl rfl ?_
  refine x_iload_n (q := 2) dJ9_max_7cf53_1 rfl rfl ?_
  replace H := kite H; rcases H with ⟨g1, H⟩ | ⟨g1, H⟩
  · refine x_icmp_lt_t dJ9_max_7cf53_2 (q := 9) (by decide) g1 ?_
    refine x_iload_n (q := 10) dJ9_max_7cf53_9 rfl rfl ?_
    cases H
    exact x_end ⟨dJ9_max_7cf53_10, rfl, rfl⟩
  · refine x_icmp_lt_f (q := 5) dJ9_max_7cf53_2 (t := 9) (by decide) rfl g1 ?_
    refine x_iload_n (q := 6) dJ9_max_7cf53_5 rfl rfl ?_
    refine x_goto dJ9_max_7cf53_6 (q := 10) (by decide) ?_
    cases H
    exact x_end ⟨dJ9_max_7cf53_10, rfl, rfl⟩
theorem s_J9_max_7cf53 {Z : Nat → (Nat → Nat) → State → Prop} (h : KH) (v0 : Int32) (v1 : Int32) {t : Int32} (hn : h.1 = 243) (H : f_J9_max_7cf53 h v0 v1 = some t) : KM Z yJ9_max_7cf53 cJ9_max_7cf53 2 (some .int) 1 [.int v0, .int v1] h (some (.int t)) h :=
  kx_i (own := RJ9) (ini := false) (by decide +kernel) (by decide +kernel) rfl (Nat.le_of_ble_eq_true rfl) (s0_J9_max_7cf53 h v0 v1 hn H)
theorem dJ9_floorDiv_7cf53_0 : decode cJ9_floorDiv_7cf53 0 = .ok (.iload_n 0, 1) := by decide +kernel
theorem dJ9_floorDiv_7cf53_1 : decode cJ9_floorDiv_7cf53 1 = .ok (.iload_n 1, 1) := by decide +kernel
theorem dJ9_floorDiv_7cf53_2 : decode cJ9_floorDiv_7cf53 2 = .ok (.idiv, 1) := by decide +kernel
theorem dJ9_floorDiv_7cf53_3 : decode cJ9_floorDiv_7cf53 3 = .ok (.istore_n 2, 1) := by decide +kernel
theorem dJ9_floorDiv_7cf53_4 : decode cJ9_floorDiv_7cf53 4 = .ok (.iload_n 0, 1) := by decide +kernel
theorem dJ9_floorDiv_7cf53_5 : decode cJ9_floorDiv_7cf53 5 = .ok (.iload_n 1, 1) := by decide +kernel
theorem dJ9_floorDiv_7cf53_6 : decode cJ9_floorDiv_7cf53 6 = .ok (.ixor, 1) := by decide +kernel
theorem dJ9_floorDiv_7cf53_7 : decode cJ9_floorDiv_7cf53 7 = .ok (.ifCond .ge 14, 3) := by decide +kernel
theorem dJ9_floorDiv_7cf53_10 : decode cJ9_floorDiv_7cf53 10 = .ok (.iload_n 2, 1) := by decide +kernel
theorem dJ9_floorDiv_7cf53_11 : decode cJ9_floorDiv_7cf53 11 = .ok (.iload_n 1, 1) := by decide +kernel
theorem dJ9_floorDiv_7cf53_12 : decode cJ9_floorDiv_7cf53 12 = .ok (.imul, 1) := by decide +kernel
theorem dJ9_floorDiv_7cf53_13 : decode cJ9_floorDiv_7cf53 13 = .ok (.iload_n 0, 1) := by decide +kernel
theorem dJ9_floorDiv_7cf53_14 : decode cJ9_floorDiv_7cf53 14 = .ok (.if_icmp .eq 7, 3) := by decide +kernel
theorem dJ9_floorDiv_7cf53_17 : decode cJ9_floorDiv_7cf53 17 = .ok (.iload_n 2, 1) := by decide +kernel
theorem dJ9_floorDiv_7cf53_18 : decode cJ9_floorDiv_7cf53 18 = .ok (.iconst 1, 1) := by decide +kernel
theorem dJ9_floorDiv_7cf53_19 : decode cJ9_floorDiv_7cf53 19 = .ok (.isub, 1) := by decide +kernel
theorem dJ9_floorDiv_7cf53_20 : decode cJ9_floorDiv_7cf53 20 = .ok (.ireturn, 1) := by decide +kernel
theorem dJ9_floorDiv_7cf53_21 : decode cJ9_floorDiv_7cf53 21 = .ok (.iload_n 2, 1) := by decide +kernel
theorem dJ9_floorDiv_7cf53_22 : decode cJ9_floorDiv_7cf53 22 = .ok (.ireturn, 1) := by decide +kernel
def f_J9_floorDiv_7cf53 (h : KH) (v0 : Int32) (v1 : Int32) : Option (Int32) :=
  if v1 = 0 then none else kl (v0 / v1) fun x2 =>
  if 0 ≤ (v0 ^^^ v1) then
  some x2
  else
  if (x2 * v1) = v0 then
  some x2
  else
  some (x2 - (1 : Int32))
set_option maxHeartbeats 4000000 in
set_option maxRecDepth 100000 in
theorem s0_J9_floorDiv_7cf53 {Z : Nat → (Nat → Nat) → State → Prop} (h : KH) (v0 : Int32) (v1 : Int32) {t : Int32} (hn : h.1 = 243) (H : f_J9_floorDiv_7cf53 h v0 v1 = some t) : KX Z RJ9 cJ9_floorDiv_7cf53 3 false 1 (KRi cJ9_floorDiv_7cf53 t h) 0 [(0, .int v0), (1, .int v1)] [] h := by
  unfold f_J9_floorDiv_7cf53 at H
  refine x_iload_n (q := 1) dJ9_floorDiv_7cf53_0 rfl rfl ?_
  refine x_iload_n (q := 2) dJ9_floorDiv_7cf53_1 rfl rfl ?_
  replace H := kifn H; obtain ⟨g1, H⟩ := H
  refine x_idiv (q := 3) dJ9_floorDiv_7cf53_2 rfl g1 ?_
  replace H := kle H; obtain ⟨x2, q3, H⟩ := H
  refine x_nmI q3 ?_
  refine x_istore_n (q := 4) (i := 2) (ls2 := [(2, .int x2), (0, .int v0), (1, .int v1)]) dJ9_floorDiv_7cf53_3 rfl rfl (by decide) rfl ?_
  refine x_iload_n (q := 5) dJ9_floorDiv_7cf53_4 rfl rfl ?_
  refine x_iload_n (q := 6) dJ9_floorDiv_7cf53_5 rfl rfl ?_
  refine x_ixor (q := 7) dJ9_floorDiv_7cf53_6 rfl ?_
  replace H := kite H; rcases H with ⟨g4, H⟩ | ⟨g4, H⟩
  · refine x_if_ge_t dJ9_floorDiv_7cf53_7 (q := 21) (by decide) g4 ?_
    refine x_iload_n (q := 22) dJ9_floorDiv_7cf53_21 rfl rfl ?_
    cases H
    exact x_end ⟨dJ9_floorDiv_7cf53_22, rfl, rfl⟩
  · refine x_if_ge_f (q := 10) dJ9_floorDiv_7cf53_7 (t := 21) (by decide) rfl g4 ?_
    refine x_iload_n (q := 11) dJ9_floorDiv_7cf53_10 rfl rfl ?_
    refine x_iload_n (q := 12) dJ9_floorDiv_7cf53_11 rfl rfl ?_
    refine x_imul (q := 13) dJ9_floorDiv_7cf53_12 rfl ?_
    refine x_iload_n (q := 14) dJ9_floorDiv_7cf53_13 rfl rfl ?_
    replace H := kite H; rcases H with ⟨g5, H⟩ | ⟨g5, H⟩
    · refine x_icmp_eq_t dJ9_floorDiv_7cf53_14 (q := 21) (by decide) g5 ?_
      refine x_iload_n (q := 22) dJ9_floorDiv_7cf53_21 rfl rfl ?_
      cases H
      exact x_end ⟨dJ9_floorDiv_7cf53_22, rfl, rfl⟩
    · refine x_icmp_eq_f (q := 17) dJ9_floorDiv_7cf53_14 (t := 21) (by decide) rfl g5 ?_
      refine x_iload_n (q := 18) dJ9_floorDiv_7cf53_17 rfl rfl ?_
      refine x_iconst (q := 19) (v := (1 : Int32)) dJ9_floorDiv_7cf53_18 rfl (by decide) ?_
      refine x_isub (q := 20) dJ9_floorDiv_7cf53_19 rfl ?_
      cases H
      exact x_end ⟨dJ9_floorDiv_7cf53_20, rfl, rfl⟩
theorem s_J9_floorDiv_7cf53 {Z : Nat → (Nat → Nat) → State → Prop} (h : KH) (v0 : Int32) (v1 : Int32) {t : Int32} (hn : h.1 = 243) (H : f_J9_floorDiv_7cf53 h v0 v1 = some t) : KM Z yJ9_floorDiv_7cf53 cJ9_floorDiv_7cf53 3 (some .int) 1 [.int v0, .int v1] h (some (.int t)) h :=
  kx_i (own := RJ9) (ini := false) (by decide +kernel) (by decide +kernel) rfl (Nat.le_of_ble_eq_true rfl) (s0_J9_floorDiv_7cf53 h v0 v1 hn H)
theorem dJ9_min_f86c9_0 : decode cJ9_min_f86c9 0 = .ok (.lload_n 0, 1) := by decide +kernel
theorem dJ9_min_f86c9_1 : decode cJ9_min_f86c9 1 = .ok (.lload_n 2, 1) := by decide +kernel
theorem dJ9_min_f86c9_2 : decode cJ9_min_f86c9 2 = .ok (.lcmp, 1) := by decide +kernel
theorem dJ9_min_f86c9_3 : decode cJ9_min_f86c9 3 = .ok (.ifCond .gt 7, 3) := by decide +kernel
theorem dJ9_min_f86c9_6 : decode cJ9_min_f86c9 6 = .ok (.lload_n 0, 1) := by decide +kernel
theorem dJ9_min_f86c9_7 : decode cJ9_min_f86c9 7 = .ok (.goto 4, 3) := by decide +kernel
theorem dJ9_min_f86c9_10 : decode cJ9_min_f86c9 10 = .ok (.lload_n 2, 1) := by decide +kernel
theorem dJ9_min_f86c9_11 : decode cJ9_min_f86c9 11 = .ok (.lreturn, 1) := by decide +kernel
def f_J9_min_f86c9 (h : KH) (v0 : Int64) (v2 : Int64) : Option (Int64) :=
  if 0 < (lg_cmp v0 v2) then
  some v2
  else
  some v0
set_option maxHeartbeats 4000000 in
set_option maxRecDepth 100000 in
theorem s0_J9_min_f86c9 {Z : Nat → (Nat → Nat) → State → Prop} (h : KH) (v0 : Int64) (v2 : Int64) {t : Int64} (hn : h.1 = 243) (H : f_J9_min_f86c9 h v0 v2 = some t) : KX Z RJ9 cJ9_min_f86c9 4 false 1 (KRl cJ9_min_f86c9 t h) 0 [(0, .long v0), (2, .long v2)] [] h := by
  unfold f_J9_min_f86c9 at H
  refine x_lload_n (q := 1) dJ9_min_f86c9_0 rfl rfl ?_
  refine x_lload_n (q := 2) dJ9_min_f86c9_1 rfl rfl ?_
  refine x_lcmp (q := 3) dJ9_min_f86c9_2 rfl ?_
  replace H := kite H; rcases H with ⟨g1, H⟩ | ⟨g1, H⟩
  · refine x_if_gt_t dJ9_min_f86c9_3 (q := 10) (by decide) g1 ?_
    refine x_lload_n (q := 11) dJ9_min_f86c9_10 rfl rfl ?_
    cases H
    exact x_end ⟨dJ9_min_f86c9_11, rfl, rfl⟩
  · refine x_if_gt_f (q := 6) dJ9_min_f86c9_3 (t := 10) (by decide) rfl g1 ?_
    refine x_lload_n (q := 7) dJ9_min_f86c9_6 rfl rfl ?_
    refine x_goto dJ9_min_f86c9_7 (q := 11) (by decide) ?_
    cases H
    exact x_end ⟨dJ9_min_f86c9_11, rfl, rfl⟩
theorem s_J9_min_f86c9 {Z : Nat → (Nat → Nat) → State → Prop} (h : KH) (v0 : Int64) (v2 : Int64) {t : Int64} (hn : h.1 = 243) (H : f_J9_min_f86c9 h v0 v2 = some t) : KM Z yJ9_min_f86c9 cJ9_min_f86c9 4 (some .long) 1 [.long v0, .long v2] h (some (.long t)) h :=
  kx_l (own := RJ9) (ini := false) (by decide +kernel) (by decide +kernel) rfl (Nat.le_of_ble_eq_true rfl) (s0_J9_min_f86c9 h v0 v2 hn H)
theorem dJ9_max_f86c9_0 : decode cJ9_max_f86c9 0 = .ok (.lload_n 0, 1) := by decide +kernel
theorem dJ9_max_f86c9_1 : decode cJ9_max_f86c9 1 = .ok (.lload_n 2, 1) := by decide +kernel
theorem dJ9_max_f86c9_2 : decode cJ9_max_f86c9 2 = .ok (.lcmp, 1) := by decide +kernel
theorem dJ9_max_f86c9_3 : decode cJ9_max_f86c9 3 = .ok (.ifCond .lt 7, 3) := by decide +kernel
theorem dJ9_max_f86c9_6 : decode cJ9_max_f86c9 6 = .ok (.lload_n 0, 1) := by decide +kernel
theorem dJ9_max_f86c9_7 : decode cJ9_max_f86c9 7 = .ok (.goto 4, 3) := by decide +kernel
theorem dJ9_max_f86c9_10 : decode cJ9_max_f86c9 10 = .ok (.lload_n 2, 1) := by decide +kernel
theorem dJ9_max_f86c9_11 : decode cJ9_max_f86c9 11 = .ok (.lreturn, 1) := by decide +kernel
def f_J9_max_f86c9 (h : KH) (v0 : Int64) (v2 : Int64) : Option (Int64) :=
  if (lg_cmp v0 v2) < 0 then
  some v2
  else
  some v0
set_option maxHeartbeats 4000000 in
set_option maxRecDepth 100000 in
theorem s0_J9_max_f86c9 {Z : Nat → (Nat → Nat) → State → Prop} (h : KH) (v0 : Int64) (v2 : Int64) {t : Int64} (hn : h.1 = 243) (H : f_J9_max_f86c9 h v0 v2 = some t) : KX Z RJ9 cJ9_max_f86c9 4 false 1 (KRl cJ9_max_f86c9 t h) 0 [(0, .long v0), (2, .long v2)] [] h := by
  unfold f_J9_max_f86c9 at H
  refine x_lload_n (q := 1) dJ9_max_f86c9_0 rfl rfl ?_
  refine x_lload_n (q := 2) dJ9_max_f86c9_1 rfl rfl ?_
  refine x_lcmp (q := 3) dJ9_max_f86c9_2 rfl ?_
  replace H := kite H; rcases H with ⟨g1, H⟩ | ⟨g1, H⟩
  · refine x_if_lt_t dJ9_max_f86c9_3 (q := 10) (by decide) g1 ?_
    refine x_lload_n (q := 11) dJ9_max_f86c9_10 rfl rfl ?_
    cases H
    exact x_end ⟨dJ9_max_f86c9_11, rfl, rfl⟩
  · refine x_if_lt_f (q := 6) dJ9_max_f86c9_3 (t := 10) (by decide) rfl g1 ?_
    refine x_lload_n (q := 7) dJ9_max_f86c9_6 rfl rfl ?_
    refine x_goto dJ9_max_f86c9_7 (q := 11) (by decide) ?_
    cases H
    exact x_end ⟨dJ9_max_f86c9_11, rfl, rfl⟩
theorem s_J9_max_f86c9 {Z : Nat → (Nat → Nat) → State → Prop} (h : KH) (v0 : Int64) (v2 : Int64) {t : Int64} (hn : h.1 = 243) (H : f_J9_max_f86c9 h v0 v2 = some t) : KM Z yJ9_max_f86c9 cJ9_max_f86c9 4 (some .long) 1 [.long v0, .long v2] h (some (.long t)) h :=
  kx_l (own := RJ9) (ini := false) (by decide +kernel) (by decide +kernel) rfl (Nat.le_of_ble_eq_true rfl) (s0_J9_max_f86c9 h v0 v2 hn H)
theorem dX1_signResult_0 : decode cX1_signResult 0 = .ok (.iload_n 0, 1) := by decide +kernel
theorem dX1_signResult_1 : decode cX1_signResult 1 = .ok (.lookupswitch 119 #[(42, 110), (43, 92), (45, 101), (60, 59), (61, 81), (62, 70)], 59) := by decide +kernel
theorem dX1_signResult_60 : decode cX1_signResult 60 = .ok (.iload_n 1, 1) := by decide +kernel
theorem dX1_signResult_61 : decode cX1_signResult 61 = .ok (.iload_n 2, 1) := by decide +kernel
theorem dX1_signResult_62 : decode cX1_signResult 62 = .ok (.if_icmp .ge 7, 3) := by decide +kernel
theorem dX1_signResult_65 : decode cX1_signResult 65 = .ok (.iconst 1, 1) := by decide +kernel
theorem dX1_signResult_66 : decode cX1_signResult 66 = .ok (.goto 4, 3) := by decide +kernel
theorem dX1_signResult_69 : decode cX1_signResult 69 = .ok (.iconst 0, 1) := by decide +kernel
theorem dX1_signResult_70 : decode cX1_signResult 70 = .ok (.ireturn, 1) := by decide +kernel
theorem dX1_signResult_71 : decode cX1_signResult 71 = .ok (.iload_n 1, 1) := by decide +kernel
theorem dX1_signResult_72 : decode cX1_signResult 72 = .ok (.iload_n 2, 1) := by decide +kernel
theorem dX1_signResult_73 : decode cX1_signResult 73 = .ok (.if_icmp .le 7, 3) := by decide +kernel
theorem dX1_signResult_76 : decode cX1_signResult 76 = .ok (.iconst 1, 1) := by decide +kernel
theorem dX1_signResult_77 : decode cX1_signResult 77 = .ok (.goto 4, 3) := by decide +kernel
theorem dX1_signResult_80 : decode cX1_signResult 80 = .ok (.iconst 0, 1) := by decide +kernel
theorem dX1_signResult_81 : decode cX1_signResult 81 = .ok (.ireturn, 1) := by decide +kernel
theorem dX1_signResult_82 : decode cX1_signResult 82 = .ok (.iload_n 1, 1) := by decide +kernel
theorem dX1_signResult_83 : decode cX1_signResult 83 = .ok (.iload_n 2, 1) := by decide +kernel
theorem dX1_signResult_84 : decode cX1_signResult 84 = .ok (.if_icmp .ne 7, 3) := by decide +kernel
theorem dX1_signResult_87 : decode cX1_signResult 87 = .ok (.iconst 1, 1) := by decide +kernel
theorem dX1_signResult_88 : decode cX1_signResult 88 = .ok (.goto 4, 3) := by decide +kernel
theorem dX1_signResult_91 : decode cX1_signResult 91 = .ok (.iconst 0, 1) := by decide +kernel
theorem dX1_signResult_92 : decode cX1_signResult 92 = .ok (.ireturn, 1) := by decide +kernel
theorem dX1_signResult_93 : decode cX1_signResult 93 = .ok (.iload_n 1, 1) := by decide +kernel
theorem dX1_signResult_94 : decode cX1_signResult 94 = .ok (.i2l, 1) := by decide +kernel
theorem dX1_signResult_95 : decode cX1_signResult 95 = .ok (.iload_n 2, 1) := by decide +kernel
theorem dX1_signResult_96 : decode cX1_signResult 96 = .ok (.i2l, 1) := by decide +kernel
theorem dX1_signResult_97 : decode cX1_signResult 97 = .ok (.ladd, 1) := by decide +kernel
theorem dX1_signResult_98 : decode cX1_signResult 98 = .ok (.lstore_n 3, 1) := by decide +kernel
theorem dX1_signResult_99 : decode cX1_signResult 99 = .ok (.goto 36, 3) := by decide +kernel
theorem dX1_signResult_102 : decode cX1_signResult 102 = .ok (.iload_n 1, 1) := by decide +kernel
theorem dX1_signResult_103 : decode cX1_signResult 103 = .ok (.i2l, 1) := by decide +kernel
theorem dX1_signResult_104 : decode cX1_signResult 104 = .ok (.iload_n 2, 1) := by decide +kernel
theorem dX1_signResult_105 : decode cX1_signResult 105 = .ok (.i2l, 1) := by decide +kernel
theorem dX1_signResult_106 : decode cX1_signResult 106 = .ok (.lsub, 1) := by decide +kernel
theorem dX1_signResult_107 : decode cX1_signResult 107 = .ok (.lstore_n 3, 1) := by decide +kernel
theorem dX1_signResult_108 : decode cX1_signResult 108 = .ok (.goto 27, 3) := by decide +kernel
theorem dX1_signResult_111 : decode cX1_signResult 111 = .ok (.iload_n 1, 1) := by decide +kernel
theorem dX1_signResult_112 : decode cX1_signResult 112 = .ok (.i2l, 1) := by decide +kernel
theorem dX1_signResult_113 : decode cX1_signResult 113 = .ok (.iload_n 2, 1) := by decide +kernel
theorem dX1_signResult_114 : decode cX1_signResult 114 = .ok (.i2l, 1) := by decide +kernel
theorem dX1_signResult_115 : decode cX1_signResult 115 = .ok (.lmul, 1) := by decide +kernel
theorem dX1_signResult_116 : decode cX1_signResult 116 = .ok (.lstore_n 3, 1) := by decide +kernel
theorem dX1_signResult_117 : decode cX1_signResult 117 = .ok (.goto 18, 3) := by decide +kernel
theorem dX1_signResult_120 : decode cX1_signResult 120 = .ok (.iload_n 2, 1) := by decide +kernel
theorem dX1_signResult_121 : decode cX1_signResult 121 = .ok (.ifCond .ne 7, 3) := by decide +kernel
theorem dX1_signResult_124 : decode cX1_signResult 124 = .ok (.lconst 0, 1) := by decide +kernel
theorem dX1_signResult_125 : decode cX1_signResult 125 = .ok (.goto 9, 3) := by decide +kernel
theorem dX1_signResult_128 : decode cX1_signResult 128 = .ok (.iload_n 1, 1) := by decide +kernel
theorem dX1_signResult_129 : decode cX1_signResult 129 = .ok (.iload_n 2, 1) := by decide +kernel
theorem dX1_signResult_130 : decode cX1_signResult 130 = .ok (.invokestatic 51, 3) := by decide +kernel
theorem dX1_signResult_133 : decode cX1_signResult 133 = .ok (.i2l, 1) := by decide +kernel
theorem dX1_signResult_134 : decode cX1_signResult 134 = .ok (.lstore_n 3, 1) := by decide +kernel
theorem dX1_signResult_135 : decode cX1_signResult 135 = .ok (.ldc2_w 54, 3) := by decide +kernel
theorem dX1_signResult_138 : decode cX1_signResult 138 = .ok (.ldc2_w 56, 3) := by decide +kernel
theorem dX1_signResult_141 : decode cX1_signResult 141 = .ok (.lload_n 3, 1) := by decide +kernel
theorem dX1_signResult_142 : decode cX1_signResult 142 = .ok (.invokestatic 58, 3) := by decide +kernel
theorem dX1_signResult_145 : decode cX1_signResult 145 = .ok (.invokestatic 61, 3) := by decide +kernel
theorem dX1_signResult_148 : decode cX1_signResult 148 = .ok (.l2i, 1) := by decide +kernel
theorem dX1_signResult_149 : decode cX1_signResult 149 = .ok (.ireturn, 1) := by decide +kernel
theorem kk_RX1_54 : Jvm.Cond.constantLong RX1 54 (-1000000 : Int64) ∈ ktG := kwm 875 (by decide +kernel) (by decide +kernel)
theorem kk_RX1_56 : Jvm.Cond.constantLong RX1 56 (1000000 : Int64) ∈ ktG := kwm 876 (by decide +kernel) (by decide +kernel)
theorem kc_RX1_58 : Cond.methodLink RX1 58 yJ9_min_f86c9 ∈ ktG ∧ Cond.static yJ9_min_f86c9 ∈ ktG ∧ Cond.initialized yJ9_min_f86c9.cls ∈ ktG ∧ Cond.code yJ9_min_f86c9 cJ9_min_f86c9 4 (some .long) ∈ ktG := ⟨(kwm 877 (by decide +kernel) (by decide +kernel)), (kwm 878 (by decide +kernel) (by decide +kernel)), (kwm 142 (by decide +kernel) (by decide +kernel)), kwm 879 (by decide +kernel) (by decide +kernel)⟩
theorem kh_J9_min_f86c9 : yJ9_min_f86c9.cls ≠ "java/lang/invoke/MethodHandle" ∧ yJ9_min_f86c9.cls ≠ "java/lang/invoke/VarHandle" ∧ (parseMethodDescriptor yJ9_min_f86c9.desc).map (fun d => d.parameters.length) = some 2 := by decide +kernel
theorem kc_RX1_61 : Cond.methodLink RX1 61 yJ9_max_f86c9 ∈ ktG ∧ Cond.static yJ9_max_f86c9 ∈ ktG ∧ Cond.initialized yJ9_max_f86c9.cls ∈ ktG ∧ Cond.code yJ9_max_f86c9 cJ9_max_f86c9 4 (some .long) ∈ ktG := ⟨(kwm 880 (by decide +kernel) (by decide +kernel)), (kwm 881 (by decide +kernel) (by decide +kernel)), (kwm 142 (by decide +kernel) (by decide +kernel)), kwm 882 (by decide +kernel) (by decide +kernel)⟩
theorem kh_J9_max_f86c9 : yJ9_max_f86c9.cls ≠ "java/lang/invoke/MethodHandle" ∧ yJ9_max_f86c9.cls ≠ "java/lang/invoke/VarHandle" ∧ (parseMethodDescriptor yJ9_max_f86c9.desc).map (fun d => d.parameters.length) = some 2 := by decide +kernel
theorem kc_RX1_51 : Cond.methodLink RX1 51 yJ9_floorDiv_7cf53 ∈ ktG ∧ Cond.static yJ9_floorDiv_7cf53 ∈ ktG ∧ Cond.initialized yJ9_floorDiv_7cf53.cls ∈ ktG ∧ Cond.code yJ9_floorDiv_7cf53 cJ9_floorDiv_7cf53 3 (some .int) ∈ ktG := ⟨(kwm 872 (by decide +kernel) (by decide +kernel)), (kwm 873 (by decide +kernel) (by decide +kernel)), (kwm 142 (by decide +kernel) (by decide +kernel)), kwm 874 (by decide +kernel) (by decide +kernel)⟩
theorem kh_J9_floorDiv_7cf53 : yJ9_floorDiv_7cf53.cls ≠ "java/lang/invoke/MethodHandle" ∧ yJ9_floorDiv_7cf53.cls ≠ "java/lang/invoke/VarHandle" ∧ (parseMethodDescriptor yJ9_floorDiv_7cf53.desc).map (fun d => d.parameters.length) = some 2 := by decide +kernel
def f_X1_signResult_b135 (h : KH) (v3 : Int64) : Option (Int32) :=
  kb (f_J9_min_f86c9 h (1000000 : Int64) v3) fun r1 =>
  kb (f_J9_max_f86c9 h (-1000000 : Int64) r1) fun r4 =>
  some ((r4).toInt32)
set_option maxHeartbeats 4000000 in
set_option maxRecDepth 100000 in
theorem s_X1_signResult_b135 {Z : Nat → (Nat → Nat) → State → Prop} (h : KH) (v3 : Int64) {t : Int32} (hn : h.1 = 243) (H : f_X1_signResult_b135 h v3 = some t) : KX Z RX1 cX1_signResult 5 false 2 (KRi cX1_signResult t h) 135 [(3, .long v3)] [] h := by
  unfold f_X1_signResult_b135 at H
  refine x_ldc2 (q := 138) (v := (-1000000 : Int64)) dX1_signResult_135 rfl kk_RX1_54 ?_
  refine x_ldc2 (q := 141) (v := (1000000 : Int64)) dX1_signResult_138 rfl kk_RX1_56 ?_
  refine x_lload_n (q := 142) dX1_signResult_141 rfl rfl ?_
  replace H := kbe H; obtain ⟨r1, c2, H⟩ := H
  have m3 := s_J9_min_f86c9 (Z := Z) h (1000000 : Int64) v3 hn c2
  refine x_callS (q := 145) (as := [.long (1000000 : Int64), .long v3]) (rest := [.long (-1000000 : Int64)]) dX1_signResult_142 rfl kc_RX1_58 kh_J9_min_f86c9 (by decide) (Nat.le_of_ble_eq_true rfl) m3 ?_
  replace H := kbe H; obtain ⟨r4, c5, H⟩ := H
  have m6 := s_J9_max_f86c9 (Z := Z) h (-1000000 : Int64) r1 hn c5
  refine x_callS (q := 148) (as := [.long (-1000000 : Int64), .long r1]) (rest := []) dX1_signResult_145 rfl kc_RX1_61 kh_J9_max_f86c9 (by decide) (Nat.le_of_ble_eq_true rfl) m6 ?_
  refine x_l2i (q := 149) dX1_signResult_148 rfl ?_
  cases H
  exact x_end ⟨dX1_signResult_149, rfl, rfl⟩
def f_X1_signResult_b134 (h : KH) (w0 : Int64) : Option (Int32) :=
  f_X1_signResult_b135 h w0
set_option maxHeartbeats 4000000 in
set_option maxRecDepth 100000 in
theorem s_X1_signResult_b134 {Z : Nat → (Nat → Nat) → State → Prop} (h : KH) (w0 : Int64) {t : Int32} (hn : h.1 = 243) (H : f_X1_signResult_b134 h w0 = some t) : KX Z RX1 cX1_signResult 5 false 2 (KRi cX1_signResult t h) 134 [] [.long w0] h := by
  unfold f_X1_signResult_b134 at H
  refine x_lstore_n (q := 135) (i := 3) (ls2 := [(3, .long w0)]) dX1_signResult_134 rfl rfl (by decide) rfl ?_
  refine x_sub (ls2 := [(3, .long w0)]) [0] rfl ?_
  exact s_X1_signResult_b135 h w0 hn H
def f_X1_signResult (h : KH) (v0 : Int32) (v1 : Int32) (v2 : Int32) : Option (Int32) :=
  if v0 = (42 : Int32) then
  kl (((v1).toInt64) * ((v2).toInt64)) fun x2 =>
  f_X1_signResult_b135 h x2
  else if v0 = (43 : Int32) then
  kl (((v1).toInt64) + ((v2).toInt64)) fun x5 =>
  f_X1_signResult_b135 h x5
  else if v0 = (45 : Int32) then
  kl (((v1).toInt64) - ((v2).toInt64)) fun x8 =>
  f_X1_signResult_b135 h x8
  else if v0 = (60 : Int32) then
  if v2 ≤ v1 then
  some (0 : Int32)
  else
  some (1 : Int32)
  else if v0 = (61 : Int32) then
  if v1 = v2 then
  some (1 : Int32)
  else
  some (0 : Int32)
  else if v0 = (62 : Int32) then
  if v1 ≤ v2 then
  some (0 : Int32)
  else
  some (1 : Int32)
  else 
  if v2 = 0 then
  f_X1_signResult_b134 h (0 : Int64)
  else
  kb (f_J9_floorDiv_7cf53 h v1 v2) fun r17 =>
  f_X1_signResult_b134 h ((r17).toInt64)
set_option maxHeartbeats 4000000 in
set_option maxRecDepth 100000 in
theorem s0_X1_signResult {Z : Nat → (Nat → Nat) → State → Prop} (h : KH) (v0 : Int32) (v1 : Int32) (v2 : Int32) {t : Int32} (hn : h.1 = 243) (H : f_X1_signResult h v0 v1 v2 = some t) : KX Z RX1 cX1_signResult 5 false 2 (KRi cX1_signResult t h) 0 [(0, .int v0), (1, .int v1), (2, .int v2)] [] h := by
  unfold f_X1_signResult at H
  refine x_iload_n (q := 1) dX1_signResult_0 rfl rfl ?_
  replace H := kite H; rcases H with ⟨g1, H⟩ | ⟨g1, H⟩
  · refine x_lookup (off := 110) dX1_signResult_1 (by decide) (by first | (rw [g1]; done) | (rw [g1]; decide)) (q := 111) (by decide) ?_
    refine x_iload_n (q := 112) dX1_signResult_111 rfl rfl ?_
    refine x_i2l (q := 113) dX1_signResult_112 rfl ?_
    refine x_iload_n (q := 114) dX1_signResult_113 rfl rfl ?_
    refine x_i2l (q := 115) dX1_signResult_114 rfl ?_
    refine x_lmul (q := 116) dX1_signResult_115 rfl ?_
    replace H := kle H; obtain ⟨x2, q3, H⟩ := H
    refine x_nmL q3 ?_
    refine x_lstore_n (q := 117) (i := 3) (ls2 := [(3, .long x2), (0, .int v0), (1, .int v1), (2, .int v2)]) dX1_signResult_116 rfl rfl (by decide) rfl ?_
    refine x_goto dX1_signResult_117 (q := 135) (by decide) ?_
    refine x_sub (ls2 := [(3, .long x2)]) [0] rfl ?_
    exact s_X1_signResult_b135 h x2 hn H
  replace H := kite H; rcases H with ⟨g4, H⟩ | ⟨g4, H⟩
  · refine x_lookup (off := 92) dX1_signResult_1 (by decide) (by first | (rw [g4]; done) | (rw [g4]; decide)) (q := 93) (by decide) ?_
    refine x_iload_n (q := 94) dX1_signResult_93 rfl rfl ?_
    refine x_i2l (q := 95) dX1_signResult_94 rfl ?_
    refine x_iload_n (q := 96) dX1_signResult_95 rfl rfl ?_
    refine x_i2l (q := 97) dX1_signResult_96 rfl ?_
    refine x_ladd (q := 98) dX1_signResult_97 rfl ?_
    replace H := kle H; obtain ⟨x5, q6, H⟩ := H
    refine x_nmL q6 ?_
    refine x_lstore_n (q := 99) (i := 3) (ls2 := [(3, .long x5), (0, .int v0), (1, .int v1), (2, .int v2)]) dX1_signResult_98 rfl rfl (by decide) rfl ?_
    refine x_goto dX1_signResult_99 (q := 135) (by decide) ?_
    refine x_sub (ls2 := [(3, .long x5)]) [0] rfl ?_
    exact s_X1_signResult_b135 h x5 hn H
  replace H := kite H; rcases H with ⟨g7, H⟩ | ⟨g7, H⟩
  · refine x_lookup (off := 101) dX1_signResult_1 (by decide) (by first | (rw [g7]; done) | (rw [g7]; decide)) (q := 102) (by decide) ?_
    refine x_iload_n (q := 103) dX1_signResult_102 rfl rfl ?_
    refine x_i2l (q := 104) dX1_signResult_103 rfl ?_
    refine x_iload_n (q := 105) dX1_signResult_104 rfl rfl ?_
    refine x_i2l (q := 106) dX1_signResult_105 rfl ?_
    refine x_lsub (q := 107) dX1_signResult_106 rfl ?_
    replace H := kle H; obtain ⟨x8, q9, H⟩ := H
    refine x_nmL q9 ?_
    refine x_lstore_n (q := 108) (i := 3) (ls2 := [(3, .long x8), (0, .int v0), (1, .int v1), (2, .int v2)]) dX1_signResult_107 rfl rfl (by decide) rfl ?_
    refine x_goto dX1_signResult_108 (q := 135) (by decide) ?_
    refine x_sub (ls2 := [(3, .long x8)]) [0] rfl ?_
    exact s_X1_signResult_b135 h x8 hn H
  replace H := kite H; rcases H with ⟨g10, H⟩ | ⟨g10, H⟩
  · refine x_lookup (off := 59) dX1_signResult_1 (by decide) (by first | (rw [g10]; done) | (rw [g10]; decide)) (q := 60) (by decide) ?_
    refine x_iload_n (q := 61) dX1_signResult_60 rfl rfl ?_
    refine x_iload_n (q := 62) dX1_signResult_61 rfl rfl ?_
    replace H := kite H; rcases H with ⟨g11, H⟩ | ⟨g11, H⟩
    · refine x_icmp_ge_t dX1_signResult_62 (q := 69) (by decide) g11 ?_
      refine x_iconst (q := 70) (v := (0 : Int32)) dX1_signResult_69 rfl (by decide) ?_
      cases H
      exact x_end ⟨dX1_signResult_70, rfl, rfl⟩
    · refine x_icmp_ge_f (q := 65) dX1_signResult_62 (t := 69) (by decide) rfl g11 ?_
      refine x_iconst (q := 66) (v := (1 : Int32)) dX1_signResult_65 rfl (by decide) ?_
      refine x_goto dX1_signResult_66 (q := 70) (by decide) ?_
      cases H
      exact x_end ⟨dX1_signResult_70, rfl, rfl⟩
  replace H := kite H; rcases H with ⟨g12, H⟩ | ⟨g12, H⟩
  · refine x_lookup (off := 81) dX1_signResult_1 (by decide) (by first | (rw [g12]; done) | (rw [g12]; decide)) (q := 82) (by decide) ?_
    refine x_iload_n (q := 83) dX1_signResult_82 rfl rfl ?_
    refine x_iload_n (q := 84) dX1_signResult_83 rfl rfl ?_
    replace H := kite H; rcases H with ⟨g13, H⟩ | ⟨g13, H⟩
    · refine x_icmp_ne_f (q := 87) dX1_signResult_84 (t := 91) (by decide) rfl g13 ?_
      refine x_iconst (q := 88) (v := (1 : Int32)) dX1_signResult_87 rfl (by decide) ?_
      refine x_goto dX1_signResult_88 (q := 92) (by decide) ?_
      cases H
      exact x_end ⟨dX1_signResult_92, rfl, rfl⟩
    · refine x_icmp_ne_t dX1_signResult_84 (q := 91) (by decide) g13 ?_
      refine x_iconst (q := 92) (v := (0 : Int32)) dX1_signResult_91 rfl (by decide) ?_
      cases H
      exact x_end ⟨dX1_signResult_92, rfl, rfl⟩
  replace H := kite H; rcases H with ⟨g14, H⟩ | ⟨g14, H⟩
  · refine x_lookup (off := 70) dX1_signResult_1 (by decide) (by first | (rw [g14]; done) | (rw [g14]; decide)) (q := 71) (by decide) ?_
    refine x_iload_n (q := 72) dX1_signResult_71 rfl rfl ?_
    refine x_iload_n (q := 73) dX1_signResult_72 rfl rfl ?_
    replace H := kite H; rcases H with ⟨g15, H⟩ | ⟨g15, H⟩
    · refine x_icmp_le_t dX1_signResult_73 (q := 80) (by decide) g15 ?_
      refine x_iconst (q := 81) (v := (0 : Int32)) dX1_signResult_80 rfl (by decide) ?_
      cases H
      exact x_end ⟨dX1_signResult_81, rfl, rfl⟩
    · refine x_icmp_le_f (q := 76) dX1_signResult_73 (t := 80) (by decide) rfl g15 ?_
      refine x_iconst (q := 77) (v := (1 : Int32)) dX1_signResult_76 rfl (by decide) ?_
      refine x_goto dX1_signResult_77 (q := 81) (by decide) ?_
      cases H
      exact x_end ⟨dX1_signResult_81, rfl, rfl⟩
  refine x_lookup (off := 119) dX1_signResult_1 (by decide) (by refine (lv_osw g1 (by decide)).trans ?_; refine (lv_osw g4 (by decide)).trans ?_; refine (lv_osw g7 (by decide)).trans ?_; refine (lv_osw g10 (by decide)).trans ?_; refine (lv_osw g12 (by decide)).trans ?_; refine (lv_osw g14 (by decide)).trans ?_; rfl) (q := 120) (by decide) ?_
  refine x_iload_n (q := 121) dX1_signResult_120 rfl rfl ?_
  replace H := kite H; rcases H with ⟨g16, H⟩ | ⟨g16, H⟩
  · refine x_if_ne_f (q := 124) dX1_signResult_121 (t := 128) (by decide) rfl g16 ?_
    refine x_lconst (q := 125) (v := (0 : Int64)) dX1_signResult_124 rfl (by decide) ?_
    refine x_goto dX1_signResult_125 (q := 134) (by decide) ?_
    refine x_sub (ls2 := []) [] rfl ?_
    exact s_X1_signResult_b134 h (0 : Int64) hn H
  · refine x_if_ne_t dX1_signResult_121 (q := 128) (by decide) g16 ?_
    refine x_iload_n (q := 129) dX1_signResult_128 rfl rfl ?_
    refine x_iload_n (q := 130) dX1_signResult_129 rfl rfl ?_
    replace H := kbe H; obtain ⟨r17, c18, H⟩ := H
    have m19 := s_J9_floorDiv_7cf53 (Z := Z) h v1 v2 hn c18
    refine x_callS (q := 133) (as := [.int v1, .int v2]) (rest := []) dX1_signResult_130 rfl kc_RX1_51 kh_J9_floorDiv_7cf53 (by decide) (Nat.le_of_ble_eq_true rfl) m19 ?_
    refine x_i2l (q := 134) dX1_signResult_133 rfl ?_
    refine x_sub (ls2 := []) [] rfl ?_
    exact s_X1_signResult_b134 h ((r17).toInt64) hn H
theorem s_X1_signResult {Z : Nat → (Nat → Nat) → State → Prop} (h : KH) (v0 : Int32) (v1 : Int32) (v2 : Int32) {t : Int32} (hn : h.1 = 243) (H : f_X1_signResult h v0 v1 v2 = some t) : KM Z yX1_signResult cX1_signResult 5 (some .int) 2 [.int v0, .int v1, .int v2] h (some (.int t)) h :=
  kx_i (own := RX1) (ini := false) (by decide +kernel) (by decide +kernel) rfl (Nat.le_of_ble_eq_true rfl) (s0_X1_signResult h v0 v1 v2 hn H)
theorem dX1_resultOf_0 : decode cX1_resultOf 0 = .ok (.iload_n 0, 1) := by decide +kernel
theorem dX1_resultOf_1 : decode cX1_resultOf 1 = .ok (.tableswitch 118 (-22) (-9) #[112, 106, 118, 71, 102, 98, 118, 118, 118, 118, 118, 118, 118, 75], 71) := by decide +kernel
theorem dX1_resultOf_72 : decode cX1_resultOf 72 = .ok (.iconst 1, 1) := by decide +kernel
theorem dX1_resultOf_73 : decode cX1_resultOf 73 = .ok (.iload_n 1, 1) := by decide +kernel
theorem dX1_resultOf_74 : decode cX1_resultOf 74 = .ok (.isub, 1) := by decide +kernel
theorem dX1_resultOf_75 : decode cX1_resultOf 75 = .ok (.ireturn, 1) := by decide +kernel
theorem dX1_resultOf_76 : decode cX1_resultOf 76 = .ok (.iload_n 1, 1) := by decide +kernel
theorem dX1_resultOf_77 : decode cX1_resultOf 77 = .ok (.ifCond .lt 20, 3) := by decide +kernel
theorem dX1_resultOf_80 : decode cX1_resultOf 80 = .ok (.iload_n 1, 1) := by decide +kernel
theorem dX1_resultOf_81 : decode cX1_resultOf 81 = .ok (.bipush 6, 2) := by decide +kernel
theorem dX1_resultOf_83 : decode cX1_resultOf 83 = .ok (.if_icmp .ge 14, 3) := by decide +kernel
theorem dX1_resultOf_86 : decode cX1_resultOf 86 = .ok (.aload_n 3, 1) := by decide +kernel
theorem dX1_resultOf_87 : decode cX1_resultOf 87 = .ok (.bipush 27, 2) := by decide +kernel
theorem dX1_resultOf_89 : decode cX1_resultOf 89 = .ok (.iload_n 1, 1) := by decide +kernel
theorem dX1_resultOf_90 : decode cX1_resultOf 90 = .ok (.iadd, 1) := by decide +kernel
theorem dX1_resultOf_91 : decode cX1_resultOf 91 = .ok (.invokestatic 34, 3) := by decide +kernel
theorem dX1_resultOf_94 : decode cX1_resultOf 94 = .ok (.goto 4, 3) := by decide +kernel
theorem dX1_resultOf_97 : decode cX1_resultOf 97 = .ok (.iconst 0, 1) := by decide +kernel
theorem dX1_resultOf_98 : decode cX1_resultOf 98 = .ok (.ireturn, 1) := by decide +kernel
theorem dX1_resultOf_99 : decode cX1_resultOf 99 = .ok (.iload_n 1, 1) := by decide +kernel
theorem dX1_resultOf_100 : decode cX1_resultOf 100 = .ok (.iload_n 2, 1) := by decide +kernel
theorem dX1_resultOf_101 : decode cX1_resultOf 101 = .ok (.ior, 1) := by decide +kernel
theorem dX1_resultOf_102 : decode cX1_resultOf 102 = .ok (.ireturn, 1) := by decide +kernel
theorem dX1_resultOf_103 : decode cX1_resultOf 103 = .ok (.iload_n 1, 1) := by decide +kernel
theorem dX1_resultOf_104 : decode cX1_resultOf 104 = .ok (.iload_n 2, 1) := by decide +kernel
theorem dX1_resultOf_105 : decode cX1_resultOf 105 = .ok (.iand, 1) := by decide +kernel
theorem dX1_resultOf_106 : decode cX1_resultOf 106 = .ok (.ireturn, 1) := by decide +kernel
theorem dX1_resultOf_107 : decode cX1_resultOf 107 = .ok (.iload_n 1, 1) := by decide +kernel
theorem dX1_resultOf_108 : decode cX1_resultOf 108 = .ok (.iload_n 2, 1) := by decide +kernel
theorem dX1_resultOf_109 : decode cX1_resultOf 109 = .ok (.invokestatic 38, 3) := by decide +kernel
theorem dX1_resultOf_112 : decode cX1_resultOf 112 = .ok (.ireturn, 1) := by decide +kernel
theorem dX1_resultOf_113 : decode cX1_resultOf 113 = .ok (.iload_n 1, 1) := by decide +kernel
theorem dX1_resultOf_114 : decode cX1_resultOf 114 = .ok (.iload_n 2, 1) := by decide +kernel
theorem dX1_resultOf_115 : decode cX1_resultOf 115 = .ok (.invokestatic 44, 3) := by decide +kernel
theorem dX1_resultOf_118 : decode cX1_resultOf 118 = .ok (.ireturn, 1) := by decide +kernel
theorem dX1_resultOf_119 : decode cX1_resultOf 119 = .ok (.iload_n 0, 1) := by decide +kernel
theorem dX1_resultOf_120 : decode cX1_resultOf 120 = .ok (.ifCond .lt 5, 3) := by decide +kernel
theorem dX1_resultOf_123 : decode cX1_resultOf 123 = .ok (.iload_n 0, 1) := by decide +kernel
theorem dX1_resultOf_124 : decode cX1_resultOf 124 = .ok (.ireturn, 1) := by decide +kernel
theorem dX1_resultOf_125 : decode cX1_resultOf 125 = .ok (.iload_n 0, 1) := by decide +kernel
theorem dX1_resultOf_126 : decode cX1_resultOf 126 = .ok (.bipush (-100), 2) := by decide +kernel
theorem dX1_resultOf_128 : decode cX1_resultOf 128 = .ok (.if_icmp .ge 15, 3) := by decide +kernel
theorem dX1_resultOf_131 : decode cX1_resultOf 131 = .ok (.bipush (-100), 2) := by decide +kernel
theorem dX1_resultOf_133 : decode cX1_resultOf 133 = .ok (.iload_n 0, 1) := by decide +kernel
theorem dX1_resultOf_134 : decode cX1_resultOf 134 = .ok (.isub, 1) := by decide +kernel
theorem dX1_resultOf_135 : decode cX1_resultOf 135 = .ok (.iload_n 1, 1) := by decide +kernel
theorem dX1_resultOf_136 : decode cX1_resultOf 136 = .ok (.iload_n 2, 1) := by decide +kernel
theorem dX1_resultOf_137 : decode cX1_resultOf 137 = .ok (.invokestatic 47, 3) := by decide +kernel
theorem dX1_resultOf_140 : decode cX1_resultOf 140 = .ok (.goto 10, 3) := by decide +kernel
theorem dX1_resultOf_143 : decode cX1_resultOf 143 = .ok (.aload_n 3, 1) := by decide +kernel
theorem dX1_resultOf_144 : decode cX1_resultOf 144 = .ok (.iconst (-1), 1) := by decide +kernel
theorem dX1_resultOf_145 : decode cX1_resultOf 145 = .ok (.iload_n 0, 1) := by decide +kernel
theorem dX1_resultOf_146 : decode cX1_resultOf 146 = .ok (.isub, 1) := by decide +kernel
theorem dX1_resultOf_147 : decode cX1_resultOf 147 = .ok (.invokestatic 34, 3) := by decide +kernel
theorem dX1_resultOf_150 : decode cX1_resultOf 150 = .ok (.ireturn, 1) := by decide +kernel
theorem kc_RX1_44 : Cond.methodLink RX1 44 yJ9_max_7cf53 ∈ ktG ∧ Cond.static yJ9_max_7cf53 ∈ ktG ∧ Cond.initialized yJ9_max_7cf53.cls ∈ ktG ∧ Cond.code yJ9_max_7cf53 cJ9_max_7cf53 2 (some .int) ∈ ktG := ⟨(kwm 866 (by decide +kernel) (by decide +kernel)), (kwm 867 (by decide +kernel) (by decide +kernel)), (kwm 142 (by decide +kernel) (by decide +kernel)), kwm 868 (by decide +kernel) (by decide +kernel)⟩
theorem kh_J9_max_7cf53 : yJ9_max_7cf53.cls ≠ "java/lang/invoke/MethodHandle" ∧ yJ9_max_7cf53.cls ≠ "java/lang/invoke/VarHandle" ∧ (parseMethodDescriptor yJ9_max_7cf53.desc).map (fun d => d.parameters.length) = some 2 := by decide +kernel
theorem kc_RX1_38 : Cond.methodLink RX1 38 yJ9_min_7cf53 ∈ ktG ∧ Cond.static yJ9_min_7cf53 ∈ ktG ∧ Cond.initialized yJ9_min_7cf53.cls ∈ ktG ∧ Cond.code yJ9_min_7cf53 cJ9_min_7cf53 2 (some .int) ∈ ktG := ⟨(kwm 865 (by decide +kernel) (by decide +kernel)), (kwm 810 (by decide +kernel) (by decide +kernel)), (kwm 142 (by decide +kernel) (by decide +kernel)), kwm 811 (by decide +kernel) (by decide +kernel)⟩
theorem kh_J9_min_7cf53 : yJ9_min_7cf53.cls ≠ "java/lang/invoke/MethodHandle" ∧ yJ9_min_7cf53.cls ≠ "java/lang/invoke/VarHandle" ∧ (parseMethodDescriptor yJ9_min_7cf53.desc).map (fun d => d.parameters.length) = some 2 := by decide +kernel
theorem kc_RX1_34 : Cond.methodLink RX1 34 yX1_valueAt ∈ ktG ∧ Cond.static yX1_valueAt ∈ ktG ∧ Cond.initialized yX1_valueAt.cls ∈ ktG ∧ Cond.code yX1_valueAt cX1_valueAt 2 (some .int) ∈ ktG := ⟨(kwm 862 (by decide +kernel) (by decide +kernel)), (kwm 863 (by decide +kernel) (by decide +kernel)), (kwm 126 (by decide +kernel) (by decide +kernel)), kwm 864 (by decide +kernel) (by decide +kernel)⟩
theorem kh_X1_valueAt : yX1_valueAt.cls ≠ "java/lang/invoke/MethodHandle" ∧ yX1_valueAt.cls ≠ "java/lang/invoke/VarHandle" ∧ (parseMethodDescriptor yX1_valueAt.desc).map (fun d => d.parameters.length) = some 2 := by decide +kernel
theorem kc_RX1_47 : Cond.methodLink RX1 47 yX1_signResult ∈ ktG ∧ Cond.static yX1_signResult ∈ ktG ∧ Cond.initialized yX1_signResult.cls ∈ ktG ∧ Cond.code yX1_signResult cX1_signResult 5 (some .int) ∈ ktG := ⟨(kwm 869 (by decide +kernel) (by decide +kernel)), (kwm 870 (by decide +kernel) (by decide +kernel)), (kwm 126 (by decide +kernel) (by decide +kernel)), kwm 871 (by decide +kernel) (by decide +kernel)⟩
theorem kh_X1_signResult : yX1_signResult.cls ≠ "java/lang/invoke/MethodHandle" ∧ yX1_signResult.cls ≠ "java/lang/invoke/VarHandle" ∧ (parseMethodDescriptor yX1_signResult.desc).map (fun d => d.parameters.length) = some 3 := by decide +kernel
def f_X1_resultOf (h : KH) (v0 : Int32) (v1 : Int32) (v2 : Int32) (v3 : Nat) : Option (Int32) :=
  if v0 = (-22 : Int32) then
  kb (f_J9_max_7cf53 h v1 v2) fun r2 =>
  some r2
  else if v0 = (-21 : Int32) then
  kb (f_J9_min_7cf53 h v1 v2) fun r6 =>
  some r6
  else if v0 = (-20 : Int32) then
  if v0 < 0 then
  if (-100 : Int32) ≤ v0 then
  kb (f_X1_valueAt h v3 ((-1 : Int32) - v0)) fun r12 =>
  some r12
  else
  kb (f_X1_signResult h ((-100 : Int32) - v0) v1 v2) fun r15 =>
  some r15
  else
  some v0
  else if v0 = (-19 : Int32) then
  some ((1 : Int32) - v1)
  else if v0 = (-18 : Int32) then
  some (v1 &&& v2)
  else if v0 = (-17 : Int32) then
  some (v1 ||| v2)
  else if v0 = (-16 : Int32) then
  if v0 < 0 then
  if (-100 : Int32) ≤ v0 then
  kb (f_X1_valueAt h v3 ((-1 : Int32) - v0)) fun r24 =>
  some r24
  else
  kb (f_X1_signResult h ((-100 : Int32) - v0) v1 v2) fun r27 =>
  some r27
  else
  some v0
  else if v0 = (-15 : Int32) then
  if v0 < 0 then
  if (-100 : Int32) ≤ v0 then
  kb (f_X1_valueAt h v3 ((-1 : Int32) - v0)) fun r33 =>
  some r33
  else
  kb (f_X1_signResult h ((-100 : Int32) - v0) v1 v2) fun r36 =>
  some r36
  else
  some v0
  else if v0 = (-14 : Int32) then
  if v0 < 0 then
  if (-100 : Int32) ≤ v0 then
  kb (f_X1_valueAt h v3 ((-1 : Int32) - v0)) fun r42 =>
  some r42
  else
  kb (f_X1_signResult h ((-100 : Int32) - v0) v1 v2) fun r45 =>
  some r45
  else
  some v0
  else if v0 = (-13 : Int32) then
  if v0 < 0 then
  if (-100 : Int32) ≤ v0 then
  kb (f_X1_valueAt h v3 ((-1 : Int32) - v0)) fun r51 =>
  some r51
  else
  kb (f_X1_signResult h ((-100 : Int32) - v0) v1 v2) fun r54 =>
  some r54
  else
  some v0
  else if v0 = (-12 : Int32) then
  if v0 < 0 then
  if (-100 : Int32) ≤ v0 then
  kb (f_X1_valueAt h v3 ((-1 : Int32) - v0)) fun r60 =>
  some r60
  else
  kb (f_X1_signResult h ((-100 : Int32) - v0) v1 v2) fun r63 =>
  some r63
  else
  some v0
  else if v0 = (-11 : Int32) then
  if v0 < 0 then
  if (-100 : Int32) ≤ v0 then
  kb (f_X1_valueAt h v3 ((-1 : Int32) - v0)) fun r69 =>
  some r69
  else
  kb (f_X1_signResult h ((-100 : Int32) - v0) v1 v2) fun r72 =>
  some r72
  else
  some v0
  else if v0 = (-10 : Int32) then
  if v0 < 0 then
  if (-100 : Int32) ≤ v0 then
  kb (f_X1_valueAt h v3 ((-1 : Int32) - v0)) fun r78 =>
  some r78
  else
  kb (f_X1_signResult h ((-100 : Int32) - v0) v1 v2) fun r81 =>
  some r81
  else
  some v0
  else if v0 = (-9 : Int32) then
  if v1 < 0 then
  some (0 : Int32)
  else
  if (6 : Int32) ≤ v1 then
  some (0 : Int32)
  else
  kb (f_X1_valueAt h v3 ((27 : Int32) + v1)) fun r87 =>
  some r87
  else 
  if v0 < 0 then
  if (-100 : Int32) ≤ v0 then
  kb (f_X1_valueAt h v3 ((-1 : Int32) - v0)) fun r92 =>
  some r92
  else
  kb (f_X1_signResult h ((-100 : Int32) - v0) v1 v2) fun r95 =>
  some r95
  else
  some v0
set_option maxHeartbeats 4000000 in
set_option maxRecDepth 100000 in
theorem s0_X1_resultOf {Z : Nat → (Nat → Nat) → State → Prop} (h : KH) (v0 : Int32) (v1 : Int32) (v2 : Int32) (v3 : Nat) {t : Int32} (hn : h.1 = 243) (H : f_X1_resultOf h v0 v1 v2 v3 = some t) : KX Z RX1 cX1_resultOf 4 false 3 (KRi cX1_resultOf t h) 0 [(0, .int v0), (1, .int v1), (2, .int v2), (3, .ref v3)] [] h := by
  unfold f_X1_resultOf at H
  refine x_iload_n (q := 1) dX1_resultOf_0 rfl rfl ?_
  replace H := kite H; rcases H with ⟨g1, H⟩ | ⟨g1, H⟩
  · refine x_tableIn (v := (-22 : Int32)) (off := 112) dX1_resultOf_1 g1 (by decide) (q := 113) (by decide) ?_
    refine x_iload_n (q := 114) dX1_resultOf_113 rfl rfl ?_
    refine x_iload_n (q := 115) dX1_resultOf_114 rfl rfl ?_
    replace H := kbe H; obtain ⟨r2, c3, H⟩ := H
    have m4 := s_J9_max_7cf53 (Z := Z) h v1 v2 hn c3
    refine x_callS (q := 118) (as := [.int v1, .int v2]) (rest := []) dX1_resultOf_115 rfl kc_RX1_44 kh_J9_max_7cf53 (by decide) (Nat.le_of_ble_eq_true rfl) m4 ?_
    cases H
    exact x_end ⟨dX1_resultOf_118, rfl, rfl⟩
  replace H := kite H; rcases H with ⟨g5, H⟩ | ⟨g5, H⟩
  · refine x_tableIn (v := (-21 : Int32)) (off := 106) dX1_resultOf_1 g5 (by decide) (q := 107) (by decide) ?_
    refine x_iload_n (q := 108) dX1_resultOf_107 rfl rfl ?_
    refine x_iload_n (q := 109) dX1_resultOf_108 rfl rfl ?_
    replace H := kbe H; obtain ⟨r6, c7, H⟩ := H
    have m8 := s_J9_min_7cf53 (Z := Z) h v1 v2 hn c7
    refine x_callS (q := 112) (as := [.int v1, .int v2]) (rest := []) dX1_resultOf_109 rfl kc_RX1_38 kh_J9_min_7cf53 (by decide) (Nat.le_of_ble_eq_true rfl) m8 ?_
    cases H
    exact x_end ⟨dX1_resultOf_112, rfl, rfl⟩
  replace H := kite H; rcases H with ⟨g9, H⟩ | ⟨g9, H⟩
  · refine x_tableIn (v := (-20 : Int32)) (off := 118) dX1_resultOf_1 g9 (by decide) (q := 119) (by decide) ?_
    refine x_iload_n (q := 120) dX1_resultOf_119 rfl rfl ?_
    replace H := kite H; rcases H with ⟨g10, H⟩ | ⟨g10, H⟩
    · refine x_if_lt_t dX1_resultOf_120 (q := 125) (by decide) g10 ?_
      refine x_iload_n (q := 126) dX1_resultOf_125 rfl rfl ?_
      refine x_bipush (q := 128) (v := (-100 : Int32)) dX1_resultOf_126 rfl (by decide) ?_
      replace H := kite H; rcases H with ⟨g11, H⟩ | ⟨g11, H⟩
      · refine x_icmp_ge_t dX1_resultOf_128 (q := 143) (by decide) g11 ?_
        refine x_aload_n (q := 144) dX1_resultOf_143 rfl rfl ?_
        refine x_iconst (q := 145) (v := (-1 : Int32)) dX1_resultOf_144 rfl (by decide) ?_
        refine x_iload_n (q := 146) dX1_resultOf_145 rfl rfl ?_
        refine x_isub (q := 147) dX1_resultOf_146 rfl ?_
        replace H := kbe H; obtain ⟨r12, c13, H⟩ := H
        have m14 := s_X1_valueAt (Z := Z) h v3 ((-1 : Int32) - v0) hn c13
        refine x_callS (q := 150) (as := [.ref v3, .int ((-1 : Int32) - v0)]) (rest := []) dX1_resultOf_147 rfl kc_RX1_34 kh_X1_valueAt (by decide) (Nat.le_of_ble_eq_true rfl) m14 ?_
        cases H
        exact x_end ⟨dX1_resultOf_150, rfl, rfl⟩
      · refine x_icmp_ge_f (q := 131) dX1_resultOf_128 (t := 143) (by decide) rfl g11 ?_
        refine x_bipush (q := 133) (v := (-100 : Int32)) dX1_resultOf_131 rfl (by decide) ?_
        refine x_iload_n (q := 134) dX1_resultOf_133 rfl rfl ?_
        refine x_isub (q := 135) dX1_resultOf_134 rfl ?_
        refine x_iload_n (q := 136) dX1_resultOf_135 rfl rfl ?_
        refine x_iload_n (q := 137) dX1_resultOf_136 rfl rfl ?_
        replace H := kbe H; obtain ⟨r15, c16, H⟩ := H
        have m17 := s_X1_signResult (Z := Z) h ((-100 : Int32) - v0) v1 v2 hn c16
        refine x_callS (q := 140) (as := [.int ((-100 : Int32) - v0), .int v1, .int v2]) (rest := []) dX1_resultOf_137 rfl kc_RX1_47 kh_X1_signResult (by decide) (Nat.le_of_ble_eq_true rfl) m17 ?_
        refine x_goto dX1_resultOf_140 (q := 150) (by decide) ?_
        cases H
        exact x_end ⟨dX1_resultOf_150, rfl, rfl⟩
    · refine x_if_lt_f (q := 123) dX1_resultOf_120 (t := 125) (by decide) rfl g10 ?_
      refine x_iload_n (q := 124) dX1_resultOf_123 rfl rfl ?_
      cases H
      exact x_end ⟨dX1_resultOf_124, rfl, rfl⟩
  replace H := kite H; rcases H with ⟨g18, H⟩ | ⟨g18, H⟩
  · refine x_tableIn (v := (-19 : Int32)) (off := 71) dX1_resultOf_1 g18 (by decide) (q := 72) (by decide) ?_
    refine x_iconst (q := 73) (v := (1 : Int32)) dX1_resultOf_72 rfl (by decide) ?_
    refine x_iload_n (q := 74) dX1_resultOf_73 rfl rfl ?_
    refine x_isub (q := 75) dX1_resultOf_74 rfl ?_
    cases H
    exact x_end ⟨dX1_resultOf_75, rfl, rfl⟩
  replace H := kite H; rcases H with ⟨g19, H⟩ | ⟨g19, H⟩
  · refine x_tableIn (v := (-18 : Int32)) (off := 102) dX1_resultOf_1 g19 (by decide) (q := 103) (by decide) ?_
    refine x_iload_n (q := 104) dX1_resultOf_103 rfl rfl ?_
    refine x_iload_n (q := 105) dX1_resultOf_104 rfl rfl ?_
    refine x_iand (q := 106) dX1_resultOf_105 rfl ?_
    cases H
    exact x_end ⟨dX1_resultOf_106, rfl, rfl⟩
  replace H := kite H; rcases H with ⟨g20, H⟩ | ⟨g20, H⟩
  · refine x_tableIn (v := (-17 : Int32)) (off := 98) dX1_resultOf_1 g20 (by decide) (q := 99) (by decide) ?_
    refine x_iload_n (q := 100) dX1_resultOf_99 rfl rfl ?_
    refine x_iload_n (q := 101) dX1_resultOf_100 rfl rfl ?_
    refine x_ior (q := 102) dX1_resultOf_101 rfl ?_
    cases H
    exact x_end ⟨dX1_resultOf_102, rfl, rfl⟩
  replace H := kite H; rcases H with ⟨g21, H⟩ | ⟨g21, H⟩
  · refine x_tableIn (v := (-16 : Int32)) (off := 118) dX1_resultOf_1 g21 (by decide) (q := 119) (by decide) ?_
    refine x_iload_n (q := 120) dX1_resultOf_119 rfl rfl ?_
    replace H := kite H; rcases H with ⟨g22, H⟩ | ⟨g22, H⟩
    · refine x_if_lt_t dX1_resultOf_120 (q := 125) (by decide) g22 ?_
      refine x_iload_n (q := 126) dX1_resultOf_125 rfl rfl ?_
      refine x_bipush (q := 128) (v := (-100 : Int32)) dX1_resultOf_126 rfl (by decide) ?_
      replace H := kite H; rcases H with ⟨g23, H⟩ | ⟨g23, H⟩
      · refine x_icmp_ge_t dX1_resultOf_128 (q := 143) (by decide) g23 ?_
        refine x_aload_n (q := 144) dX1_resultOf_143 rfl rfl ?_
        refine x_iconst (q := 145) (v := (-1 : Int32)) dX1_resultOf_144 rfl (by decide) ?_
        refine x_iload_n (q := 146) dX1_resultOf_145 rfl rfl ?_
        refine x_isub (q := 147) dX1_resultOf_146 rfl ?_
        replace H := kbe H; obtain ⟨r24, c25, H⟩ := H
        have m26 := s_X1_valueAt (Z := Z) h v3 ((-1 : Int32) - v0) hn c25
        refine x_callS (q := 150) (as := [.ref v3, .int ((-1 : Int32) - v0)]) (rest := []) dX1_resultOf_147 rfl kc_RX1_34 kh_X1_valueAt (by decide) (Nat.le_of_ble_eq_true rfl) m26 ?_
        cases H
        exact x_end ⟨dX1_resultOf_150, rfl, rfl⟩
      · refine x_icmp_ge_f (q := 131) dX1_resultOf_128 (t := 143) (by decide) rfl g23 ?_
        refine x_bipush (q := 133) (v := (-100 : Int32)) dX1_resultOf_131 rfl (by decide) ?_
        refine x_iload_n (q := 134) dX1_resultOf_133 rfl rfl ?_
        refine x_isub (q := 135) dX1_resultOf_134 rfl ?_
        refine x_iload_n (q := 136) dX1_resultOf_135 rfl rfl ?_
        refine x_iload_n (q := 137) dX1_resultOf_136 rfl rfl ?_
        replace H := kbe H; obtain ⟨r27, c28, H⟩ := H
        have m29 := s_X1_signResult (Z := Z) h ((-100 : Int32) - v0) v1 v2 hn c28
        refine x_callS (q := 140) (as := [.int ((-100 : Int32) - v0), .int v1, .int v2]) (rest := []) dX1_resultOf_137 rfl kc_RX1_47 kh_X1_signResult (by decide) (Nat.le_of_ble_eq_true rfl) m29 ?_
        refine x_goto dX1_resultOf_140 (q := 150) (by decide) ?_
        cases H
        exact x_end ⟨dX1_resultOf_150, rfl, rfl⟩
    · refine x_if_lt_f (q := 123) dX1_resultOf_120 (t := 125) (by decide) rfl g22 ?_
      refine x_iload_n (q := 124) dX1_resultOf_123 rfl rfl ?_
      cases H
      exact x_end ⟨dX1_resultOf_124, rfl, rfl⟩
  replace H := kite H; rcases H with ⟨g30, H⟩ | ⟨g30, H⟩
  · refine x_tableIn (v := (-15 : Int32)) (off := 118) dX1_resultOf_1 g30 (by decide) (q := 119) (by decide) ?_
    refine x_iload_n (q := 120) dX1_resultOf_119 rfl rfl ?_
    replace H := kite H; rcases H with ⟨g31, H⟩ | ⟨g31, H⟩
    · refine x_if_lt_t dX1_resultOf_120 (q := 125) (by decide) g31 ?_
      refine x_iload_n (q := 126) dX1_resultOf_125 rfl rfl ?_
      refine x_bipush (q := 128) (v := (-100 : Int32)) dX1_resultOf_126 rfl (by decide) ?_
      replace H := kite H; rcases H with ⟨g32, H⟩ | ⟨g32, H⟩
      · refine x_icmp_ge_t dX1_resultOf_128 (q := 143) (by decide) g32 ?_
        refine x_aload_n (q := 144) dX1_resultOf_143 rfl rfl ?_
        refine x_iconst (q := 145) (v := (-1 : Int32)) dX1_resultOf_144 rfl (by decide) ?_
        refine x_iload_n (q := 146) dX1_resultOf_145 rfl rfl ?_
        refine x_isub (q := 147) dX1_resultOf_146 rfl ?_
        replace H := kbe H; obtain ⟨r33, c34, H⟩ := H
        have m35 := s_X1_valueAt (Z := Z) h v3 ((-1 : Int32) - v0) hn c34
        refine x_callS (q := 150) (as := [.ref v3, .int ((-1 : Int32) - v0)]) (rest := []) dX1_resultOf_147 rfl kc_RX1_34 kh_X1_valueAt (by decide) (Nat.le_of_ble_eq_true rfl) m35 ?_
        cases H
        exact x_end ⟨dX1_resultOf_150, rfl, rfl⟩
      · refine x_icmp_ge_f (q := 131) dX1_resultOf_128 (t := 143) (by decide) rfl g32 ?_
        refine x_bipush (q := 133) (v := (-100 : Int32)) dX1_resultOf_131 rfl (by decide) ?_
        refine x_iload_n (q := 134) dX1_resultOf_133 rfl rfl ?_
        refine x_isub (q := 135) dX1_resultOf_134 rfl ?_
        refine x_iload_n (q := 136) dX1_resultOf_135 rfl rfl ?_
        refine x_iload_n (q := 137) dX1_resultOf_136 rfl rfl ?_
        replace H := kbe H; obtain ⟨r36, c37, H⟩ := H
        have m38 := s_X1_signResult (Z := Z) h ((-100 : Int32) - v0) v1 v2 hn c37
        refine x_callS (q := 140) (as := [.int ((-100 : Int32) - v0), .int v1, .int v2]) (rest := []) dX1_resultOf_137 rfl kc_RX1_47 kh_X1_signResult (by decide) (Nat.le_of_ble_eq_true rfl) m38 ?_
        refine x_goto dX1_resultOf_140 (q := 150) (by decide) ?_
        cases H
        exact x_end ⟨dX1_resultOf_150, rfl, rfl⟩
    · refine x_if_lt_f (q := 123) dX1_resultOf_120 (t := 125) (by decide) rfl g31 ?_
      refine x_iload_n (q := 124) dX1_resultOf_123 rfl rfl ?_
      cases H
      exact x_end ⟨dX1_resultOf_124, rfl, rfl⟩
  replace H := kite H; rcases H with ⟨g39, H⟩ | ⟨g39, H⟩
  · refine x_tableIn (v := (-14 : Int32)) (off := 118) dX1_resultOf_1 g39 (by decide) (q := 119) (by decide) ?_
    refine x_iload_n (q := 120) dX1_resultOf_119 rfl rfl ?_
    replace H := kite H; rcases H with ⟨g40, H⟩ | ⟨g40, H⟩
    · refine x_if_lt_t dX1_resultOf_120 (q := 125) (by decide) g40 ?_
      refine x_iload_n (q := 126) dX1_resultOf_125 rfl rfl ?_
      refine x_bipush (q := 128) (v := (-100 : Int32)) dX1_resultOf_126 rfl (by decide) ?_
      replace H := kite H; rcases H with ⟨g41, H⟩ | ⟨g41, H⟩
      · refine x_icmp_ge_t dX1_resultOf_128 (q := 143) (by decide) g41 ?_
        refine x_aload_n (q := 144) dX1_resultOf_143 rfl rfl ?_
        refine x_iconst (q := 145) (v := (-1 : Int32)) dX1_resultOf_144 rfl (by decide) ?_
        refine x_iload_n (q := 146) dX1_resultOf_145 rfl rfl ?_
        refine x_isub (q := 147) dX1_resultOf_146 rfl ?_
        replace H := kbe H; obtain ⟨r42, c43, H⟩ := H
        have m44 := s_X1_valueAt (Z := Z) h v3 ((-1 : Int32) - v0) hn c43
        refine x_callS (q := 150) (as := [.ref v3, .int ((-1 : Int32) - v0)]) (rest := []) dX1_resultOf_147 rfl kc_RX1_34 kh_X1_valueAt (by decide) (Nat.le_of_ble_eq_true rfl) m44 ?_
        cases H
        exact x_end ⟨dX1_resultOf_150, rfl, rfl⟩
      · refine x_icmp_ge_f (q := 131) dX1_resultOf_128 (t := 143) (by decide) rfl g41 ?_
        refine x_bipush (q := 133) (v := (-100 : Int32)) dX1_resultOf_131 rfl (by decide) ?_
        refine x_iload_n (q := 134) dX1_resultOf_133 rfl rfl ?_
        refine x_isub (q := 135) dX1_resultOf_134 rfl ?_
        refine x_iload_n (q := 136) dX1_resultOf_135 rfl rfl ?_
        refine x_iload_n (q := 137) dX1_resultOf_136 rfl rfl ?_
        replace H := kbe H; obtain ⟨r45, c46, H⟩ := H
        have m47 := s_X1_signResult (Z := Z) h ((-100 : Int32) - v0) v1 v2 hn c46
        refine x_callS (q := 140) (as := [.int ((-100 : Int32) - v0), .int v1, .int v2]) (rest := []) dX1_resultOf_137 rfl kc_RX1_47 kh_X1_signResult (by decide) (Nat.le_of_ble_eq_true rfl) m47 ?_
        refine x_goto dX1_resultOf_140 (q := 150) (by decide) ?_
        cases H
        exact x_end ⟨dX1_resultOf_150, rfl, rfl⟩
    · refine x_if_lt_f (q := 123) dX1_resultOf_120 (t := 125) (by decide) rfl g40 ?_
      refine x_iload_n (q := 124) dX1_resultOf_123 rfl rfl ?_
      cases H
      exact x_end ⟨dX1_resultOf_124, rfl, rfl⟩
  replace H := kite H; rcases H with ⟨g48, H⟩ | ⟨g48, H⟩
  · refine x_tableIn (v := (-13 : Int32)) (off := 118) dX1_resultOf_1 g48 (by decide) (q := 119) (by decide) ?_
    refine x_iload_n (q := 120) dX1_resultOf_119 rfl rfl ?_
    replace H := kite H; rcases H with ⟨g49, H⟩ | ⟨g49, H⟩
    · refine x_if_lt_t dX1_resultOf_120 (q := 125) (by decide) g49 ?_
      refine x_iload_n (q := 126) dX1_resultOf_125 rfl rfl ?_
      refine x_bipush (q := 128) (v := (-100 : Int32)) dX1_resultOf_126 rfl (by decide) ?_
      replace H := kite H; rcases H with ⟨g50, H⟩ | ⟨g50, H⟩
      · refine x_icmp_ge_t dX1_resultOf_128 (q := 143) (by decide) g50 ?_
        refine x_aload_n (q := 144) dX1_resultOf_143 rfl rfl ?_
        refine x_iconst (q := 145) (v := (-1 : Int32)) dX1_resultOf_144 rfl (by decide) ?_
        refine x_iload_n (q := 146) dX1_resultOf_145 rfl rfl ?_
        refine x_isub (q := 147) dX1_resultOf_146 rfl ?_
        replace H := kbe H; obtain ⟨r51, c52, H⟩ := H
        have m53 := s_X1_valueAt (Z := Z) h v3 ((-1 : Int32) - v0) hn c52
        refine x_callS (q := 150) (as := [.ref v3, .int ((-1 : Int32) - v0)]) (rest := []) dX1_resultOf_147 rfl kc_RX1_34 kh_X1_valueAt (by decide) (Nat.le_of_ble_eq_true rfl) m53 ?_
        cases H
        exact x_end ⟨dX1_resultOf_150, rfl, rfl⟩
      · refine x_icmp_ge_f (q := 131) dX1_resultOf_128 (t := 143) (by decide) rfl g50 ?_
        refine x_bipush (q := 133) (v := (-100 : Int32)) dX1_resultOf_131 rfl (by decide) ?_
        refine x_iload_n (q := 134) dX1_resultOf_133 rfl rfl ?_
        refine x_isub (q := 135) dX1_resultOf_134 rfl ?_
        refine x_iload_n (q := 136) dX1_resultOf_135 rfl rfl ?_
        refine x_iload_n (q := 137) dX1_resultOf_136 rfl rfl ?_
        replace H := kbe H; obtain ⟨r54, c55, H⟩ := H
        have m56 := s_X1_signResult (Z := Z) h ((-100 : Int32) - v0) v1 v2 hn c55
        refine x_callS (q := 140) (as := [.int ((-100 : Int32) - v0), .int v1, .int v2]) (rest := []) dX1_resultOf_137 rfl kc_RX1_47 kh_X1_signResult (by decide) (Nat.le_of_ble_eq_true rfl) m56 ?_
        refine x_goto dX1_resultOf_140 (q := 150) (by decide) ?_
        cases H
        exact x_end ⟨dX1_resultOf_150, rfl, rfl⟩
    · refine x_if_lt_f (q := 123) dX1_resultOf_120 (t := 125) (by decide) rfl g49 ?_
      refine x_iload_n (q := 124) dX1_resultOf_123 rfl rfl ?_
      cases H
      exact x_end ⟨dX1_resultOf_124, rfl, rfl⟩
  replace H := kite H; rcases H with ⟨g57, H⟩ | ⟨g57, H⟩
  · refine x_tableIn (v := (-12 : Int32)) (off := 118) dX1_resultOf_1 g57 (by decide) (q := 119) (by decide) ?_
    refine x_iload_n (q := 120) dX1_resultOf_119 rfl rfl ?_
    replace H := kite H; rcases H with ⟨g58, H⟩ | ⟨g58, H⟩
    · refine x_if_lt_t dX1_resultOf_120 (q := 125) (by decide) g58 ?_
      refine x_iload_n (q := 126) dX1_resultOf_125 rfl rfl ?_
      refine x_bipush (q := 128) (v := (-100 : Int32)) dX1_resultOf_126 rfl (by decide) ?_
      replace H := kite H; rcases H with ⟨g59, H⟩ | ⟨g59, H⟩
      · refine x_icmp_ge_t dX1_resultOf_128 (q := 143) (by decide) g59 ?_
        refine x_aload_n (q := 144) dX1_resultOf_143 rfl rfl ?_
        refine x_iconst (q := 145) (v := (-1 : Int32)) dX1_resultOf_144 rfl (by decide) ?_
        refine x_iload_n (q := 146) dX1_resultOf_145 rfl rfl ?_
        refine x_isub (q := 147) dX1_resultOf_146 rfl ?_
        replace H := kbe H; obtain ⟨r60, c61, H⟩ := H
        have m62 := s_X1_valueAt (Z := Z) h v3 ((-1 : Int32) - v0) hn c61
        refine x_callS (q := 150) (as := [.ref v3, .int ((-1 : Int32) - v0)]) (rest := []) dX1_resultOf_147 rfl kc_RX1_34 kh_X1_valueAt (by decide) (Nat.le_of_ble_eq_true rfl) m62 ?_
        cases H
        exact x_end ⟨dX1_resultOf_150, rfl, rfl⟩
      · refine x_icmp_ge_f (q := 131) dX1_resultOf_128 (t := 143) (by decide) rfl g59 ?_
        refine x_bipush (q := 133) (v := (-100 : Int32)) dX1_resultOf_131 rfl (by decide) ?_
        refine x_iload_n (q := 134) dX1_resultOf_133 rfl rfl ?_
        refine x_isub (q := 135) dX1_resultOf_134 rfl ?_
        refine x_iload_n (q := 136) dX1_resultOf_135 rfl rfl ?_
        refine x_iload_n (q := 137) dX1_resultOf_136 rfl rfl ?_
        replace H := kbe H; obtain ⟨r63, c64, H⟩ := H
        have m65 := s_X1_signResult (Z := Z) h ((-100 : Int32) - v0) v1 v2 hn c64
        refine x_callS (q := 140) (as := [.int ((-100 : Int32) - v0), .int v1, .int v2]) (rest := []) dX1_resultOf_137 rfl kc_RX1_47 kh_X1_signResult (by decide) (Nat.le_of_ble_eq_true rfl) m65 ?_
        refine x_goto dX1_resultOf_140 (q := 150) (by decide) ?_
        cases H
        exact x_end ⟨dX1_resultOf_150, rfl, rfl⟩
    · refine x_if_lt_f (q := 123) dX1_resultOf_120 (t := 125) (by decide) rfl g58 ?_
      refine x_iload_n (q := 124) dX1_resultOf_123 rfl rfl ?_
      cases H
      exact x_end ⟨dX1_resultOf_124, rfl, rfl⟩
  replace H := kite H; rcases H with ⟨g66, H⟩ | ⟨g66, H⟩
  · refine x_tableIn (v := (-11 : Int32)) (off := 118) dX1_resultOf_1 g66 (by decide) (q := 119) (by decide) ?_
    refine x_iload_n (q := 120) dX1_resultOf_119 rfl rfl ?_
    replace H := kite H; rcases H with ⟨g67, H⟩ | ⟨g67, H⟩
    · refine x_if_lt_t dX1_resultOf_120 (q := 125) (by decide) g67 ?_
      refine x_iload_n (q := 126) dX1_resultOf_125 rfl rfl ?_
      refine x_bipush (q := 128) (v := (-100 : Int32)) dX1_resultOf_126 rfl (by decide) ?_
      replace H := kite H; rcases H with ⟨g68, H⟩ | ⟨g68, H⟩
      · refine x_icmp_ge_t dX1_resultOf_128 (q := 143) (by decide) g68 ?_
        refine x_aload_n (q := 144) dX1_resultOf_143 rfl rfl ?_
        refine x_iconst (q := 145) (v := (-1 : Int32)) dX1_resultOf_144 rfl (by decide) ?_
        refine x_iload_n (q := 146) dX1_resultOf_145 rfl rfl ?_
        refine x_isub (q := 147) dX1_resultOf_146 rfl ?_
        replace H := kbe H; obtain ⟨r69, c70, H⟩ := H
        have m71 := s_X1_valueAt (Z := Z) h v3 ((-1 : Int32) - v0) hn c70
        refine x_callS (q := 150) (as := [.ref v3, .int ((-1 : Int32) - v0)]) (rest := []) dX1_resultOf_147 rfl kc_RX1_34 kh_X1_valueAt (by decide) (Nat.le_of_ble_eq_true rfl) m71 ?_
        cases H
        exact x_end ⟨dX1_resultOf_150, rfl, rfl⟩
      · refine x_icmp_ge_f (q := 131) dX1_resultOf_128 (t := 143) (by decide) rfl g68 ?_
        refine x_bipush (q := 133) (v := (-100 : Int32)) dX1_resultOf_131 rfl (by decide) ?_
        refine x_iload_n (q := 134) dX1_resultOf_133 rfl rfl ?_
        refine x_isub (q := 135) dX1_resultOf_134 rfl ?_
        refine x_iload_n (q := 136) dX1_resultOf_135 rfl rfl ?_
        refine x_iload_n (q := 137) dX1_resultOf_136 rfl rfl ?_
        replace H := kbe H; obtain ⟨r72, c73, H⟩ := H
        have m74 := s_X1_signResult (Z := Z) h ((-100 : Int32) - v0) v1 v2 hn c73
        refine x_callS (q := 140) (as := [.int ((-100 : Int32) - v0), .int v1, .int v2]) (rest := []) dX1_resultOf_137 rfl kc_RX1_47 kh_X1_signResult (by decide) (Nat.le_of_ble_eq_true rfl) m74 ?_
        refine x_goto dX1_resultOf_140 (q := 150) (by decide) ?_
        cases H
        exact x_end ⟨dX1_resultOf_150, rfl, rfl⟩
    · refine x_if_lt_f (q := 123) dX1_resultOf_120 (t := 125) (by decide) rfl g67 ?_
      refine x_iload_n (q := 124) dX1_resultOf_123 rfl rfl ?_
      cases H
      exact x_end ⟨dX1_resultOf_124, rfl, rfl⟩
  replace H := kite H; rcases H with ⟨g75, H⟩ | ⟨g75, H⟩
  · refine x_tableIn (v := (-10 : Int32)) (off := 118) dX1_resultOf_1 g75 (by decide) (q := 119) (by decide) ?_
    refine x_iload_n (q := 120) dX1_resultOf_119 rfl rfl ?_
    replace H := kite H; rcases H with ⟨g76, H⟩ | ⟨g76, H⟩
    · refine x_if_lt_t dX1_resultOf_120 (q := 125) (by decide) g76 ?_
      refine x_iload_n (q := 126) dX1_resultOf_125 rfl rfl ?_
      refine x_bipush (q := 128) (v := (-100 : Int32)) dX1_resultOf_126 rfl (by decide) ?_
      replace H := kite H; rcases H with ⟨g77, H⟩ | ⟨g77, H⟩
      · refine x_icmp_ge_t dX1_resultOf_128 (q := 143) (by decide) g77 ?_
        refine x_aload_n (q := 144) dX1_resultOf_143 rfl rfl ?_
        refine x_iconst (q := 145) (v := (-1 : Int32)) dX1_resultOf_144 rfl (by decide) ?_
        refine x_iload_n (q := 146) dX1_resultOf_145 rfl rfl ?_
        refine x_isub (q := 147) dX1_resultOf_146 rfl ?_
        replace H := kbe H; obtain ⟨r78, c79, H⟩ := H
        have m80 := s_X1_valueAt (Z := Z) h v3 ((-1 : Int32) - v0) hn c79
        refine x_callS (q := 150) (as := [.ref v3, .int ((-1 : Int32) - v0)]) (rest := []) dX1_resultOf_147 rfl kc_RX1_34 kh_X1_valueAt (by decide) (Nat.le_of_ble_eq_true rfl) m80 ?_
        cases H
        exact x_end ⟨dX1_resultOf_150, rfl, rfl⟩
      · refine x_icmp_ge_f (q := 131) dX1_resultOf_128 (t := 143) (by decide) rfl g77 ?_
        refine x_bipush (q := 133) (v := (-100 : Int32)) dX1_resultOf_131 rfl (by decide) ?_
        refine x_iload_n (q := 134) dX1_resultOf_133 rfl rfl ?_
        refine x_isub (q := 135) dX1_resultOf_134 rfl ?_
        refine x_iload_n (q := 136) dX1_resultOf_135 rfl rfl ?_
        refine x_iload_n (q := 137) dX1_resultOf_136 rfl rfl ?_
        replace H := kbe H; obtain ⟨r81, c82, H⟩ := H
        have m83 := s_X1_signResult (Z := Z) h ((-100 : Int32) - v0) v1 v2 hn c82
        refine x_callS (q := 140) (as := [.int ((-100 : Int32) - v0), .int v1, .int v2]) (rest := []) dX1_resultOf_137 rfl kc_RX1_47 kh_X1_signResult (by decide) (Nat.le_of_ble_eq_true rfl) m83 ?_
        refine x_goto dX1_resultOf_140 (q := 150) (by decide) ?_
        cases H
        exact x_end ⟨dX1_resultOf_150, rfl, rfl⟩
    · refine x_if_lt_f (q := 123) dX1_resultOf_120 (t := 125) (by decide) rfl g76 ?_
      refine x_iload_n (q := 124) dX1_resultOf_123 rfl rfl ?_
      cases H
      exact x_end ⟨dX1_resultOf_124, rfl, rfl⟩
  replace H := kite H; rcases H with ⟨g84, H⟩ | ⟨g84, H⟩
  · refine x_tableIn (v := (-9 : Int32)) (off := 75) dX1_resultOf_1 g84 (by decide) (q := 76) (by decide) ?_
    refine x_iload_n (q := 77) dX1_resultOf_76 rfl rfl ?_
    replace H := kite H; rcases H with ⟨g85, H⟩ | ⟨g85, H⟩
    · refine x_if_lt_t dX1_resultOf_77 (q := 97) (by decide) g85 ?_
      refine x_iconst (q := 98) (v := (0 : Int32)) dX1_resultOf_97 rfl (by decide) ?_
      cases H
      exact x_end ⟨dX1_resultOf_98, rfl, rfl⟩
    · refine x_if_lt_f (q := 80) dX1_resultOf_77 (t := 97) (by decide) rfl g85 ?_
      refine x_iload_n (q := 81) dX1_resultOf_80 rfl rfl ?_
      refine x_bipush (q := 83) (v := (6 : Int32)) dX1_resultOf_81 rfl (by decide) ?_
      replace H := kite H; rcases H with ⟨g86, H⟩ | ⟨g86, H⟩
      · refine x_icmp_ge_t dX1_resultOf_83 (q := 97) (by decide) g86 ?_
        refine x_iconst (q := 98) (v := (0 : Int32)) dX1_resultOf_97 rfl (by decide) ?_
        cases H
        exact x_end ⟨dX1_resultOf_98, rfl, rfl⟩
      · refine x_icmp_ge_f (q := 86) dX1_resultOf_83 (t := 97) (by decide) rfl g86 ?_
        refine x_aload_n (q := 87) dX1_resultOf_86 rfl rfl ?_
        refine x_bipush (q := 89) (v := (27 : Int32)) dX1_resultOf_87 rfl (by decide) ?_
        refine x_iload_n (q := 90) dX1_resultOf_89 rfl rfl ?_
        refine x_iadd (q := 91) dX1_resultOf_90 rfl ?_
        replace H := kbe H; obtain ⟨r87, c88, H⟩ := H
        have m89 := s_X1_valueAt (Z := Z) h v3 ((27 : Int32) + v1) hn c88
        refine x_callS (q := 94) (as := [.ref v3, .int ((27 : Int32) + v1)]) (rest := []) dX1_resultOf_91 rfl kc_RX1_34 kh_X1_valueAt (by decide) (Nat.le_of_ble_eq_true rfl) m89 ?_
        refine x_goto dX1_resultOf_94 (q := 98) (by decide) ?_
        cases H
        exact x_end ⟨dX1_resultOf_98, rfl, rfl⟩
  refine x_tableOut dX1_resultOf_1 (q := 119) (by decide) (by have z0 : v0.toInt ≠ -22 := kne g1 (by decide); have z1 : v0.toInt ≠ -21 := kne g5 (by decide); have z2 : v0.toInt ≠ -20 := kne g9 (by decide); have z3 : v0.toInt ≠ -19 := kne g18 (by decide); have z4 : v0.toInt ≠ -18 := kne g19 (by decide); have z5 : v0.toInt ≠ -17 := kne g20 (by decide); have z6 : v0.toInt ≠ -16 := kne g21 (by decide); have z7 : v0.toInt ≠ -15 := kne g30 (by decide); have z8 : v0.toInt ≠ -14 := kne g39 (by decide); have z9 : v0.toInt ≠ -13 := kne g48 (by decide); have z10 : v0.toInt ≠ -12 := kne g57 (by decide); have z11 : v0.toInt ≠ -11 := kne g66 (by decide); have z12 : v0.toInt ≠ -10 := kne g75 (by decide); have z13 : v0.toInt ≠ -9 := kne g84 (by decide); omega) ?_
  refine x_iload_n (q := 120) dX1_resultOf_119 rfl rfl ?_
  replace H := kite H; rcases H with ⟨g90, H⟩ | ⟨g90, H⟩
  · refine x_if_lt_t dX1_resultOf_120 (q := 125) (by decide) g90 ?_
    refine x_iload_n (q := 126) dX1_resultOf_125 rfl rfl ?_
    refine x_bipush (q := 128) (v := (-100 : Int32)) dX1_resultOf_126 rfl (by decide) ?_
    replace H := kite H; rcases H with ⟨g91, H⟩ | ⟨g91, H⟩
    · refine x_icmp_ge_t dX1_resultOf_128 (q := 143) (by decide) g91 ?_
      refine x_aload_n (q := 144) dX1_resultOf_143 rfl rfl ?_
      refine x_iconst (q := 145) (v := (-1 : Int32)) dX1_resultOf_144 rfl (by decide) ?_
      refine x_iload_n (q := 146) dX1_resultOf_145 rfl rfl ?_
      refine x_isub (q := 147) dX1_resultOf_146 rfl ?_
      replace H := kbe H; obtain ⟨r92, c93, H⟩ := H
      have m94 := s_X1_valueAt (Z := Z) h v3 ((-1 : Int32) - v0) hn c93
      refine x_callS (q := 150) (as := [.ref v3, .int ((-1 : Int32) - v0)]) (rest := []) dX1_resultOf_147 rfl kc_RX1_34 kh_X1_valueAt (by decide) (Nat.le_of_ble_eq_true rfl) m94 ?_
      cases H
      exact x_end ⟨dX1_resultOf_150, rfl, rfl⟩
    · refine x_icmp_ge_f (q := 131) dX1_resultOf_128 (t := 143) (by decide) rfl g91 ?_
      refine x_bipush (q := 133) (v := (-100 : Int32)) dX1_resultOf_131 rfl (by decide) ?_
      refine x_iload_n (q := 134) dX1_resultOf_133 rfl rfl ?_
      refine x_isub (q := 135) dX1_resultOf_134 rfl ?_
      refine x_iload_n (q := 136) dX1_resultOf_135 rfl rfl ?_
      refine x_iload_n (q := 137) dX1_resultOf_136 rfl rfl ?_
      replace H := kbe H; obtain ⟨r95, c96, H⟩ := H
      have m97 := s_X1_signResult (Z := Z) h ((-100 : Int32) - v0) v1 v2 hn c96
      refine x_callS (q := 140) (as := [.int ((-100 : Int32) - v0), .int v1, .int v2]) (rest := []) dX1_resultOf_137 rfl kc_RX1_47 kh_X1_signResult (by decide) (Nat.le_of_ble_eq_true rfl) m97 ?_
      refine x_goto dX1_resultOf_140 (q := 150) (by decide) ?_
      cases H
      exact x_end ⟨dX1_resultOf_150, rfl, rfl⟩
  · refine x_if_lt_f (q := 123) dX1_resultOf_120 (t := 125) (by decide) rfl g90 ?_
    refine x_iload_n (q := 124) dX1_resultOf_123 rfl rfl ?_
    cases H
    exact x_end ⟨dX1_resultOf_124, rfl, rfl⟩
theorem s_X1_resultOf {Z : Nat → (Nat → Nat) → State → Prop} (h : KH) (v0 : Int32) (v1 : Int32) (v2 : Int32) (v3 : Nat) {t : Int32} (hn : h.1 = 243) (H : f_X1_resultOf h v0 v1 v2 v3 = some t) : KM Z yX1_resultOf cX1_resultOf 4 (some .int) 3 [.int v0, .int v1, .int v2, .ref v3] h (some (.int t)) h :=
  kx_i (own := RX1) (ini := false) (by decide +kernel) (by decide +kernel) rfl (Nat.le_of_ble_eq_true rfl) (s0_X1_resultOf h v0 v1 v2 v3 hn H)
theorem dX1_resultFor_0 : decode cX1_resultFor 0 = .ok (.iconst 0, 1) := by decide +kernel
theorem dX1_resultFor_1 : decode cX1_resultFor 1 = .ok (.istore_n 2, 1) := by decide +kernel
theorem dX1_resultFor_2 : decode cX1_resultFor 2 = .ok (.iconst 0, 1) := by decide +kernel
theorem dX1_resultFor_3 : decode cX1_resultFor 3 = .ok (.istore_n 3, 1) := by decide +kernel
theorem dX1_resultFor_4 : decode cX1_resultFor 4 = .ok (.iload_n 3, 1) := by decide +kernel
theorem dX1_resultFor_5 : decode cX1_resultFor 5 = .ok (.aload_n 0, 1) := by decide +kernel
theorem dX1_resultFor_6 : decode cX1_resultFor 6 = .ok (.getfield 18, 3) := by decide +kernel
theorem dX1_resultFor_9 : decode cX1_resultFor 9 = .ok (.if_icmp .ge 105, 3) := by decide +kernel
theorem dX1_resultFor_12 : decode cX1_resultFor 12 = .ok (.aload_n 0, 1) := by decide +kernel
theorem dX1_resultFor_13 : decode cX1_resultFor 13 = .ok (.getfield 9, 3) := by decide +kernel
theorem dX1_resultFor_16 : decode cX1_resultFor 16 = .ok (.iload_n 3, 1) := by decide +kernel
theorem dX1_resultFor_17 : decode cX1_resultFor 17 = .ok (.iaload, 1) := by decide +kernel
theorem dX1_resultFor_18 : decode cX1_resultFor 18 = .ok (.istore 4, 2) := by decide +kernel
theorem dX1_resultFor_20 : decode cX1_resultFor 20 = .ok (.iload 4, 2) := by decide +kernel
theorem dX1_resultFor_22 : decode cX1_resultFor 22 = .ok (.invokestatic 26, 3) := by decide +kernel
theorem dX1_resultFor_25 : decode cX1_resultFor 25 = .ok (.istore 5, 2) := by decide +kernel
theorem dX1_resultFor_27 : decode cX1_resultFor 27 = .ok (.iload_n 2, 1) := by decide +kernel
theorem dX1_resultFor_28 : decode cX1_resultFor 28 = .ok (.iload 5, 2) := by decide +kernel
theorem dX1_resultFor_30 : decode cX1_resultFor 30 = .ok (.if_icmp .lt 15, 3) := by decide +kernel
theorem dX1_resultFor_33 : decode cX1_resultFor 33 = .ok (.iload_n 2, 1) := by decide +kernel
theorem dX1_resultFor_34 : decode cX1_resultFor 34 = .ok (.iload 5, 2) := by decide +kernel
theorem dX1_resultFor_36 : decode cX1_resultFor 36 = .ok (.isub, 1) := by decide +kernel
theorem dX1_resultFor_37 : decode cX1_resultFor 37 = .ok (.aload_n 0, 1) := by decide +kernel
theorem dX1_resultFor_38 : decode cX1_resultFor 38 = .ok (.getfield 15, 3) := by decide +kernel
theorem dX1_resultFor_41 : decode cX1_resultFor 41 = .ok (.arraylength, 1) := by decide +kernel
theorem dX1_resultFor_42 : decode cX1_resultFor 42 = .ok (.if_icmp .lt 5, 3) := by decide +kernel
theorem dX1_resultFor_45 : decode cX1_resultFor 45 = .ok (.iconst 0, 1) := by decide +kernel
theorem dX1_resultFor_46 : decode cX1_resultFor 46 = .ok (.ireturn, 1) := by decide +kernel
theorem dX1_resultFor_47 : decode cX1_resultFor 47 = .ok (.iload_n 2, 1) := by decide +kernel
theorem dX1_resultFor_48 : decode cX1_resultFor 48 = .ok (.iload 5, 2) := by decide +kernel
theorem dX1_resultFor_50 : decode cX1_resultFor 50 = .ok (.isub, 1) := by decide +kernel
theorem dX1_resultFor_51 : decode cX1_resultFor 51 = .ok (.istore_n 2, 1) := by decide +kernel
theorem dX1_resultFor_52 : decode cX1_resultFor 52 = .ok (.iload 5, 2) := by decide +kernel
theorem dX1_resultFor_54 : decode cX1_resultFor 54 = .ok (.ifCond .le 12, 3) := by decide +kernel
theorem dX1_resultFor_57 : decode cX1_resultFor 57 = .ok (.aload_n 0, 1) := by decide +kernel
theorem dX1_resultFor_58 : decode cX1_resultFor 58 = .ok (.getfield 15, 3) := by decide +kernel
theorem dX1_resultFor_61 : decode cX1_resultFor 61 = .ok (.iload_n 2, 1) := by decide +kernel
theorem dX1_resultFor_62 : decode cX1_resultFor 62 = .ok (.iaload, 1) := by decide +kernel
theorem dX1_resultFor_63 : decode cX1_resultFor 63 = .ok (.goto 4, 3) := by decide +kernel
theorem dX1_resultFor_66 : decode cX1_resultFor 66 = .ok (.iconst 0, 1) := by decide +kernel
theorem dX1_resultFor_67 : decode cX1_resultFor 67 = .ok (.istore 6, 2) := by decide +kernel
theorem dX1_resultFor_69 : decode cX1_resultFor 69 = .ok (.iload 5, 2) := by decide +kernel
theorem dX1_resultFor_71 : decode cX1_resultFor 71 = .ok (.iconst 1, 1) := by decide +kernel
theorem dX1_resultFor_72 : decode cX1_resultFor 72 = .ok (.if_icmp .le 14, 3) := by decide +kernel
theorem dX1_resultFor_75 : decode cX1_resultFor 75 = .ok (.aload_n 0, 1) := by decide +kernel
theorem dX1_resultFor_76 : decode cX1_resultFor 76 = .ok (.getfield 15, 3) := by decide +kernel
theorem dX1_resultFor_79 : decode cX1_resultFor 79 = .ok (.iload_n 2, 1) := by decide +kernel
theorem dX1_resultFor_80 : decode cX1_resultFor 80 = .ok (.iconst 1, 1) := by decide +kernel
theorem dX1_resultFor_81 : decode cX1_resultFor 81 = .ok (.iadd, 1) := by decide +kernel
theorem dX1_resultFor_82 : decode cX1_resultFor 82 = .ok (.iaload, 1) := by decide +kernel
theorem dX1_resultFor_83 : decode cX1_resultFor 83 = .ok (.goto 4, 3) := by decide +kernel
theorem dX1_resultFor_86 : decode cX1_resultFor 86 = .ok (.iconst 0, 1) := by decide +kernel
theorem dX1_resultFor_87 : decode cX1_resultFor 87 = .ok (.istore 7, 2) := by decide +kernel
theorem dX1_resultFor_89 : decode cX1_resultFor 89 = .ok (.aload_n 0, 1) := by decide +kernel
theorem dX1_resultFor_90 : decode cX1_resultFor 90 = .ok (.getfield 15, 3) := by decide +kernel
theorem dX1_resultFor_93 : decode cX1_resultFor 93 = .ok (.iload_n 2, 1) := by decide +kernel
theorem dX1_resultFor_94 : decode cX1_resultFor 94 = .ok (.iload 4, 2) := by decide +kernel
theorem dX1_resultFor_96 : decode cX1_resultFor 96 = .ok (.iload 6, 2) := by decide +kernel
theorem dX1_resultFor_98 : decode cX1_resultFor 98 = .ok (.iload 7, 2) := by decide +kernel
theorem dX1_resultFor_100 : decode cX1_resultFor 100 = .ok (.aload_n 1, 1) := by decide +kernel
theorem dX1_resultFor_101 : decode cX1_resultFor 101 = .ok (.invokestatic 30, 3) := by decide +kernel
theorem dX1_resultFor_104 : decode cX1_resultFor 104 = .ok (.iastore, 1) := by decide +kernel
theorem dX1_resultFor_105 : decode cX1_resultFor 105 = .ok (.iinc 2 1, 3) := by decide +kernel
theorem dX1_resultFor_108 : decode cX1_resultFor 108 = .ok (.iinc 3 1, 3) := by decide +kernel
theorem dX1_resultFor_111 : decode cX1_resultFor 111 = .ok (.goto (-107), 3) := by decide +kernel
theorem dX1_resultFor_114 : decode cX1_resultFor 114 = .ok (.iload_n 2, 1) := by decide +kernel
theorem dX1_resultFor_115 : decode cX1_resultFor 115 = .ok (.ifCond .le 14, 3) := by decide +kernel
theorem dX1_resultFor_118 : decode cX1_resultFor 118 = .ok (.aload_n 0, 1) := by decide +kernel
theorem dX1_resultFor_119 : decode cX1_resultFor 119 = .ok (.getfield 15, 3) := by decide +kernel
theorem dX1_resultFor_122 : decode cX1_resultFor 122 = .ok (.iload_n 2, 1) := by decide +kernel
theorem dX1_resultFor_123 : decode cX1_resultFor 123 = .ok (.iconst 1, 1) := by decide +kernel
theorem dX1_resultFor_124 : decode cX1_resultFor 124 = .ok (.isub, 1) := by decide +kernel
theorem dX1_resultFor_125 : decode cX1_resultFor 125 = .ok (.iaload, 1) := by decide +kernel
theorem dX1_resultFor_126 : decode cX1_resultFor 126 = .ok (.goto 4, 3) := by decide +kernel
theorem dX1_resultFor_129 : decode cX1_resultFor 129 = .ok (.iconst 0, 1) := by decide +kernel
theorem dX1_resultFor_130 : decode cX1_resultFor 130 = .ok (.ireturn, 1) := by decide +kernel
theorem kc_RX1_26 : Cond.methodLink RX1 26 yX1_needOf ∈ ktG ∧ Cond.static yX1_needOf ∈ ktG ∧ Cond.initialized yX1_needOf.cls ∈ ktG ∧ Cond.code yX1_needOf cX1_needOf 1 (some .int) ∈ ktG := ⟨(kwm 856 (by decide +kernel) (by decide +kernel)), (kwm 857 (by decide +kernel) (by decide +kernel)), (kwm 126 (by decide +kernel) (by decide +kernel)), kwm 858 (by decide +kernel) (by decide +kernel)⟩
theorem kh_X1_needOf : yX1_needOf.cls ≠ "java/lang/invoke/MethodHandle" ∧ yX1_needOf.cls ≠ "java/lang/invoke/VarHandle" ∧ (parseMethodDescriptor yX1_needOf.desc).map (fun d => d.parameters.length) = some 1 := by decide +kernel
theorem kl_RX1_15 : KLk RX1 15 1 1 := ⟨RX1, TX1, 3, rfl, by decide, Or.inl (kwm 181 (by decide +kernel) (by decide +kernel))⟩
theorem kc_RX1_30 : Cond.methodLink RX1 30 yX1_resultOf ∈ ktG ∧ Cond.static yX1_resultOf ∈ ktG ∧ Cond.initialized yX1_resultOf.cls ∈ ktG ∧ Cond.code yX1_resultOf cX1_resultOf 4 (some .int) ∈ ktG := ⟨(kwm 859 (by decide +kernel) (by decide +kernel)), (kwm 860 (by decide +kernel) (by decide +kernel)), (kwm 126 (by decide +kernel) (by decide +kernel)), kwm 861 (by decide +kernel) (by decide +kernel)⟩
theorem kh_X1_resultOf : yX1_resultOf.cls ≠ "java/lang/invoke/MethodHandle" ∧ yX1_resultOf.cls ≠ "java/lang/invoke/VarHandle" ∧ (parseMethodDescriptor yX1_resultOf.desc).map (fun d => d.parameters.length) = some 4 := by decide +kernel
def E_X1_resultFor_l4 (v0 : Nat) (v1 : Nat) : ((Int32 × KH) ⊕ (Int32 × KH)) → Nat → List (Nat × Value) → List Value → KH → Prop := Sum.elim (fun (e : Int32 × KH) pc ls st hh => pc = 114 ∧ ls = [(0, .ref v0), (2, .int e.1)] ∧ st = [] ∧ e.2 = hh) (fun o => (KRi cX1_resultFor o.1 o.2))
def B_X1_resultFor_l4 (v0 : Nat) (v1 : Nat) : ((Int32 × Int32 × KH) ⊕ ((Int32 × KH) ⊕ (Int32 × KH))) → Nat → List (Nat × Value) → List Value → KH → Prop := Sum.elim (fun (s : Int32 × Int32 × KH) pc ls st hh => pc = 4 ∧ ls = [(0, .ref v0), (1, .ref v1), (2, .int s.1), (3, .int s.2.1)] ∧ st = [] ∧ hh = s.2.2) (E_X1_resultFor_l4 v0 v1)
def f_X1_resultFor_b87 (h : KH) (v0 : Nat) (v1 : Nat) (v2 : Int32) (v3 : Int32) (v4 : Int32) (v6 : Int32) (w0 : Int32) : Option ((Int32 × Int32 × KH) ⊕ ((Int32 × KH) ⊕ (Int32 × KH))) :=
  if kkind v0 = 1 then if (kR h v0 1) < 999999 then kb (f_X1_resultOf h v4 v6 w0 v1) fun r3 =>
  if kkind (kR h v0 1) = 20 then if (v2 < 0 ∨ klen (kR h v0 1) ≤ (v2).toNatClampNeg) then none else kl (ksI h (kR h v0 1) ((v2).toNatClampNeg) r3) fun h8 =>
  kl (v2 + (1 : Int32)) fun x11 =>
  kl (v3 + (1 : Int32)) fun x13 =>
  some (.inl (x11, x13, h8)) else none else none else none
set_option maxHeartbeats 4000000 in
set_option maxRecDepth 100000 in
theorem s_X1_resultFor_b87 {Z : Nat → (Nat → Nat) → State → Prop} (h : KH) (v0 : Nat) (v1 : Nat) (v2 : Int32) (v3 : Int32) (v4 : Int32) (v6 : Int32) (w0 : Int32) {t : (Int32 × Int32 × KH) ⊕ ((Int32 × KH) ⊕ (Int32 × KH))} (hn : h.1 = 243) (H : f_X1_resultFor_b87 h v0 v1 v2 v3 v4 v6 w0 = some t) : KX Z RX1 cX1_resultFor 8 false 4 (B_X1_resultFor_l4 v0 v1 t) 87 [(0, .ref v0), (1, .ref v1), (2, .int v2), (3, .int v3), (4, .int v4), (6, .int v6)] [.int w0] h := by
  unfold f_X1_resultFor_b87 at H
  refine x_istore (q := 89) (i := 7) (ls2 := [(7, .int w0), (0, .ref v0), (1, .ref v1), (2, .int v2), (3, .int v3), (4, .int v4), (6, .int v6)]) dX1_resultFor_87 rfl (by decide) rfl ?_
  refine x_aload_n (q := 90) dX1_resultFor_89 rfl rfl ?_
  replace H := kif H; obtain ⟨g1, H⟩ := H
  replace H := kif H; obtain ⟨g2, H⟩ := H
  refine x_getR (q := 93) dX1_resultFor_90 rfl kl_RX1_15 rfl (k243 g1 (by decide) hn) g2 ?_
  refine x_iload_n (q := 94) dX1_resultFor_93 rfl rfl ?_
  refine x_iload (q := 96) dX1_resultFor_94 rfl rfl ?_
  refine x_iload (q := 98) dX1_resultFor_96 rfl rfl ?_
  refine x_iload (q := 100) dX1_resultFor_98 rfl rfl ?_
  refine x_aload_n (q := 101) dX1_resultFor_100 rfl rfl ?_
  replace H := kbe H; obtain ⟨r3, c4, H⟩ := H
  have m5 := s_X1_resultOf (Z := Z) h v4 v6 w0 v1 hn c4
  refine x_callS (q := 104) (as := [.int v4, .int v6, .int w0, .ref v1]) (rest := [.int v2, .ref (kR h v0 1)]) dX1_resultFor_101 rfl kc_RX1_30 kh_X1_resultOf (by decide) (Nat.le_of_ble_eq_true rfl) m5 ?_
  replace H := kif H; obtain ⟨g6, H⟩ := H
  replace H := kifn H; obtain ⟨g7, H⟩ := H
  replace H := kle H; obtain ⟨h8, q9, H⟩ := H
  refine x_iast (q := 105) dX1_resultFor_104 rfl (k243 g6 (by decide) hn) g7 ?_
  refine x_nmH q9 ?_
  have n10 : h8.1 = 243 := by rw [q9]; exact hn
  replace H := kle H; obtain ⟨x11, q12, H⟩ := H
  refine x_iinc (q := 108) (i := 2) (ls2 := [(2, .int x11), (7, .int w0), (0, .ref v0), (1, .ref v1), (3, .int v3), (4, .int v4), (6, .int v6)]) dX1_resultFor_105 rfl rfl (by decide) (by rw [q12]; rfl) ?_
  replace H := kle H; obtain ⟨x13, q14, H⟩ := H
  refine x_iinc (q := 111) (i := 3) (ls2 := [(3, .int x13), (2, .int x11), (7, .int w0), (0, .ref v0), (1, .ref v1), (4, .int v4), (6, .int v6)]) dX1_resultFor_108 rfl rfl (by decide) (by rw [q14]; rfl) ?_
  refine x_goto dX1_resultFor_111 (q := 4) (by decide) ?_
  cases H
  refine x_sub (ls2 := [(0, .ref v0), (1, .ref v1), (2, .int x11), (3, .int x13)]) [3, 4, 1, 0] rfl ?_
  exact x_end (x_cfg rfl)
def f_X1_resultFor_b67 (h : KH) (v0 : Nat) (v1 : Nat) (v2 : Int32) (v3 : Int32) (v4 : Int32) (v5 : Int32) (w0 : Int32) : Option ((Int32 × Int32 × KH) ⊕ ((Int32 × KH) ⊕ (Int32 × KH))) :=
  if v5 ≤ (1 : Int32) then
  f_X1_resultFor_b87 h v0 v1 v2 v3 v4 w0 (0 : Int32)
  else
  if kkind v0 = 1 then if (kR h v0 1) < 999999 then if kkind (kR h v0 1) = 20 then if ((v2 + (1 : Int32)) < 0 ∨ klen (kR h v0 1) ≤ ((v2 + (1 : Int32))).toNatClampNeg) then none else f_X1_resultFor_b87 h v0 v1 v2 v3 v4 w0 (kI h (kR h v0 1) (((v2 + (1 : Int32))).toNatClampNeg)) else none else none else none
set_option maxHeartbeats 4000000 in
set_option maxRecDepth 100000 in
theorem s_X1_resultFor_b67 {Z : Nat → (Nat → Nat) → State → Prop} (h : KH) (v0 : Nat) (v1 : Nat) (v2 : Int32) (v3 : Int32) (v4 : Int32) (v5 : Int32) (w0 : Int32) {t : (Int32 × Int32 × KH) ⊕ ((Int32 × KH) ⊕ (Int32 × KH))} (hn : h.1 = 243) (H : f_X1_resultFor_b67 h v0 v1 v2 v3 v4 v5 w0 = some t) : KX Z RX1 cX1_resultFor 8 false 4 (B_X1_resultFor_l4 v0 v1 t) 67 [(0, .ref v0), (1, .ref v1), (2, .int v2), (3, .int v3), (4, .int v4), (5, .int v5)] [.int w0] h := by
  unfold f_X1_resultFor_b67 at H
  refine x_istore (q := 69) (i := 6) (ls2 := [(6, .int w0), (0, .ref v0), (1, .ref v1), (2, .int v2), (3, .int v3), (4, .int v4), (5, .int v5)]) dX1_resultFor_67 rfl (by decide) rfl ?_
  refine x_iload (q := 71) dX1_resultFor_69 rfl rfl ?_
  refine x_iconst (q := 72) (v := (1 : Int32)) dX1_resultFor_71 rfl (by decide) ?_
  replace H := kite H; rcases H with ⟨g1, H⟩ | ⟨g1, H⟩
  · refine x_icmp_le_t dX1_resultFor_72 (q := 86) (by decide) g1 ?_
    refine x_iconst (q := 87) (v := (0 : Int32)) dX1_resultFor_86 rfl (by decide) ?_
    refine x_sub (ls2 := [(0, .ref v0), (1, .ref v1), (2, .int v2), (3, .int v3), (4, .int v4), (6, .int w0)]) [1, 2, 3, 4, 5, 0] rfl ?_
    exact s_X1_resultFor_b87 h v0 v1 v2 v3 v4 w0 (0 : Int32) hn H
  · refine x_icmp_le_f (q := 75) dX1_resultFor_72 (t := 86) (by decide) rfl g1 ?_
    refine x_aload_n (q := 76) dX1_resultFor_75 rfl rfl ?_
    replace H := kif H; obtain ⟨g2, H⟩ := H
    replace H := kif H; obtain ⟨g3, H⟩ := H
    refine x_getR (q := 79) dX1_resultFor_76 rfl kl_RX1_15 rfl (k243 g2 (by decide) hn) g3 ?_
    refine x_iload_n (q := 80) dX1_resultFor_79 rfl rfl ?_
    refine x_iconst (q := 81) (v := (1 : Int32)) dX1_resultFor_80 rfl (by decide) ?_
    refine x_iadd (q := 82) dX1_resultFor_81 rfl ?_
    replace H := kif H; obtain ⟨g4, H⟩ := H
    replace H := kifn H; obtain ⟨g5, H⟩ := H
    refine x_iald (q := 83) dX1_resultFor_82 rfl (k243 g4 (by decide) hn) g5 ?_
    refine x_goto dX1_resultFor_83 (q := 87) (by decide) ?_
    refine x_sub (ls2 := [(0, .ref v0), (1, .ref v1), (2, .int v2), (3, .int v3), (4, .int v4), (6, .int w0)]) [1, 2, 3, 4, 5, 0] rfl ?_
    exact s_X1_resultFor_b87 h v0 v1 v2 v3 v4 w0 (kI h (kR h v0 1) (((v2 + (1 : Int32))).toNatClampNeg)) hn H
def f_X1_resultFor_l4 (v0 : Nat) (v1 : Nat) (s : Int32 × Int32 × KH) : Option ((Int32 × Int32 × KH) ⊕ ((Int32 × KH) ⊕ (Int32 × KH))) :=
  if kkind v0 = 1 then if (kI s.2.2 v0 2) ≤ s.2.1 then
  some (.inr (.inl (s.1, s.2.2)))
  else
  if (kR s.2.2 v0 0) < 999999 then if kkind (kR s.2.2 v0 0) = 20 then if (s.2.1 < 0 ∨ klen (kR s.2.2 v0 0) ≤ (s.2.1).toNatClampNeg) then none else kl (kI s.2.2 (kR s.2.2 v0 0) ((s.2.1).toNatClampNeg)) fun x6 =>
  kb (f_X1_needOf s.2.2 x6) fun r8 =>
  if s.1 < r8 then
  kout2 (some ((0 : Int32), s.2.2))
  else
  if (kR s.2.2 v0 1) < 999999 then if kkind (kR s.2.2 v0 1) = 20 then if (s.1 - r8) < (Int32.ofNat (klen (kR s.2.2 v0 1))) then
  kl (s.1 - r8) fun x16 =>
  if r8 ≤ 0 then
  f_X1_resultFor_b67 s.2.2 v0 v1 x16 s.2.1 x6 r8 (0 : Int32)
  else
  if (x16 < 0 ∨ klen (kR s.2.2 v0 1) ≤ (x16).toNatClampNeg) then none else f_X1_resultFor_b67 s.2.2 v0 v1 x16 s.2.1 x6 r8 (kI s.2.2 (kR s.2.2 v0 1) ((x16).toNatClampNeg))
  else
  kout2 (some ((0 : Int32), s.2.2)) else none else none else none else none else none
set_option maxHeartbeats 4000000 in
set_option maxRecDepth 100000 in
theorem s_X1_resultFor_l4 {Z : Nat → (Nat → Nat) → State → Prop} (v0 : Nat) (v1 : Nat) (s : Int32 × Int32 × KH) (t : (Int32 × Int32 × KH) ⊕ ((Int32 × KH) ⊕ (Int32 × KH))) (hn : (s.2.2).1 = 243) (H : f_X1_resultFor_l4 v0 v1 s = some t) : KX Z RX1 cX1_resultFor 8 false 4 (B_X1_resultFor_l4 v0 v1 t) 4 [(0, .ref v0), (1, .ref v1), (2, .int s.1), (3, .int s.2.1)] [] s.2.2 := by
  unfold f_X1_resultFor_l4 at H
  refine x_iload_n (q := 5) dX1_resultFor_4 rfl rfl ?_
  refine x_aload_n (q := 6) dX1_resultFor_5 rfl rfl ?_
  replace H := kif H; obtain ⟨g1, H⟩ := H
  refine x_getI (q := 9) dX1_resultFor_6 rfl kl_RX1_18 (Or.inl rfl) (k243 g1 (by decide) hn) ?_
  replace H := kite H; rcases H with ⟨g2, H⟩ | ⟨g2, H⟩
  · refine x_icmp_ge_t dX1_resultFor_9 (q := 114) (by decide) g2 ?_
    cases H
    refine x_sub (ls2 := [(0, .ref v0), (2, .int s.1)]) [0, 2] rfl ?_
    exact x_end (x_cfg rfl)
  · refine x_icmp_ge_f (q := 12) dX1_resultFor_9 (t := 114) (by decide) rfl g2 ?_
    refine x_aload_n (q := 13) dX1_resultFor_12 rfl rfl ?_
    replace H := kif H; obtain ⟨g3, H⟩ := H
    refine x_getR (q := 16) dX1_resultFor_13 rfl kl_RX1_9 rfl (k243 g1 (by decide) hn) g3 ?_
    refine x_iload_n (q := 17) dX1_resultFor_16 rfl rfl ?_
    replace H := kif H; obtain ⟨g4, H⟩ := H
    replace H := kifn H; obtain ⟨g5, H⟩ := H
    refine x_iald (q := 18) dX1_resultFor_17 rfl (k243 g4 (by decide) hn) g5 ?_
    replace H := kle H; obtain ⟨x6, q7, H⟩ := H
    refine x_nmI q7 ?_
    refine x_istore (q := 20) (i := 4) (ls2 := [(4, .int x6), (0, .ref v0), (1, .ref v1), (2, .int s.1), (3, .int s.2.1)]) dX1_resultFor_18 rfl (by decide) rfl ?_
    refine x_iload (q := 22) dX1_resultFor_20 rfl rfl ?_
    replace H := kbe H; obtain ⟨r8, c9, H⟩ := H
    have m10 := s_X1_needOf (Z := Z) s.2.2 x6 hn c9
    refine x_callS (q := 25) (as := [.int x6]) (rest := []) dX1_resultFor_22 rfl kc_RX1_26 kh_X1_needOf (by decide) (Nat.le_of_ble_eq_true rfl) m10 ?_
    refine x_istore (q := 27) (i := 5) (ls2 := [(5, .int r8), (4, .int x6), (0, .ref v0), (1, .ref v1), (2, .int s.1), (3, .int s.2.1)]) dX1_resultFor_25 rfl (by decide) rfl ?_
    refine x_iload_n (q := 28) dX1_resultFor_27 rfl rfl ?_
    refine x_iload (q := 30) dX1_resultFor_28 rfl rfl ?_
    replace H := kite H; rcases H with ⟨g11, H⟩ | ⟨g11, H⟩
    · refine x_icmp_lt_t dX1_resultFor_30 (q := 45) (by decide) g11 ?_
      replace H := ko2e H; obtain ⟨o12, H, rfl⟩ := H
      refine x_iconst (q := 46) (v := (0 : Int32)) dX1_resultFor_45 rfl (by decide) ?_
      cases H
      exact x_end ⟨dX1_resultFor_46, rfl, rfl⟩
    · refine x_icmp_lt_f (q := 33) dX1_resultFor_30 (t := 45) (by decide) rfl g11 ?_
      refine x_iload_n (q := 34) dX1_resultFor_33 rfl rfl ?_
      refine x_iload (q := 36) dX1_resultFor_34 rfl rfl ?_
      refine x_isub (q := 37) dX1_resultFor_36 rfl ?_
      refine x_aload_n (q := 38) dX1_resultFor_37 rfl rfl ?_
      replace H := kif H; obtain ⟨g13, H⟩ := H
      refine x_getR (q := 41) dX1_resultFor_38 rfl kl_RX1_15 rfl (k243 g1 (by decide) hn) g13 ?_
      replace H := kif H; obtain ⟨g14, H⟩ := H
      refine x_alen (q := 42) dX1_resultFor_41 rfl (by decide) (k243 g14 (by decide) hn) ?_
      replace H := kite H; rcases H with ⟨g15, H⟩ | ⟨g15, H⟩
      · refine x_icmp_lt_t dX1_resultFor_42 (q := 47) (by decide) g15 ?_
        refine x_iload_n (q := 48) dX1_resultFor_47 rfl rfl ?_
        refine x_iload (q := 50) dX1_resultFor_48 rfl rfl ?_
        refine x_isub (q := 51) dX1_resultFor_50 rfl ?_
        replace H := kle H; obtain ⟨x16, q17, H⟩ := H
        refine x_nmI q17 ?_
        refine x_istore_n (q := 52) (i := 2) (ls2 := [(2, .int x16), (5, .int r8), (4, .int x6), (0, .ref v0), (1, .ref v1), (3, .int s.2.1)]) dX1_resultFor_51 rfl rfl (by decide) rfl ?_
        refine x_iload (q := 54) dX1_resultFor_52 rfl rfl ?_
        replace H := kite H; rcases H with ⟨g18, H⟩ | ⟨g18, H⟩
        · refine x_if_le_t dX1_resultFor_54 (q := 66) (by decide) g18 ?_
          refine x_iconst (q := 67) (v := (0 : Int32)) dX1_resultFor_66 rfl (by decide) ?_
          refine x_sub (ls2 := [(0, .ref v0), (1, .ref v1), (2, .int x16), (3, .int s.2.1), (4, .int x6), (5, .int r8)]) [3, 4, 0, 5, 2, 1] rfl ?_
          exact s_X1_resultFor_b67 s.2.2 v0 v1 x16 s.2.1 x6 r8 (0 : Int32) hn H
        · refine x_if_le_f (q := 57) dX1_resultFor_54 (t := 66) (by decide) rfl g18 ?_
          refine x_aload_n (q := 58) dX1_resultFor_57 rfl rfl ?_
          refine x_getR (q := 61) dX1_resultFor_58 rfl kl_RX1_15 rfl (k243 g1 (by decide) hn) g13 ?_
          refine x_iload_n (q := 62) dX1_resultFor_61 rfl rfl ?_
          replace H := kifn H; obtain ⟨g19, H⟩ := H
          refine x_iald (q := 63) dX1_resultFor_62 rfl (k243 g14 (by decide) hn) g19 ?_
          refine x_goto dX1_resultFor_63 (q := 67) (by decide) ?_
          refine x_sub (ls2 := [(0, .ref v0), (1, .ref v1), (2, .int x16), (3, .int s.2.1), (4, .int x6), (5, .int r8)]) [3, 4, 0, 5, 2, 1] rfl ?_
          exact s_X1_resultFor_b67 s.2.2 v0 v1 x16 s.2.1 x6 r8 (kI s.2.2 (kR s.2.2 v0 1) ((x16).toNatClampNeg)) hn H
      · refine x_icmp_lt_f (q := 45) dX1_resultFor_42 (t := 47) (by decide) rfl g15 ?_
        replace H := ko2e H; obtain ⟨o20, H, rfl⟩ := H
        refine x_iconst (q := 46) (v := (0 : Int32)) dX1_resultFor_45 rfl (by decide) ?_
        cases H
        exact x_end ⟨dX1_resultFor_46, rfl, rfl⟩
theorem sl_X1_resultFor_l4 {Z : Nat → (Nat → Nat) → State → Prop} (v0 : Nat) (v1 : Nat) (n : Nat) (s : Int32 × Int32 × KH) (r : (Int32 × KH) ⊕ (Int32 × KH)) (hn : (s.2.2).1 = 243) (H : kloop (f_X1_resultFor_l4 v0 v1) n s = some r) : KX Z RX1 cX1_resultFor 8 false 4 (E_X1_resultFor_l4 v0 v1 r) 4 [(0, .ref v0), (1, .ref v1), (2, .int s.1), (3, .int s.2.1)] [] s.2.2 :=
  k_loop (ls := (fun (s : Int32 × Int32 × KH) => ([(0, .ref v0), (1, .ref v1), (2, .int s.1), (3, .int s.2.1)] : List (Nat × Value)))) (hp := (fun (s : Int32 × Int32 × KH) => (s.2.2 : KH))) (G := E_X1_resultFor_l4 v0 v1) (fun s t hn H => s_X1_resultFor_l4 v0 v1 s t hn H) n s r hn H
def f_X1_resultFor (h : KH) (v0 : Nat) (v1 : Nat) : Option (Int32 × KH) :=
  kb (kloop (f_X1_resultFor_l4 v0 v1) KF ((0 : Int32), (0 : Int32), h)) fun e1 =>
  ksum e1 (fun x4 =>
  if x4.1 ≤ 0 then
  some ((0 : Int32), x4.2)
  else
  if kkind v0 = 1 then if (kR x4.2 v0 1) < 999999 then if kkind (kR x4.2 v0 1) = 20 then if ((x4.1 - (1 : Int32)) < 0 ∨ klen (kR x4.2 v0 1) ≤ ((x4.1 - (1 : Int32))).toNatClampNeg) then none else some ((kI x4.2 (kR x4.2 v0 1) (((x4.1 - (1 : Int32))).toNatClampNeg)), x4.2) else none else none else none) (fun o5 => some o5)
set_option maxHeartbeats 4000000 in
set_option maxRecDepth 100000 in
theorem s0_X1_resultFor {Z : Nat → (Nat → Nat) → State → Prop} (h : KH) (v0 : Nat) (v1 : Nat) {t : Int32 × KH} (hn : h.1 = 243) (H : f_X1_resultFor h v0 v1 = some t) : KX Z RX1 cX1_resultFor 8 false 4 (KRi cX1_resultFor t.1 t.2) 0 [(0, .ref v0), (1, .ref v1)] [] h := by
  unfold f_X1_resultFor at H
  refine x_iconst (q := 1) (v := (0 : Int32)) dX1_resultFor_0 rfl (by decide) ?_
  refine x_istore_n (q := 2) (i := 2) (ls2 := [(2, .int (0 : Int32)), (0, .ref v0), (1, .ref v1)]) dX1_resultFor_1 rfl rfl (by decide) rfl ?_
  refine x_iconst (q := 3) (v := (0 : Int32)) dX1_resultFor_2 rfl (by decide) ?_
  refine x_istore_n (q := 4) (i := 3) (ls2 := [(3, .int (0 : Int32)), (2, .int (0 : Int32)), (0, .ref v0), (1, .ref v1)]) dX1_resultFor_3 rfl rfl (by decide) rfl ?_
  refine x_sub (ls2 := [(0, .ref v0), (1, .ref v1), (2, .int (0 : Int32)), (3, .int (0 : Int32))]) [2, 3, 1, 0] rfl ?_
  replace H := kbe H; obtain ⟨e1, c2, H⟩ := H
  refine x_app (sl_X1_resultFor_l4 v0 v1 KF ((0 : Int32), (0 : Int32), h) e1 hn c2) fun pc2 ls2 st2 h2 hg m3 => ?_
  replace H := kse H; rcases H with ⟨x4, rfl, H⟩ | ⟨o5, rfl, H⟩
  · obtain ⟨rfl, rfl, rfl, rfl⟩ := hg
    refine x_iload_n (q := 115) dX1_resultFor_114 rfl rfl ?_
    replace H := kite H; rcases H with ⟨g6, H⟩ | ⟨g6, H⟩
    · refine x_if_le_t dX1_resultFor_115 (q := 129) (by decide) g6 ?_
      refine x_iconst (q := 130) (v := (0 : Int32)) dX1_resultFor_129 rfl (by decide) ?_
      cases H
      exact x_end ⟨dX1_resultFor_130, rfl, rfl⟩
    · refine x_if_le_f (q := 118) dX1_resultFor_115 (t := 129) (by decide) rfl g6 ?_
      refine x_aload_n (q := 119) dX1_resultFor_118 rfl rfl ?_
      replace H := kif H; obtain ⟨g7, H⟩ := H
      replace H := kif H; obtain ⟨g8, H⟩ := H
      refine x_getR (q := 122) dX1_resultFor_119 rfl kl_RX1_15 rfl (k243 g7 (by decide) (m3.full hn)) g8 ?_
      refine x_iload_n (q := 123) dX1_resultFor_122 rfl rfl ?_
      refine x_iconst (q := 124) (v := (1 : Int32)) dX1_resultFor_123 rfl (by decide) ?_
      refine x_isub (q := 125) dX1_resultFor_124 rfl ?_
      replace H := kif H; obtain ⟨g9, H⟩ := H
      replace H := kifn H; obtain ⟨g10, H⟩ := H
      refine x_iald (q := 126) dX1_resultFor_125 rfl (k243 g9 (by decide) (m3.full hn)) g10 ?_
      refine x_goto dX1_resultFor_126 (q := 130) (by decide) ?_
      cases H
      exact x_end ⟨dX1_resultFor_130, rfl, rfl⟩
  · cases H
    exact x_end hg
theorem s_X1_resultFor {Z : Nat → (Nat → Nat) → State → Prop} (h : KH) (v0 : Nat) (v1 : Nat) {t : Int32 × KH} (hn : h.1 = 243) (H : f_X1_resultFor h v0 v1 = some t) : KM Z yX1_resultFor cX1_resultFor 8 (some .int) 4 [.ref v0, .ref v1] h (some (.int t.1)) t.2 :=
  kx_i (own := RX1) (ini := false) (by decide +kernel) (by decide +kernel) rfl (Nat.le_of_ble_eq_true rfl) (s0_X1_resultFor h v0 v1 hn H)
theorem dJ7_fill_53178_0 : decode cJ7_fill_53178 0 = .ok (.iconst 0, 1) := by decide +kernel
theorem dJ7_fill_53178_1 : decode cJ7_fill_53178 1 = .ok (.istore_n 2, 1) := by decide +kernel
theorem dJ7_fill_53178_2 : decode cJ7_fill_53178 2 = .ok (.aload_n 0, 1) := by decide +kernel
theorem dJ7_fill_53178_3 : decode cJ7_fill_53178 3 = .ok (.arraylength, 1) := by decide +kernel
theorem dJ7_fill_53178_4 : decode cJ7_fill_53178 4 = .ok (.istore_n 3, 1) := by decide +kernel
theorem dJ7_fill_53178_5 : decode cJ7_fill_53178 5 = .ok (.iload_n 2, 1) := by decide +kernel
theorem dJ7_fill_53178_6 : decode cJ7_fill_53178 6 = .ok (.iload_n 3, 1) := by decide +kernel
theorem dJ7_fill_53178_7 : decode cJ7_fill_53178 7 = .ok (.if_icmp .ge 13, 3) := by decide +kernel
theorem dJ7_fill_53178_10 : decode cJ7_fill_53178 10 = .ok (.aload_n 0, 1) := by decide +kernel
theorem dJ7_fill_53178_11 : decode cJ7_fill_53178 11 = .ok (.iload_n 2, 1) := by decide +kernel
theorem dJ7_fill_53178_12 : decode cJ7_fill_53178 12 = .ok (.iload_n 1, 1) := by decide +kernel
theorem dJ7_fill_53178_13 : decode cJ7_fill_53178 13 = .ok (.iastore, 1) := by decide +kernel
theorem dJ7_fill_53178_14 : decode cJ7_fill_53178 14 = .ok (.iinc 2 1, 3) := by decide +kernel
theorem dJ7_fill_53178_17 : decode cJ7_fill_53178 17 = .ok (.goto (-12), 3) := by decide +kernel
theorem dJ7_fill_53178_20 : decode cJ7_fill_53178 20 = .ok (.return_, 1) := by decide +kernel
def E_J7_fill_53178_l5 (v0 : Nat) (v1 : Int32) (v3 : Int32) : KH → Nat → List (Nat × Value) → List Value → KH → Prop := fun (e : KH) pc ls st hh => pc = 20 ∧ ls = [] ∧ st = [] ∧ e = hh
def B_J7_fill_53178_l5 (v0 : Nat) (v1 : Int32) (v3 : Int32) : ((Int32 × KH) ⊕ (KH)) → Nat → List (Nat × Value) → List Value → KH → Prop := Sum.elim (fun (s : Int32 × KH) pc ls st hh => pc = 5 ∧ ls = [(0, .ref v0), (1, .int v1), (2, .int s.1), (3, .int v3)] ∧ st = [] ∧ hh = s.2) (E_J7_fill_53178_l5 v0 v1 v3)
def f_J7_fill_53178_l5 (v0 : Nat) (v1 : Int32) (v3 : Int32) (s : Int32 × KH) : Option ((Int32 × KH) ⊕ (KH)) :=
  if v3 ≤ s.1 then
  some (.inr s.2)
  else
  if kkind v0 = 20 then if (s.1 < 0 ∨ klen v0 ≤ (s.1).toNatClampNeg) then none else kl (ksI s.2 v0 ((s.1).toNatClampNeg) v1) fun h4 =>
  kl (s.1 + (1 : Int32)) fun x7 =>
  some (.inl (x7, h4)) else none
set_option maxHeartbeats 4000000 in
set_option maxRecDepth 100000 in
theorem s_J7_fill_53178_l5 {Z : Nat → (Nat → Nat) → State → Prop} (v0 : Nat) (v1 : Int32) (v3 : Int32) (s : Int32 × KH) (t : (Int32 × KH) ⊕ (KH)) (hn : (s.2).1 = 243) (H : f_J7_fill_53178_l5 v0 v1 v3 s = some t) : KX Z RJ7 cJ7_fill_53178 4 false 1 (B_J7_fill_53178_l5 v0 v1 v3 t) 5 [(0, .ref v0), (1, .int v1), (2, .int s.1), (3, .int v3)] [] s.2 := by
  unfold f_J7_fill_53178_l5 at H
  refine x_iload_n (q := 6) dJ7_fill_53178_5 rfl rfl ?_
  refine x_iload_n (q := 7) dJ7_fill_53178_6 rfl rfl ?_
  replace H := kite H; rcases H with ⟨g1, H⟩ | ⟨g1, H⟩
  · refine x_icmp_ge_t dJ7_fill_53178_7 (q := 20) (by decide) g1 ?_
    cases H
    refine x_sub (ls2 := []) [] rfl ?_
    exact x_end (x_cfg rfl)
  · refine x_icmp_ge_f (q := 10) dJ7_fill_53178_7 (t := 20) (by decide) rfl g1 ?_
    refine x_aload_n (q := 11) dJ7_fill_53178_10 rfl rfl ?_
    refine x_iload_n (q := 12) dJ7_fill_53178_11 rfl rfl ?_
    refine x_iload_n (q := 13) dJ7_fill_53178_12 rfl rfl ?_
    replace H := kif H; obtain ⟨g2, H⟩ := H
    replace H := kifn H; obtain ⟨g3, H⟩ := H
    replace H := kle H; obtain ⟨h4, q5, H⟩ := H
    refine x_iast (q := 14) dJ7_fill_53178_13 rfl (k243 g2 (by decide) hn) g3 ?_
    refine x_nmH q5 ?_
    have n6 : h4.1 = 243 := by rw [q5]; exact hn
    replace H := kle H; obtain ⟨x7, q8, H⟩ := H
    refine x_iinc (q := 17) (i := 2) (ls2 := [(2, .int x7), (0, .ref v0), (1, .int v1), (3, .int v3)]) dJ7_fill_53178_14 rfl rfl (by decide) (by rw [q8]; rfl) ?_
    refine x_goto dJ7_fill_53178_17 (q := 5) (by decide) ?_
    cases H
    refine x_sub (ls2 := [(0, .ref v0), (1, .int v1), (2, .int x7), (3, .int v3)]) [1, 2, 0, 3] rfl ?_
    exact x_end (x_cfg rfl)
theorem sl_J7_fill_53178_l5 {Z : Nat → (Nat → Nat) → State → Prop} (v0 : Nat) (v1 : Int32) (v3 : Int32) (n : Nat) (s : Int32 × KH) (r : KH) (hn : (s.2).1 = 243) (H : kloop (f_J7_fill_53178_l5 v0 v1 v3) n s = some r) : KX Z RJ7 cJ7_fill_53178 4 false 1 (E_J7_fill_53178_l5 v0 v1 v3 r) 5 [(0, .ref v0), (1, .int v1), (2, .int s.1), (3, .int v3)] [] s.2 :=
  k_loop (ls := (fun (s : Int32 × KH) => ([(0, .ref v0), (1, .int v1), (2, .int s.1), (3, .int v3)] : List (Nat × Value)))) (hp := (fun (s : Int32 × KH) => (s.2 : KH))) (G := E_J7_fill_53178_l5 v0 v1 v3) (fun s t hn H => s_J7_fill_53178_l5 v0 v1 v3 s t hn H) n s r hn H
def f_J7_fill_53178 (h : KH) (v0 : Nat) (v1 : Int32) : Option (KH) :=
  if kkind v0 = 20 then kl (Int32.ofNat (klen v0)) fun x2 =>
  kb (kloop (f_J7_fill_53178_l5 v0 v1 x2) KF ((0 : Int32), h)) fun e4 =>
  some e4 else none
set_option maxHeartbeats 4000000 in
set_option maxRecDepth 100000 in
theorem s0_J7_fill_53178 {Z : Nat → (Nat → Nat) → State → Prop} (h : KH) (v0 : Nat) (v1 : Int32) {t : KH} (hn : h.1 = 243) (H : f_J7_fill_53178 h v0 v1 = some t) : KX Z RJ7 cJ7_fill_53178 4 false 1 (KRv cJ7_fill_53178 t) 0 [(0, .ref v0), (1, .int v1)] [] h := by
  unfold f_J7_fill_53178 at H
  refine x_iconst (q := 1) (v := (0 : Int32)) dJ7_fill_53178_0 rfl (by decide) ?_
  refine x_istore_n (q := 2) (i := 2) (ls2 := [(2, .int (0 : Int32)), (0, .ref v0), (1, .int v1)]) dJ7_fill_53178_1 rfl rfl (by decide) rfl ?_
  refine x_aload_n (q := 3) dJ7_fill_53178_2 rfl rfl ?_
  replace H := kif H; obtain ⟨g1, H⟩ := H
  refine x_alen (q := 4) dJ7_fill_53178_3 rfl (by decide) (k243 g1 (by decide) hn) ?_
  replace H := kle H; obtain ⟨x2, q3, H⟩ := H
  refine x_nmI q3 ?_
  refine x_istore_n (q := 5) (i := 3) (ls2 := [(3, .int x2), (2, .int (0 : Int32)), (0, .ref v0), (1, .int v1)]) dJ7_fill_53178_4 rfl rfl (by decide) rfl ?_
  refine x_sub (ls2 := [(0, .ref v0), (1, .int v1), (2, .int (0 : Int32)), (3, .int x2)]) [2, 3, 1, 0] rfl ?_
  replace H := kbe H; obtain ⟨e4, c5, H⟩ := H
  refine x_app (sl_J7_fill_53178_l5 v0 v1 x2 KF ((0 : Int32), h) e4 hn c5) fun pc2 ls2 st2 h2 hg m6 => ?_
  obtain ⟨rfl, rfl, rfl, rfl⟩ := hg
  cases H
  exact x_end ⟨dJ7_fill_53178_20, rfl, rfl⟩
theorem s_J7_fill_53178 {Z : Nat → (Nat → Nat) → State → Prop} (h : KH) (v0 : Nat) (v1 : Int32) {t : KH} (hn : h.1 = 243) (H : f_J7_fill_53178 h v0 v1 = some t) : KM Z yJ7_fill_53178 cJ7_fill_53178 4 none 1 [.ref v0, .int v1] h none t :=
  kx_v (own := RJ7) (ini := false) (by decide +kernel) (by decide +kernel) rfl (Nat.le_of_ble_eq_true rfl) (s0_J7_fill_53178 h v0 v1 hn H)
theorem dX2_clear_0 : decode cX2_clear 0 = .ok (.aload_n 0, 1) := by decide +kernel
theorem dX2_clear_1 : decode cX2_clear 1 = .ok (.iconst 0, 1) := by decide +kernel
theorem dX2_clear_2 : decode cX2_clear 2 = .ok (.putfield 22, 3) := by decide +kernel
theorem dX2_clear_5 : decode cX2_clear 5 = .ok (.aload_n 0, 1) := by decide +kernel
theorem dX2_clear_6 : decode cX2_clear 6 = .ok (.iconst 0, 1) := by decide +kernel
theorem dX2_clear_7 : decode cX2_clear 7 = .ok (.putfield 26, 3) := by decide +kernel
theorem dX2_clear_10 : decode cX2_clear 10 = .ok (.aload_n 0, 1) := by decide +kernel
theorem dX2_clear_11 : decode cX2_clear 11 = .ok (.iconst 0, 1) := by decide +kernel
theorem dX2_clear_12 : decode cX2_clear 12 = .ok (.putfield 29, 3) := by decide +kernel
theorem dX2_clear_15 : decode cX2_clear 15 = .ok (.aload_n 0, 1) := by decide +kernel
theorem dX2_clear_16 : decode cX2_clear 16 = .ok (.bipush 50, 2) := by decide +kernel
theorem dX2_clear_18 : decode cX2_clear 18 = .ok (.putfield 32, 3) := by decide +kernel
theorem dX2_clear_21 : decode cX2_clear 21 = .ok (.aload_n 0, 1) := by decide +kernel
theorem dX2_clear_22 : decode cX2_clear 22 = .ok (.sipush 1000, 3) := by decide +kernel
theorem dX2_clear_25 : decode cX2_clear 25 = .ok (.putfield 35, 3) := by decide +kernel
theorem dX2_clear_28 : decode cX2_clear 28 = .ok (.aload_n 0, 1) := by decide +kernel
theorem dX2_clear_29 : decode cX2_clear 29 = .ok (.iconst 0, 1) := by decide +kernel
theorem dX2_clear_30 : decode cX2_clear 30 = .ok (.putfield 38, 3) := by decide +kernel
theorem dX2_clear_33 : decode cX2_clear 33 = .ok (.aload_n 0, 1) := by decide +kernel
theorem dX2_clear_34 : decode cX2_clear 34 = .ok (.getfield 53, 3) := by decide +kernel
theorem dX2_clear_37 : decode cX2_clear 37 = .ok (.iconst 0, 1) := by decide +kernel
theorem dX2_clear_38 : decode cX2_clear 38 = .ok (.invokestatic 56, 3) := by decide +kernel
theorem dX2_clear_41 : decode cX2_clear 41 = .ok (.return_, 1) := by decide +kernel
theorem kl_RX2_22 : KLk RX2 22 2 3 := ⟨RX2, TX2, 12, rfl, by decide, Or.inl (kwm 361 (by decide +kernel) (by decide +kernel))⟩
theorem kl_RX2_26 : KLk RX2 26 2 4 := ⟨RX2, TX2, 12, rfl, by decide, Or.inl (kwm 366 (by decide +kernel) (by decide +kernel))⟩
theorem kl_RX2_29 : KLk RX2 29 2 5 := ⟨RX2, TX2, 12, rfl, by decide, Or.inl (kwm 370 (by decide +kernel) (by decide +kernel))⟩
theorem kl_RX2_32 : KLk RX2 32 2 6 := ⟨RX2, TX2, 12, rfl, by decide, Or.inl (kwm 374 (by decide +kernel) (by decide +kernel))⟩
theorem kl_RX2_35 : KLk RX2 35 2 7 := ⟨RX2, TX2, 12, rfl, by decide, Or.inl (kwm 378 (by decide +kernel) (by decide +kernel))⟩
theorem kl_RX2_38 : KLk RX2 38 2 8 := ⟨RX2, TX2, 12, rfl, by decide, Or.inl (kwm 381 (by decide +kernel) (by decide +kernel))⟩
theorem kl_RX2_53 : KLk RX2 53 2 11 := ⟨RX2, TX2, 12, rfl, by decide, Or.inl (kwm 386 (by decide +kernel) (by decide +kernel))⟩
theorem kc_RX2_56 : Cond.methodLink RX2 56 yJ7_fill_53178 ∈ ktG ∧ Cond.static yJ7_fill_53178 ∈ ktG ∧ Cond.initialized yJ7_fill_53178.cls ∈ ktG ∧ Cond.code yJ7_fill_53178 cJ7_fill_53178 4 none ∈ ktG := ⟨(kwm 611 (by decide +kernel) (by decide +kernel)), (kwm 612 (by decide +kernel) (by decide +kernel)), (kwm 140 (by decide +kernel) (by decide +kernel)), kwm 613 (by decide +kernel) (by decide +kernel)⟩
theorem kh_J7_fill_53178 : yJ7_fill_53178.cls ≠ "java/lang/invoke/MethodHandle" ∧ yJ7_fill_53178.cls ≠ "java/lang/invoke/VarHandle" ∧ (parseMethodDescriptor yJ7_fill_53178.desc).map (fun d => d.parameters.length) = some 2 := by decide +kernel
def f_X2_clear (h : KH) (v0 : Nat) : Option (KH) :=
  if kkind v0 = 2 then kl (ksI h v0 3 (0 : Int32)) fun h2 =>
  kl (ksI h2 v0 4 (0 : Int32)) fun h5 =>
  kl (ksI h5 v0 5 (0 : Int32)) fun h8 =>
  kl (ksI h8 v0 6 (50 : Int32)) fun h11 =>
  kl (ksI h11 v0 7 (1000 : Int32)) fun h14 =>
  kl (ksI h14 v0 8 (0 : Int32)) fun h17 =>
  if (kR h17 v0 11) < 999999 then kb (f_J7_fill_53178 h17 (kR h17 v0 11) (0 : Int32)) fun r21 =>
  some r21 else none else none
set_option maxHeartbeats 4000000 in
set_option maxRecDepth 100000 in
theorem s0_X2_clear {Z : Nat → (Nat → Nat) → State → Prop} (h : KH) (v0 : Nat) {t : KH} (hn : h.1 = 243) (H : f_X2_clear h v0 = some t) : KX Z RX2 cX2_clear 1 false 2 (KRv cX2_clear t) 0 [(0, .ref v0)] [] h := by
  unfold f_X2_clear at H
  refine x_aload_n (q := 1) dX2_clear_0 rfl rfl ?_
  refine x_iconst (q := 2) (v := (0 : Int32)) dX2_clear_1 rfl (by decide) ?_
  replace H := kif H; obtain ⟨g1, H⟩ := H
  replace H := kle H; obtain ⟨h2, q3, H⟩ := H
  refine x_putI (q := 5) dX2_clear_2 rfl kl_RX2_22 (Or.inl rfl) rfl (k243 g1 (by decide) hn) ?_
  refine x_nmH q3 ?_
  have n4 : h2.1 = 243 := by rw [q3]; exact hn
  refine x_aload_n (q := 6) dX2_clear_5 rfl rfl ?_
  refine x_iconst (q := 7) (v := (0 : Int32)) dX2_clear_6 rfl (by decide) ?_
  replace H := kle H; obtain ⟨h5, q6, H⟩ := H
  refine x_putI (q := 10) dX2_clear_7 rfl kl_RX2_26 (Or.inl rfl) rfl (k243 g1 (by decide) n4) ?_
  refine x_nmH q6 ?_
  have n7 : h5.1 = 243 := by rw [q6]; exact n4
  refine x_aload_n (q := 11) dX2_clear_10 rfl rfl ?_
  refine x_iconst (q := 12) (v := (0 : Int32)) dX2_clear_11 rfl (by decide) ?_
  replace H := kle H; obtain ⟨h8, q9, H⟩ := H
  refine x_putI (q := 15) dX2_clear_12 rfl kl_RX2_29 (Or.inl rfl) rfl (k243 g1 (by decide) n7) ?_
  refine x_nmH q9 ?_
  have n10 : h8.1 = 243 := by rw [q9]; exact n7
  refine x_aload_n (q := 16) dX2_clear_15 rfl rfl ?_
  refine x_bipush (q := 18) (v := (50 : Int32)) dX2_clear_16 rfl (by decide) ?_
  replace H := kle H; obtain ⟨h11, q12, H⟩ := H
  refine x_putI (q := 21) dX2_clear_18 rfl kl_RX2_32 (Or.inl rfl) rfl (k243 g1 (by decide) n10) ?_
  refine x_nmH q12 ?_
  have n13 : h11.1 = 243 := by rw [q12]; exact n10
  refine x_aload_n (q := 22) dX2_clear_21 rfl rfl ?_
  refine x_sipush (q := 25) (v := (1000 : Int32)) dX2_clear_22 rfl (by decide) ?_
  replace H := kle H; obtain ⟨h14, q15, H⟩ := H
  refine x_putI (q := 28) dX2_clear_25 rfl kl_RX2_35 (Or.inl rfl) rfl (k243 g1 (by decide) n13) ?_
  refine x_nmH q15 ?_
  have n16 : h14.1 = 243 := by rw [q15]; exact n13
  refine x_aload_n (q := 29) dX2_clear_28 rfl rfl ?_
  refine x_iconst (q := 30) (v := (0 : Int32)) dX2_clear_29 rfl (by decide) ?_
  replace H := kle H; obtain ⟨h17, q18, H⟩ := H
  refine x_putZ (q := 33) dX2_clear_30 rfl kl_RX2_38 (Or.inl rfl) rfl (by decide) (k243 g1 (by decide) n16) ?_
  refine x_nmH q18 ?_
  have n19 : h17.1 = 243 := by rw [q18]; exact n16
  refine x_aload_n (q := 34) dX2_clear_33 rfl rfl ?_
  replace H := kif H; obtain ⟨g20, H⟩ := H
  refine x_getR (q := 37) dX2_clear_34 rfl kl_RX2_53 rfl (k243 g1 (by decide) n19) g20 ?_
  refine x_iconst (q := 38) (v := (0 : Int32)) dX2_clear_37 rfl (by decide) ?_
  replace H := kbe H; obtain ⟨r21, c22, H⟩ := H
  have m23 := s_J7_fill_53178 (Z := Z) h17 (kR h17 v0 11) (0 : Int32) n19 c22
  refine x_callS (q := 41) (as := [.ref (kR h17 v0 11), .int (0 : Int32)]) (rest := []) dX2_clear_38 rfl kc_RX2_56 kh_J7_fill_53178 (by decide) (Nat.le_of_ble_eq_true rfl) m23 ?_
  have n24 : (r21).1 = 243 := m23.1.full n19
  cases H
  exact x_end ⟨dX2_clear_41, rfl, rfl⟩
theorem s_X2_clear {Z : Nat → (Nat → Nat) → State → Prop} (h : KH) (v0 : Nat) {t : KH} (hn : h.1 = 243) (H : f_X2_clear h v0 = some t) : KM Z yX2_clear cX2_clear 1 none 2 [.ref v0] h none t :=
  kx_v (own := RX2) (ini := false) (by decide +kernel) (by decide +kernel) rfl (Nat.le_of_ble_eq_true rfl) (s0_X2_clear h v0 hn H)
theorem dX2_nameIn_0 : decode cX2_nameIn 0 = .ok (.iload_n 2, 1) := by decide +kernel
theorem dX2_nameIn_1 : decode cX2_nameIn 1 = .ok (.ifCond .lt 22, 3) := by decide +kernel
theorem dX2_nameIn_4 : decode cX2_nameIn 4 = .ok (.iload_n 2, 1) := by decide +kernel
theorem dX2_nameIn_5 : decode cX2_nameIn 5 = .ok (.iload_n 1, 1) := by decide +kernel
theorem dX2_nameIn_6 : decode cX2_nameIn 6 = .ok (.if_icmp .ge 17, 3) := by decide +kernel
theorem dX2_nameIn_9 : decode cX2_nameIn 9 = .ok (.iload_n 2, 1) := by decide +kernel
theorem dX2_nameIn_10 : decode cX2_nameIn 10 = .ok (.aload_n 0, 1) := by decide +kernel
theorem dX2_nameIn_11 : decode cX2_nameIn 11 = .ok (.arraylength, 1) := by decide +kernel
theorem dX2_nameIn_12 : decode cX2_nameIn 12 = .ok (.if_icmp .ge 11, 3) := by decide +kernel
theorem dX2_nameIn_15 : decode cX2_nameIn 15 = .ok (.aload_n 0, 1) := by decide +kernel
theorem dX2_nameIn_16 : decode cX2_nameIn 16 = .ok (.iload_n 2, 1) := by decide +kernel
theorem dX2_nameIn_17 : decode cX2_nameIn 17 = .ok (.aaload, 1) := by decide +kernel
theorem dX2_nameIn_18 : decode cX2_nameIn 18 = .ok (.iconst 0, 1) := by decide +kernel
theorem dX2_nameIn_19 : decode cX2_nameIn 19 = .ok (.iaload, 1) := by decide +kernel
theorem dX2_nameIn_20 : decode cX2_nameIn 20 = .ok (.goto 4, 3) := by decide +kernel
theorem dX2_nameIn_23 : decode cX2_nameIn 23 = .ok (.iconst (-1), 1) := by decide +kernel
theorem dX2_nameIn_24 : decode cX2_nameIn 24 = .ok (.ireturn, 1) := by decide +kernel
def f_X2_nameIn (h : KH) (v0 : Nat) (v1 : Int32) (v2 : Int32) : Option (Int32) :=
  if v2 < 0 then
  some (-1 : Int32)
  else
  if v1 ≤ v2 then
  some (-1 : Int32)
  else
  if kkind v0 = 24 then if (Int32.ofNat (klen v0)) ≤ v2 then
  some (-1 : Int32)
  else
  if (v2 < 0 ∨ klen v0 ≤ (v2).toNatClampNeg) then none else if (kR h v0 ((v2).toNatClampNeg)) < 999999 then if kkind (kR h v0 ((v2).toNatClampNeg)) = 20 then if klen (kR h v0 ((v2).toNatClampNeg)) ≤ 0 then none else some (kI h (kR h v0 ((v2).toNatClampNeg)) 0) else none else none else none
set_option maxHeartbeats 4000000 in
set_option maxRecDepth 100000 in
theorem s0_X2_nameIn {Z : Nat → (Nat → Nat) → State → Prop} (h : KH) (v0 : Nat) (v1 : Int32) (v2 : Int32) {t : Int32} (hn : h.1 = 243) (H : f_X2_nameIn h v0 v1 v2 = some t) : KX Z RX2 cX2_nameIn 3 false 1 (KRi cX2_nameIn t h) 0 [(0, .ref v0), (1, .int v1), (2, .int v2)] [] h := by
  unfold f_X2_nameIn at H
  refine x_iload_n (q := 1) dX2_nameIn_0 rfl rfl ?_
  replace H := kite H; rcases H with ⟨g1, H⟩ | ⟨g1, H⟩
  · refine x_if_lt_t dX2_nameIn_1 (q := 23) (by decide) g1 ?_
    refine x_iconst (q := 24) (v := (-1 : Int32)) dX2_nameIn_23 rfl (by decide) ?_
    cases H
    exact x_end ⟨dX2_nameIn_24, rfl, rfl⟩
  · refine x_if_lt_f (q := 4) dX2_nameIn_1 (t := 23) (by decide) rfl g1 ?_
    refine x_iload_n (q := 5) dX2_nameIn_4 rfl rfl ?_
    refine x_iload_n (q := 6) dX2_nameIn_5 rfl rfl ?_
    replace H := kite H; rcases H with ⟨g2, H⟩ | ⟨g2, H⟩
    · refine x_icmp_ge_t dX2_nameIn_6 (q := 23) (by decide) g2 ?_
      refine x_iconst (q := 24) (v := (-1 : Int32)) dX2_nameIn_23 rfl (by decide) ?_
      cases H
      exact x_end ⟨dX2_nameIn_24, rfl, rfl⟩
    · refine x_icmp_ge_f (q := 9) dX2_nameIn_6 (t := 23) (by decide) rfl g2 ?_
      refine x_iload_n (q := 10) dX2_nameIn_9 rfl rfl ?_
      refine x_aload_n (q := 11) dX2_nameIn_10 rfl rfl ?_
      replace H := kif H; obtain ⟨g3, H⟩ := H
      refine x_alen (q := 12) dX2_nameIn_11 rfl (by decide) (k243 g3 (by decide) hn) ?_
      replace H := kite H; rcases H with ⟨g4, H⟩ | ⟨g4, H⟩
      · refine x_icmp_ge_t dX2_nameIn_12 (q := 23) (by decide) g4 ?_
        refine x_iconst (q := 24) (v := (-1 : Int32)) dX2_nameIn_23 rfl (by decide) ?_
        cases H
        exact x_end ⟨dX2_nameIn_24, rfl, rfl⟩
      · refine x_icmp_ge_f (q := 15) dX2_nameIn_12 (t := 23) (by decide) rfl g4 ?_
        refine x_aload_n (q := 16) dX2_nameIn_15 rfl rfl ?_
        refine x_iload_n (q := 17) dX2_nameIn_16 rfl rfl ?_
        replace H := kifn H; obtain ⟨g5, H⟩ := H
        replace H := kif H; obtain ⟨g6, H⟩ := H
        refine x_aald (q := 18) dX2_nameIn_17 rfl (Or.inl rfl) (k243 g3 (by decide) hn) g5 g6 ?_
        refine x_iconst (q := 19) (v := (0 : Int32)) dX2_nameIn_18 rfl (by decide) ?_
        replace H := kif H; obtain ⟨g7, H⟩ := H
        replace H := kifn H; obtain ⟨g8, H⟩ := H
        refine x_iald (q := 20) dX2_nameIn_19 rfl (k243 g7 (by decide) hn) (fun z => z.elim (by decide) g8) ?_
        refine x_goto dX2_nameIn_20 (q := 24) (by decide) ?_
        cases H
        exact x_end ⟨dX2_nameIn_24, rfl, rfl⟩
theorem s_X2_nameIn {Z : Nat → (Nat → Nat) → State → Prop} (h : KH) (v0 : Nat) (v1 : Int32) (v2 : Int32) {t : Int32} (hn : h.1 = 243) (H : f_X2_nameIn h v0 v1 v2 = some t) : KM Z yX2_nameIn cX2_nameIn 3 (some .int) 1 [.ref v0, .int v1, .int v2] h (some (.int t)) h :=
  kx_i (own := RX2) (ini := false) (by decide +kernel) (by decide +kernel) rfl (Nat.le_of_ble_eq_true rfl) (s0_X2_nameIn h v0 v1 v2 hn H)
theorem dX2_nameOf_0 : decode cX2_nameOf 0 = .ok (.iload_n 1, 1) := by decide +kernel
theorem dX2_nameOf_1 : decode cX2_nameOf 1 = .ok (.ifCond .ne 16, 3) := by decide +kernel
theorem dX2_nameOf_4 : decode cX2_nameOf 4 = .ok (.aload_n 0, 1) := by decide +kernel
theorem dX2_nameOf_5 : decode cX2_nameOf 5 = .ok (.getfield 11, 3) := by decide +kernel
theorem dX2_nameOf_8 : decode cX2_nameOf 8 = .ok (.aload_n 0, 1) := by decide +kernel
theorem dX2_nameOf_9 : decode cX2_nameOf 9 = .ok (.getfield 22, 3) := by decide +kernel
theorem dX2_nameOf_12 : decode cX2_nameOf 12 = .ok (.iload_n 2, 1) := by decide +kernel
theorem dX2_nameOf_13 : decode cX2_nameOf 13 = .ok (.invokestatic 62, 3) := by decide +kernel
theorem dX2_nameOf_16 : decode cX2_nameOf 16 = .ok (.ireturn, 1) := by decide +kernel
theorem dX2_nameOf_17 : decode cX2_nameOf 17 = .ok (.iload_n 1, 1) := by decide +kernel
theorem dX2_nameOf_18 : decode cX2_nameOf 18 = .ok (.iconst 1, 1) := by decide +kernel
theorem dX2_nameOf_19 : decode cX2_nameOf 19 = .ok (.if_icmp .ne 16, 3) := by decide +kernel
theorem dX2_nameOf_22 : decode cX2_nameOf 22 = .ok (.aload_n 0, 1) := by decide +kernel
theorem dX2_nameOf_23 : decode cX2_nameOf 23 = .ok (.getfield 16, 3) := by decide +kernel
theorem dX2_nameOf_26 : decode cX2_nameOf 26 = .ok (.aload_n 0, 1) := by decide +kernel
theorem dX2_nameOf_27 : decode cX2_nameOf 27 = .ok (.getfield 26, 3) := by decide +kernel
theorem dX2_nameOf_30 : decode cX2_nameOf 30 = .ok (.iload_n 2, 1) := by decide +kernel
theorem dX2_nameOf_31 : decode cX2_nameOf 31 = .ok (.invokestatic 62, 3) := by decide +kernel
theorem dX2_nameOf_34 : decode cX2_nameOf 34 = .ok (.ireturn, 1) := by decide +kernel
theorem dX2_nameOf_35 : decode cX2_nameOf 35 = .ok (.iload_n 1, 1) := by decide +kernel
theorem dX2_nameOf_36 : decode cX2_nameOf 36 = .ok (.iconst 2, 1) := by decide +kernel
theorem dX2_nameOf_37 : decode cX2_nameOf 37 = .ok (.if_icmp .ne 18, 3) := by decide +kernel
theorem dX2_nameOf_40 : decode cX2_nameOf 40 = .ok (.aload_n 0, 1) := by decide +kernel
theorem dX2_nameOf_41 : decode cX2_nameOf 41 = .ok (.getfield 19, 3) := by decide +kernel
theorem dX2_nameOf_44 : decode cX2_nameOf 44 = .ok (.aload_n 0, 1) := by decide +kernel
theorem dX2_nameOf_45 : decode cX2_nameOf 45 = .ok (.getfield 29, 3) := by decide +kernel
theorem dX2_nameOf_48 : decode cX2_nameOf 48 = .ok (.iload_n 2, 1) := by decide +kernel
theorem dX2_nameOf_49 : decode cX2_nameOf 49 = .ok (.invokestatic 62, 3) := by decide +kernel
theorem dX2_nameOf_52 : decode cX2_nameOf 52 = .ok (.goto 4, 3) := by decide +kernel
theorem dX2_nameOf_55 : decode cX2_nameOf 55 = .ok (.iconst (-1), 1) := by decide +kernel
theorem dX2_nameOf_56 : decode cX2_nameOf 56 = .ok (.ireturn, 1) := by decide +kernel
theorem kl_RX2_19 : KLk RX2 19 2 2 := ⟨RX2, TX2, 12, rfl, by decide, Or.inl (kwm 357 (by decide +kernel) (by decide +kernel))⟩
theorem kc_RX2_62 : Cond.methodLink RX2 62 yX2_nameIn ∈ ktG ∧ Cond.static yX2_nameIn ∈ ktG ∧ Cond.initialized yX2_nameIn.cls ∈ ktG ∧ Cond.code yX2_nameIn cX2_nameIn 3 (some .int) ∈ ktG := ⟨(kwm 678 (by decide +kernel) (by decide +kernel)), (kwm 679 (by decide +kernel) (by decide +kernel)), (kwm 134 (by decide +kernel) (by decide +kernel)), kwm 680 (by decide +kernel) (by decide +kernel)⟩
theorem kh_X2_nameIn : yX2_nameIn.cls ≠ "java/lang/invoke/MethodHandle" ∧ yX2_nameIn.cls ≠ "java/lang/invoke/VarHandle" ∧ (parseMethodDescriptor yX2_nameIn.desc).map (fun d => d.parameters.length) = some 3 := by decide +kernel
theorem kl_RX2_16 : KLk RX2 16 2 1 := ⟨RX2, TX2, 12, rfl, by decide, Or.inl (kwm 353 (by decide +kernel) (by decide +kernel))⟩
theorem kl_RX2_11 : KLk RX2 11 2 0 := ⟨RX2, TX2, 12, rfl, by decide, Or.inl (kwm 349 (by decide +kernel) (by decide +kernel))⟩
def f_X2_nameOf (h : KH) (v0 : Nat) (v1 : Int32) (v2 : Int32) : Option (Int32) :=
  if v1 = 0 then
  if kkind v0 = 2 then if (kR h v0 0) < 999999 then kb (f_X2_nameIn h (kR h v0 0) (kI h v0 3) v2) fun r16 =>
  some r16 else none else none
  else
  if v1 = (1 : Int32) then
  if kkind v0 = 2 then if (kR h v0 1) < 999999 then kb (f_X2_nameIn h (kR h v0 1) (kI h v0 4) v2) fun r11 =>
  some r11 else none else none
  else
  if v1 = (2 : Int32) then
  if kkind v0 = 2 then if (kR h v0 2) < 999999 then kb (f_X2_nameIn h (kR h v0 2) (kI h v0 5) v2) fun r6 =>
  some r6 else none else none
  else
  some (-1 : Int32)
set_option maxHeartbeats 4000000 in
set_option maxRecDepth 100000 in
theorem s0_X2_nameOf {Z : Nat → (Nat → Nat) → State → Prop} (h : KH) (v0 : Nat) (v1 : Int32) (v2 : Int32) {t : Int32} (hn : h.1 = 243) (H : f_X2_nameOf h v0 v1 v2 = some t) : KX Z RX2 cX2_nameOf 3 false 2 (KRi cX2_nameOf t h) 0 [(0, .ref v0), (1, .int v1), (2, .int v2)] [] h := by
  unfold f_X2_nameOf at H
  refine x_iload_n (q := 1) dX2_nameOf_0 rfl rfl ?_
  replace H := kite H; rcases H with ⟨g1, H⟩ | ⟨g1, H⟩
  · refine x_if_ne_f (q := 4) dX2_nameOf_1 (t := 17) (by decide) rfl g1 ?_
    refine x_aload_n (q := 5) dX2_nameOf_4 rfl rfl ?_
    replace H := kif H; obtain ⟨g14, H⟩ := H
    replace H := kif H; obtain ⟨g15, H⟩ := H
    refine x_getR (q := 8) dX2_nameOf_5 rfl kl_RX2_11 rfl (k243 g14 (by decide) hn) g15 ?_
    refine x_aload_n (q := 9) dX2_nameOf_8 rfl rfl ?_
    refine x_getI (q := 12) dX2_nameOf_9 rfl kl_RX2_22 (Or.inl rfl) (k243 g14 (by decide) hn) ?_
    refine x_iload_n (q := 13) dX2_nameOf_12 rfl rfl ?_
    replace H := kbe H; obtain ⟨r16, c17, H⟩ := H
    have m18 := s_X2_nameIn (Z := Z) h (kR h v0 0) (kI h v0 3) v2 hn c17
    refine x_callS (q := 16) (as := [.ref (kR h v0 0), .int (kI h v0 3), .int v2]) (rest := []) dX2_nameOf_13 rfl kc_RX2_62 kh_X2_nameIn (by decide) (Nat.le_of_ble_eq_true rfl) m18 ?_
    cases H
    exact x_end ⟨dX2_nameOf_16, rfl, rfl⟩
  · refine x_if_ne_t dX2_nameOf_1 (q := 17) (by decide) g1 ?_
    refine x_iload_n (q := 18) dX2_nameOf_17 rfl rfl ?_
    refine x_iconst (q := 19) (v := (1 : Int32)) dX2_nameOf_18 rfl (by decide) ?_
    replace H := kite H; rcases H with ⟨g2, H⟩ | ⟨g2, H⟩
    · refine x_icmp_ne_f (q := 22) dX2_nameOf_19 (t := 35) (by decide) rfl g2 ?_
      refine x_aload_n (q := 23) dX2_nameOf_22 rfl rfl ?_
      replace H := kif H; obtain ⟨g9, H⟩ := H
      replace H := kif H; obtain ⟨g10, H⟩ := H
      refine x_getR (q := 26) dX2_nameOf_23 rfl kl_RX2_16 rfl (k243 g9 (by decide) hn) g10 ?_
      refine x_aload_n (q := 27) dX2_nameOf_26 rfl rfl ?_
      refine x_getI (q := 30) dX2_nameOf_27 rfl kl_RX2_26 (Or.inl rfl) (k243 g9 (by decide) hn) ?_
      refine x_iload_n (q := 31) dX2_nameOf_30 rfl rfl ?_
      replace H := kbe H; obtain ⟨r11, c12, H⟩ := H
      have m13 := s_X2_nameIn (Z := Z) h (kR h v0 1) (kI h v0 4) v2 hn c12
      refine x_callS (q := 34) (as := [.ref (kR h v0 1), .int (kI h v0 4), .int v2]) (rest := []) dX2_nameOf_31 rfl kc_RX2_62 kh_X2_nameIn (by decide) (Nat.le_of_ble_eq_true rfl) m13 ?_
      cases H
      exact x_end ⟨dX2_nameOf_34, rfl, rfl⟩
    · refine x_icmp_ne_t dX2_nameOf_19 (q := 35) (by decide) g2 ?_
      refine x_iload_n (q := 36) dX2_nameOf_35 rfl rfl ?_
      refine x_iconst (q := 37) (v := (2 : Int32)) dX2_nameOf_36 rfl (by decide) ?_
      replace H := kite H; rcases H with ⟨g3, H⟩ | ⟨g3, H⟩
      · refine x_icmp_ne_f (q := 40) dX2_nameOf_37 (t := 55) (by decide) rfl g3 ?_
        refine x_aload_n (q := 41) dX2_nameOf_40 rfl rfl ?_
        replace H := kif H; obtain ⟨g4, H⟩ := H
        replace H := kif H; obtain ⟨g5, H⟩ := H
        refine x_getR (q := 44) dX2_nameOf_41 rfl kl_RX2_19 rfl (k243 g4 (by decide) hn) g5 ?_
        refine x_aload_n (q := 45) dX2_nameOf_44 rfl rfl ?_
        refine x_getI (q := 48) dX2_nameOf_45 rfl kl_RX2_29 (Or.inl rfl) (k243 g4 (by decide) hn) ?_
        refine x_iload_n (q := 49) dX2_nameOf_48 rfl rfl ?_
        replace H := kbe H; obtain ⟨r6, c7, H⟩ := H
        have m8 := s_X2_nameIn (Z := Z) h (kR h v0 2) (kI h v0 5) v2 hn c7
        refine x_callS (q := 52) (as := [.ref (kR h v0 2), .int (kI h v0 5), .int v2]) (rest := []) dX2_nameOf_49 rfl kc_RX2_62 kh_X2_nameIn (by decide) (Nat.le_of_ble_eq_true rfl) m8 ?_
        refine x_goto dX2_nameOf_52 (q := 56) (by decide) ?_
        cases H
        exact x_end ⟨dX2_nameOf_56, rfl, rfl⟩
      · refine x_icmp_ne_t dX2_nameOf_37 (q := 55) (by decide) g3 ?_
        refine x_iconst (q := 56) (v := (-1 : Int32)) dX2_nameOf_55 rfl (by decide) ?_
        cases H
        exact x_end ⟨dX2_nameOf_56, rfl, rfl⟩
theorem s_X2_nameOf {Z : Nat → (Nat → Nat) → State → Prop} (h : KH) (v0 : Nat) (v1 : Int32) (v2 : Int32) {t : Int32} (hn : h.1 = 243) (H : f_X2_nameOf h v0 v1 v2 = some t) : KM Z yX2_nameOf cX2_nameOf 3 (some .int) 2 [.ref v0, .int v1, .int v2] h (some (.int t)) h :=
  kx_i (own := RX2) (ini := false) (by decide +kernel) (by decide +kernel) rfl (Nat.le_of_ble_eq_true rfl) (s0_X2_nameOf h v0 v1 v2 hn H)
theorem dX2_hasName_0 : decode cX2_hasName 0 = .ok (.iconst 0, 1) := by decide +kernel
theorem dX2_hasName_1 : decode cX2_hasName 1 = .ok (.istore_n 2, 1) := by decide +kernel
theorem dX2_hasName_2 : decode cX2_hasName 2 = .ok (.iload_n 2, 1) := by decide +kernel
theorem dX2_hasName_3 : decode cX2_hasName 3 = .ok (.iconst 3, 1) := by decide +kernel
theorem dX2_hasName_4 : decode cX2_hasName 4 = .ok (.if_icmp .ge 35, 3) := by decide +kernel
theorem dX2_hasName_7 : decode cX2_hasName 7 = .ok (.iconst 0, 1) := by decide +kernel
theorem dX2_hasName_8 : decode cX2_hasName 8 = .ok (.istore_n 3, 1) := by decide +kernel
theorem dX2_hasName_9 : decode cX2_hasName 9 = .ok (.iload_n 3, 1) := by decide +kernel
theorem dX2_hasName_10 : decode cX2_hasName 10 = .ok (.bipush 6, 2) := by decide +kernel
theorem dX2_hasName_12 : decode cX2_hasName 12 = .ok (.if_icmp .ge 21, 3) := by decide +kernel
theorem dX2_hasName_15 : decode cX2_hasName 15 = .ok (.aload_n 0, 1) := by decide +kernel
theorem dX2_hasName_16 : decode cX2_hasName 16 = .ok (.iload_n 2, 1) := by decide +kernel
theorem dX2_hasName_17 : decode cX2_hasName 17 = .ok (.iload_n 3, 1) := by decide +kernel
theorem dX2_hasName_18 : decode cX2_hasName 18 = .ok (.invokevirtual 66, 3) := by decide +kernel
theorem dX2_hasName_21 : decode cX2_hasName 21 = .ok (.iload_n 1, 1) := by decide +kernel
theorem dX2_hasName_22 : decode cX2_hasName 22 = .ok (.if_icmp .ne 5, 3) := by decide +kernel
theorem dX2_hasName_25 : decode cX2_hasName 25 = .ok (.iconst 1, 1) := by decide +kernel
theorem dX2_hasName_26 : decode cX2_hasName 26 = .ok (.ireturn, 1) := by decide +kernel
theorem dX2_hasName_27 : decode cX2_hasName 27 = .ok (.iinc 3 1, 3) := by decide +kernel
theorem dX2_hasName_30 : decode cX2_hasName 30 = .ok (.goto (-21), 3) := by decide +kernel
theorem dX2_hasName_33 : decode cX2_hasName 33 = .ok (.iinc 2 1, 3) := by decide +kernel
theorem dX2_hasName_36 : decode cX2_hasName 36 = .ok (.goto (-34), 3) := by decide +kernel
theorem dX2_hasName_39 : decode cX2_hasName 39 = .ok (.iconst 0, 1) := by decide +kernel
theorem dX2_hasName_40 : decode cX2_hasName 40 = .ok (.ireturn, 1) := by decide +kernel
theorem kc_RX2_66 : Cond.methodLink RX2 66 yX2_nameOf ∈ ktG ∧ (Cond.instanceMethod yX2_nameOf ∈ ktG ∧ Cond.selects yX2_nameOf.cls yX2_nameOf yX2_nameOf ∈ ktG) ∧ Cond.initialized yX2_nameOf.cls ∈ ktG ∧ Cond.code yX2_nameOf cX2_nameOf 3 (some .int) ∈ ktG := ⟨(kwm 674 (by decide +kernel) (by decide +kernel)), ⟨(kwm 675 (by decide +kernel) (by decide +kernel)), (kwm 676 (by decide +kernel) (by decide +kernel))⟩, (kwm 134 (by decide +kernel) (by decide +kernel)), kwm 677 (by decide +kernel) (by decide +kernel)⟩
theorem kh_X2_nameOf : yX2_nameOf.cls ≠ "java/lang/invoke/MethodHandle" ∧ yX2_nameOf.cls ≠ "java/lang/invoke/VarHandle" ∧ (parseMethodDescriptor yX2_nameOf.desc).map (fun d => d.parameters.length) = some 2 := by decide +kernel
def E_X2_hasName_l2 (h : KH) (v0 : Nat) (v1 : Int32) : ((Unit) ⊕ (Int32)) → Nat → List (Nat × Value) → List Value → KH → Prop := Sum.elim (fun (e : Unit) pc ls st hh => pc = 39 ∧ ls = [] ∧ st = [] ∧ h = hh) (fun o => (KRz cX2_hasName o h))
def B_X2_hasName_l2 (h : KH) (v0 : Nat) (v1 : Int32) : ((Int32) ⊕ ((Unit) ⊕ (Int32))) → Nat → List (Nat × Value) → List Value → KH → Prop := Sum.elim (fun (s : Int32) pc ls st hh => pc = 2 ∧ ls = [(0, .ref v0), (1, .int v1), (2, .int s)] ∧ st = [] ∧ hh = h) (E_X2_hasName_l2 h v0 v1)
def E_X2_hasName_l9 (h : KH) (v0 : Nat) (v1 : Int32) (v2 : Int32) : ((Unit) ⊕ ((Int32) ⊕ ((Unit) ⊕ (Int32)))) → Nat → List (Nat × Value) → List Value → KH → Prop := Sum.elim (fun (e : Unit) pc ls st hh => pc = 33 ∧ ls = [(0, .ref v0), (1, .int v1), (2, .int v2)] ∧ st = [] ∧ h = hh) (fun o => (B_X2_hasName_l2 h v0 v1 o))
def B_X2_hasName_l9 (h : KH) (v0 : Nat) (v1 : Int32) (v2 : Int32) : ((Int32) ⊕ ((Unit) ⊕ ((Int32) ⊕ ((Unit) ⊕ (Int32))))) → Nat → List (Nat × Value) → List Value → KH → Prop := Sum.elim (fun (s : Int32) pc ls st hh => pc = 9 ∧ ls = [(0, .ref v0), (1, .int v1), (2, .int v2), (3, .int s)] ∧ st = [] ∧ hh = h) (E_X2_hasName_l9 h v0 v1 v2)
def f_X2_hasName_l9 (h : KH) (v0 : Nat) (v1 : Int32) (v2 : Int32) (s : Int32) : Option ((Int32) ⊕ ((Unit) ⊕ ((Int32) ⊕ ((Unit) ⊕ (Int32))))) :=
  if (6 : Int32) ≤ s then
  some (.inr (.inl ()))
  else
  if kkind v0 = 2 then kb (f_X2_nameOf h v0 v2 s) fun r3 =>
  if r3 = v1 then
  kout2 (kout2 (some (1 : Int32)))
  else
  kl (s + (1 : Int32)) fun x7 =>
  some (.inl x7) else none
set_option maxHeartbeats 4000000 in
set_option maxRecDepth 100000 in
theorem s_X2_hasName_l9 {Z : Nat → (Nat → Nat) → State → Prop} (h : KH) (v0 : Nat) (v1 : Int32) (v2 : Int32) (s : Int32) (t : (Int32) ⊕ ((Unit) ⊕ ((Int32) ⊕ ((Unit) ⊕ (Int32))))) (hn : (h).1 = 243) (H : f_X2_hasName_l9 h v0 v1 v2 s = some t) : KX Z RX2 cX2_hasName 4 false 3 (B_X2_hasName_l9 h v0 v1 v2 t) 9 [(0, .ref v0), (1, .int v1), (2, .int v2), (3, .int s)] [] h := by
  unfold f_X2_hasName_l9 at H
  refine x_iload_n (q := 10) dX2_hasName_9 rfl rfl ?_
  refine x_bipush (q := 12) (v := (6 : Int32)) dX2_hasName_10 rfl (by decide) ?_
  replace H := kite H; rcases H with ⟨g1, H⟩ | ⟨g1, H⟩
  · refine x_icmp_ge_t dX2_hasName_12 (q := 33) (by decide) g1 ?_
    cases H
    refine x_sub (ls2 := [(0, .ref v0), (1, .int v1), (2, .int v2)]) [0, 1, 2] rfl ?_
    exact x_end (x_cfg rfl)
  · refine x_icmp_ge_f (q := 15) dX2_hasName_12 (t := 33) (by decide) rfl g1 ?_
    refine x_aload_n (q := 16) dX2_hasName_15 rfl rfl ?_
    refine x_iload_n (q := 17) dX2_hasName_16 rfl rfl ?_
    refine x_iload_n (q := 18) dX2_hasName_17 rfl rfl ?_
    replace H := kif H; obtain ⟨g2, H⟩ := H
    replace H := kbe H; obtain ⟨r3, c4, H⟩ := H
    have m5 := s_X2_nameOf (Z := Z) h v0 v2 s hn c4
    refine x_callV (q := 21) (as := [.int v2, .int s]) (rest := []) dX2_hasName_18 rfl kc_RX2_66 kh_X2_nameOf (by decide) (Nat.le_of_ble_eq_true rfl) m5 (ci := 2) (by exact ⟨rfl, by decide⟩) (k243 g2 (by decide) hn) ?_
    refine x_iload_n (q := 22) dX2_hasName_21 rfl rfl ?_
    replace H := kite H; rcases H with ⟨g6, H⟩ | ⟨g6, H⟩
    · refine x_icmp_ne_f (q := 25) dX2_hasName_22 (t := 27) (by decide) rfl g6 ?_
      replace H := ko2e H; obtain ⟨o10, H, rfl⟩ := H
      replace H := ko2e H; obtain ⟨o9, H, rfl⟩ := H
      refine x_iconst (q := 26) (v := (1 : Int32)) dX2_hasName_25 rfl (by decide) ?_
      cases H
      exact x_end ⟨(Or.inr rfl), dX2_hasName_26, rfl, rfl⟩
    · refine x_icmp_ne_t dX2_hasName_22 (q := 27) (by decide) g6 ?_
      replace H := kle H; obtain ⟨x7, q8, H⟩ := H
      refine x_iinc (q := 30) (i := 3) (ls2 := [(3, .int x7), (0, .ref v0), (1, .int v1), (2, .int v2)]) dX2_hasName_27 rfl rfl (by decide) (by rw [q8]; rfl) ?_
      refine x_goto dX2_hasName_30 (q := 9) (by decide) ?_
      cases H
      refine x_sub (ls2 := [(0, .ref v0), (1, .int v1), (2, .int v2), (3, .int x7)]) [1, 2, 3, 0] rfl ?_
      exact x_end (x_cfg rfl)
theorem sl_X2_hasName_l9 {Z : Nat → (Nat → Nat) → State → Prop} (h : KH) (v0 : Nat) (v1 : Int32) (v2 : Int32) (n : Nat) (s : Int32) (r : (Unit) ⊕ ((Int32) ⊕ ((Unit) ⊕ (Int32)))) (hn : (h).1 = 243) (H : kloop (f_X2_hasName_l9 h v0 v1 v2) n s = some r) : KX Z RX2 cX2_hasName 4 false 3 (E_X2_hasName_l9 h v0 v1 v2 r) 9 [(0, .ref v0), (1, .int v1), (2, .int v2), (3, .int s)] [] h :=
  k_loop (ls := (fun (s : Int32) => ([(0, .ref v0), (1, .int v1), (2, .int v2), (3, .int s)] : List (Nat × Value)))) (hp := (fun (s : Int32) => (h : KH))) (G := E_X2_hasName_l9 h v0 v1 v2) (fun s t hn H => s_X2_hasName_l9 h v0 v1 v2 s t hn H) n s r hn H
def f_X2_hasName_l2 (h : KH) (v0 : Nat) (v1 : Int32) (s : Int32) : Option ((Int32) ⊕ ((Unit) ⊕ (Int32))) :=
  if (3 : Int32) ≤ s then
  some (.inr (.inl ()))
  else
  kb (kloop (f_X2_hasName_l9 h v0 v1 s) KF (0 : Int32)) fun e2 =>
  ksum e2 (fun x5 =>
  kl (s + (1 : Int32)) fun x7 =>
  some (.inl x7)) (fun o6 => some o6)
set_option maxHeartbeats 4000000 in
set_option maxRecDepth 100000 in
theorem s_X2_hasName_l2 {Z : Nat → (Nat → Nat) → State → Prop} (h : KH) (v0 : Nat) (v1 : Int32) (s : Int32) (t : (Int32) ⊕ ((Unit) ⊕ (Int32))) (hn : (h).1 = 243) (H : f_X2_hasName_l2 h v0 v1 s = some t) : KX Z RX2 cX2_hasName 4 false 3 (B_X2_hasName_l2 h v0 v1 t) 2 [(0, .ref v0), (1, .int v1), (2, .int s)] [] h := by
  unfold f_X2_hasName_l2 at H
  refine x_iload_n (q := 3) dX2_hasName_2 rfl rfl ?_
  refine x_iconst (q := 4) (v := (3 : Int32)) dX2_hasName_3 rfl (by decide) ?_
  replace H := kite H; rcases H with ⟨g1, H⟩ | ⟨g1, H⟩
  · refine x_icmp_ge_t dX2_hasName_4 (q := 39) (by decide) g1 ?_
    cases H
    refine x_sub (ls2 := []) [] rfl ?_
    exact x_end (x_cfg rfl)
  · refine x_icmp_ge_f (q := 7) dX2_hasName_4 (t := 39) (by decide) rfl g1 ?_
    refine x_iconst (q := 8) (v := (0 : Int32)) dX2_hasName_7 rfl (by decide) ?_
    refine x_istore_n (q := 9) (i := 3) (ls2 := [(3, .int (0 : Int32)), (0, .ref v0), (1, .int v1), (2, .int s)]) dX2_hasName_8 rfl rfl (by decide) rfl ?_
    refine x_sub (ls2 := [(0, .ref v0), (1, .int v1), (2, .int s), (3, .int (0 : Int32))]) [1, 2, 3, 0] rfl ?_
    replace H := kbe H; obtain ⟨e2, c3, H⟩ := H
    refine x_app (sl_X2_hasName_l9 h v0 v1 s KF (0 : Int32) e2 hn c3) fun pc2 ls2 st2 h2 hg m4 => ?_
    replace H := kse H; rcases H with ⟨x5, rfl, H⟩ | ⟨o6, rfl, H⟩
    · obtain ⟨rfl, rfl, rfl, rfl⟩ := hg
      replace H := kle H; obtain ⟨x7, q8, H⟩ := H
      refine x_iinc (q := 36) (i := 2) (ls2 := [(2, .int x7), (0, .ref v0), (1, .int v1)]) dX2_hasName_33 rfl rfl (by decide) (by rw [q8]; rfl) ?_
      refine x_goto dX2_hasName_36 (q := 2) (by decide) ?_
      cases H
      refine x_sub (ls2 := [(0, .ref v0), (1, .int v1), (2, .int x7)]) [1, 2, 0] rfl ?_
      exact x_end (x_cfg rfl)
    · cases H
      exact x_end hg
theorem sl_X2_hasName_l2 {Z : Nat → (Nat → Nat) → State → Prop} (h : KH) (v0 : Nat) (v1 : Int32) (n : Nat) (s : Int32) (r : (Unit) ⊕ (Int32)) (hn : (h).1 = 243) (H : kloop (f_X2_hasName_l2 h v0 v1) n s = some r) : KX Z RX2 cX2_hasName 4 false 3 (E_X2_hasName_l2 h v0 v1 r) 2 [(0, .ref v0), (1, .int v1), (2, .int s)] [] h :=
  k_loop (ls := (fun (s : Int32) => ([(0, .ref v0), (1, .int v1), (2, .int s)] : List (Nat × Value)))) (hp := (fun (s : Int32) => (h : KH))) (G := E_X2_hasName_l2 h v0 v1) (fun s t hn H => s_X2_hasName_l2 h v0 v1 s t hn H) n s r hn H
def f_X2_hasName (h : KH) (v0 : Nat) (v1 : Int32) : Option (Int32) :=
  kb (kloop (f_X2_hasName_l2 h v0 v1) KF (0 : Int32)) fun e1 =>
  ksum e1 (fun x4 =>
  some (0 : Int32)) (fun o5 => some o5)
set_option maxHeartbeats 4000000 in
set_option maxRecDepth 100000 in
theorem s0_X2_hasName {Z : Nat → (Nat → Nat) → State → Prop} (h : KH) (v0 : Nat) (v1 : Int32) {t : Int32} (hn : h.1 = 243) (H : f_X2_hasName h v0 v1 = some t) : KX Z RX2 cX2_hasName 4 false 3 (KRz cX2_hasName t h) 0 [(0, .ref v0), (1, .int v1)] [] h := by
  unfold f_X2_hasName at H
  refine x_iconst (q := 1) (v := (0 : Int32)) dX2_hasName_0 rfl (by decide) ?_
  refine x_istore_n (q := 2) (i := 2) (ls2 := [(2, .int (0 : Int32)), (0, .ref v0), (1, .int v1)]) dX2_hasName_1 rfl rfl (by decide) rfl ?_
  refine x_sub (ls2 := [(0, .ref v0), (1, .int v1), (2, .int (0 : Int32))]) [1, 2, 0] rfl ?_
  replace H := kbe H; obtain ⟨e1, c2, H⟩ := H
  refine x_app (sl_X2_hasName_l2 h v0 v1 KF (0 : Int32) e1 hn c2) fun pc2 ls2 st2 h2 hg m3 => ?_
  replace H := kse H; rcases H with ⟨x4, rfl, H⟩ | ⟨o5, rfl, H⟩
  · obtain ⟨rfl, rfl, rfl, rfl⟩ := hg
    refine x_iconst (q := 40) (v := (0 : Int32)) dX2_hasName_39 rfl (by decide) ?_
    cases H
    exact x_end ⟨(Or.inl rfl), dX2_hasName_40, rfl, rfl⟩
  · cases H
    exact x_end hg
theorem s_X2_hasName {Z : Nat → (Nat → Nat) → State → Prop} (h : KH) (v0 : Nat) (v1 : Int32) {t : Int32} (hn : h.1 = 243) (H : f_X2_hasName h v0 v1 = some t) : KM Z yX2_hasName cX2_hasName 4 (some .boolean) 3 [.ref v0, .int v1] h (some (.int t)) h :=
  kx_z (own := RX2) (ini := false) (by decide +kernel) (by decide +kernel) rfl (Nat.le_of_ble_eq_true rfl) (s0_X2_hasName h v0 v1 hn H)
theorem dX2_harmOf_0 : decode cX2_harmOf 0 = .ok (.iconst 0, 1) := by decide +kernel
theorem dX2_harmOf_1 : decode cX2_harmOf 1 = .ok (.istore_n 2, 1) := by decide +kernel
theorem dX2_harmOf_2 : decode cX2_harmOf 2 = .ok (.iconst 0, 1) := by decide +kernel
theorem dX2_harmOf_3 : decode cX2_harmOf 3 = .ok (.istore_n 3, 1) := by decide +kernel
theorem dX2_harmOf_4 : decode cX2_harmOf 4 = .ok (.iload_n 3, 1) := by decide +kernel
theorem dX2_harmOf_5 : decode cX2_harmOf 5 = .ok (.aload_n 0, 1) := by decide +kernel
theorem dX2_harmOf_6 : decode cX2_harmOf 6 = .ok (.getfield 26, 3) := by decide +kernel
theorem dX2_harmOf_9 : decode cX2_harmOf 9 = .ok (.if_icmp .ge 28, 3) := by decide +kernel
theorem dX2_harmOf_12 : decode cX2_harmOf 12 = .ok (.iload_n 1, 1) := by decide +kernel
theorem dX2_harmOf_13 : decode cX2_harmOf 13 = .ok (.iload_n 3, 1) := by decide +kernel
theorem dX2_harmOf_14 : decode cX2_harmOf 14 = .ok (.ishr, 1) := by decide +kernel
theorem dX2_harmOf_15 : decode cX2_harmOf 15 = .ok (.iconst 1, 1) := by decide +kernel
theorem dX2_harmOf_16 : decode cX2_harmOf 16 = .ok (.iand, 1) := by decide +kernel
theorem dX2_harmOf_17 : decode cX2_harmOf 17 = .ok (.ifCond .eq 14, 3) := by decide +kernel
theorem dX2_harmOf_20 : decode cX2_harmOf 20 = .ok (.iload_n 2, 1) := by decide +kernel
theorem dX2_harmOf_21 : decode cX2_harmOf 21 = .ok (.aload_n 0, 1) := by decide +kernel
theorem dX2_harmOf_22 : decode cX2_harmOf 22 = .ok (.getfield 16, 3) := by decide +kernel
theorem dX2_harmOf_25 : decode cX2_harmOf 25 = .ok (.iload_n 3, 1) := by decide +kernel
theorem dX2_harmOf_26 : decode cX2_harmOf 26 = .ok (.aaload, 1) := by decide +kernel
theorem dX2_harmOf_27 : decode cX2_harmOf 27 = .ok (.iconst 1, 1) := by decide +kernel
theorem dX2_harmOf_28 : decode cX2_harmOf 28 = .ok (.iaload, 1) := by decide +kernel
theorem dX2_harmOf_29 : decode cX2_harmOf 29 = .ok (.iadd, 1) := by decide +kernel
theorem dX2_harmOf_30 : decode cX2_harmOf 30 = .ok (.istore_n 2, 1) := by decide +kernel
theorem dX2_harmOf_31 : decode cX2_harmOf 31 = .ok (.iinc 3 1, 3) := by decide +kernel
theorem dX2_harmOf_34 : decode cX2_harmOf 34 = .ok (.goto (-30), 3) := by decide +kernel
theorem dX2_harmOf_37 : decode cX2_harmOf 37 = .ok (.iload_n 2, 1) := by decide +kernel
theorem dX2_harmOf_38 : decode cX2_harmOf 38 = .ok (.ireturn, 1) := by decide +kernel
def E_X2_harmOf_l4 (h : KH) (v0 : Nat) (v1 : Int32) : Int32 → Nat → List (Nat × Value) → List Value → KH → Prop := fun (e : Int32) pc ls st hh => pc = 37 ∧ ls = [(2, .int e)] ∧ st = [] ∧ h = hh
def B_X2_harmOf_l4 (h : KH) (v0 : Nat) (v1 : Int32) : ((Int32 × Int32) ⊕ (Int32)) → Nat → List (Nat × Value) → List Value → KH → Prop := Sum.elim (fun (s : Int32 × Int32) pc ls st hh => pc = 4 ∧ ls = [(0, .ref v0), (1, .int v1), (2, .int s.1), (3, .int s.2)] ∧ st = [] ∧ hh = h) (E_X2_harmOf_l4 h v0 v1)
def f_X2_harmOf_b31 (h : KH) (v0 : Nat) (v1 : Int32) (v2 : Int32) (v3 : Int32) : Option ((Int32 × Int32) ⊕ (Int32)) :=
  kl (v3 + (1 : Int32)) fun x1 =>
  some (.inl (v2, x1))
set_option maxHeartbeats 4000000 in
set_option maxRecDepth 100000 in
theorem s_X2_harmOf_b31 {Z : Nat → (Nat → Nat) → State → Prop} (h : KH) (v0 : Nat) (v1 : Int32) (v2 : Int32) (v3 : Int32) {t : (Int32 × Int32) ⊕ (Int32)} (hn : h.1 = 243) (H : f_X2_harmOf_b31 h v0 v1 v2 v3 = some t) : KX Z RX2 cX2_harmOf 4 false 1 (B_X2_harmOf_l4 h v0 v1 t) 31 [(0, .ref v0), (1, .int v1), (2, .int v2), (3, .int v3)] [] h := by
  unfold f_X2_harmOf_b31 at H
  replace H := kle H; obtain ⟨x1, q2, H⟩ := H
  refine x_iinc (q := 34) (i := 3) (ls2 := [(3, .int x1), (0, .ref v0), (1, .int v1), (2, .int v2)]) dX2_harmOf_31 rfl rfl (by decide) (by rw [q2]; rfl) ?_
  refine x_goto dX2_harmOf_34 (q := 4) (by decide) ?_
  cases H
  refine x_sub (ls2 := [(0, .ref v0), (1, .int v1), (2, .int v2), (3, .int x1)]) [1, 2, 3, 0] rfl ?_
  exact x_end (x_cfg rfl)
def f_X2_harmOf_l4 (h : KH) (v0 : Nat) (v1 : Int32) (s : Int32 × Int32) : Option ((Int32 × Int32) ⊕ (Int32)) :=
  if kkind v0 = 2 then if (kI h v0 4) ≤ s.2 then
  some (.inr s.1)
  else
  if ((v1 >>> (s.2 &&& 31)) &&& (1 : Int32)) = 0 then
  f_X2_harmOf_b31 h v0 v1 s.1 s.2
  else
  if (kR h v0 1) < 999999 then if kkind (kR h v0 1) = 24 then if (s.2 < 0 ∨ klen (kR h v0 1) ≤ (s.2).toNatClampNeg) then none else if (kR h (kR h v0 1) ((s.2).toNatClampNeg)) < 999999 then if kkind (kR h (kR h v0 1) ((s.2).toNatClampNeg)) = 20 then if klen (kR h (kR h v0 1) ((s.2).toNatClampNeg)) ≤ 1 then none else kl (s.1 + (kI h (kR h (kR h v0 1) ((s.2).toNatClampNeg)) 1)) fun x10 =>
  f_X2_harmOf_b31 h v0 v1 x10 s.2 else none else none else none else none else none
set_option maxHeartbeats 4000000 in
set_option maxRecDepth 100000 in
theorem s_X2_harmOf_l4 {Z : Nat → (Nat → Nat) → State → Prop} (h : KH) (v0 : Nat) (v1 : Int32) (s : Int32 × Int32) (t : (Int32 × Int32) ⊕ (Int32)) (hn : (h).1 = 243) (H : f_X2_harmOf_l4 h v0 v1 s = some t) : KX Z RX2 cX2_harmOf 4 false 1 (B_X2_harmOf_l4 h v0 v1 t) 4 [(0, .ref v0), (1, .int v1), (2, .int s.1), (3, .int s.2)] [] h := by
  unfold f_X2_harmOf_l4 at H
  refine x_iload_n (q := 5) dX2_harmOf_4 rfl rfl ?_
  refine x_aload_n (q := 6) dX2_harmOf_5 rfl rfl ?_
  replace H := kif H; obtain ⟨g1, H⟩ := H
  refine x_getI (q := 9) dX2_harmOf_6 rfl kl_RX2_26 (Or.inl rfl) (k243 g1 (by decide) hn) ?_
  replace H := kite H; rcases H with ⟨g2, H⟩ | ⟨g2, H⟩
  · refine x_icmp_ge_t dX2_harmOf_9 (q := 37) (by decide) g2 ?_
    cases H
    refine x_sub (ls2 := [(2, .int s.1)]) [2] rfl ?_
    exact x_end (x_cfg rfl)
  · refine x_icmp_ge_f (q := 12) dX2_harmOf_9 (t := 37) (by decide) rfl g2 ?_
    refine x_iload_n (q := 13) dX2_harmOf_12 rfl rfl ?_
    refine x_iload_n (q := 14) dX2_harmOf_13 rfl rfl ?_
    refine x_ishr (q := 15) dX2_harmOf_14 rfl ?_
    refine x_iconst (q := 16) (v := (1 : Int32)) dX2_harmOf_15 rfl (by decide) ?_
    refine x_iand (q := 17) dX2_harmOf_16 rfl ?_
    replace H := kite H; rcases H with ⟨g3, H⟩ | ⟨g3, H⟩
    · refine x_if_eq_t dX2_harmOf_17 (q := 31) (by decide) g3 ?_
      refine x_sub (ls2 := [(0, .ref v0), (1, .int v1), (2, .int s.1), (3, .int s.2)]) [0, 1, 2, 3] rfl ?_
      exact s_X2_harmOf_b31 h v0 v1 s.1 s.2 hn H
    · refine x_if_eq_f (q := 20) dX2_harmOf_17 (t := 31) (by decide) rfl g3 ?_
      refine x_iload_n (q := 21) dX2_harmOf_20 rfl rfl ?_
      refine x_aload_n (q := 22) dX2_harmOf_21 rfl rfl ?_
      replace H := kif H; obtain ⟨g4, H⟩ := H
      refine x_getR (q := 25) dX2_harmOf_22 rfl kl_RX2_16 rfl (k243 g1 (by decide) hn) g4 ?_
      refine x_iload_n (q := 26) dX2_harmOf_25 rfl rfl ?_
      replace H := kif H; obtain ⟨g5, H⟩ := H
      replace H := kifn H; obtain ⟨g6, H⟩ := H
      replace H := kif H; obtain ⟨g7, H⟩ := H
      refine x_aald (q := 27) dX2_harmOf_26 rfl (Or.inl rfl) (k243 g5 (by decide) hn) g6 g7 ?_
      refine x_iconst (q := 28) (v := (1 : Int32)) dX2_harmOf_27 rfl (by decide) ?_
      replace H := kif H; obtain ⟨g8, H⟩ := H
      replace H := kifn H; obtain ⟨g9, H⟩ := H
      refine x_iald (q := 29) dX2_harmOf_28 rfl (k243 g8 (by decide) hn) (fun z => z.elim (by decide) g9) ?_
      refine x_iadd (q := 30) dX2_harmOf_29 rfl ?_
      replace H := kle H; obtain ⟨x10, q11, H⟩ := H
      refine x_nmI q11 ?_
      refine x_istore_n (q := 31) (i := 2) (ls2 := [(2, .int x10), (0, .ref v0), (1, .int v1), (3, .int s.2)]) dX2_harmOf_30 rfl rfl (by decide) rfl ?_
      refine x_sub (ls2 := [(0, .ref v0), (1, .int v1), (2, .int x10), (3, .int s.2)]) [1, 2, 0, 3] rfl ?_
      exact s_X2_harmOf_b31 h v0 v1 x10 s.2 hn H
theorem sl_X2_harmOf_l4 {Z : Nat → (Nat → Nat) → State → Prop} (h : KH) (v0 : Nat) (v1 : Int32) (n : Nat) (s : Int32 × Int32) (r : Int32) (hn : (h).1 = 243) (H : kloop (f_X2_harmOf_l4 h v0 v1) n s = some r) : KX Z RX2 cX2_harmOf 4 false 1 (E_X2_harmOf_l4 h v0 v1 r) 4 [(0, .ref v0), (1, .int v1), (2, .int s.1), (3, .int s.2)] [] h :=
  k_loop (ls := (fun (s : Int32 × Int32) => ([(0, .ref v0), (1, .int v1), (2, .int s.1), (3, .int s.2)] : List (Nat × Value)))) (hp := (fun (s : Int32 × Int32) => (h : KH))) (G := E_X2_harmOf_l4 h v0 v1) (fun s t hn H => s_X2_harmOf_l4 h v0 v1 s t hn H) n s r hn H
def f_X2_harmOf (h : KH) (v0 : Nat) (v1 : Int32) : Option (Int32) :=
  kb (kloop (f_X2_harmOf_l4 h v0 v1) KF ((0 : Int32), (0 : Int32))) fun e1 =>
  some e1
set_option maxHeartbeats 4000000 in
set_option maxRecDepth 100000 in
theorem s0_X2_harmOf {Z : Nat → (Nat → Nat) → State → Prop} (h : KH) (v0 : Nat) (v1 : Int32) {t : Int32} (hn : h.1 = 243) (H : f_X2_harmOf h v0 v1 = some t) : KX Z RX2 cX2_harmOf 4 false 1 (KRi cX2_harmOf t h) 0 [(0, .ref v0), (1, .int v1)] [] h := by
  unfold f_X2_harmOf at H
  refine x_iconst (q := 1) (v := (0 : Int32)) dX2_harmOf_0 rfl (by decide) ?_
  refine x_istore_n (q := 2) (i := 2) (ls2 := [(2, .int (0 : Int32)), (0, .ref v0), (1, .int v1)]) dX2_harmOf_1 rfl rfl (by decide) rfl ?_
  refine x_iconst (q := 3) (v := (0 : Int32)) dX2_harmOf_2 rfl (by decide) ?_
  refine x_istore_n (q := 4) (i := 3) (ls2 := [(3, .int (0 : Int32)), (2, .int (0 : Int32)), (0, .ref v0), (1, .int v1)]) dX2_harmOf_3 rfl rfl (by decide) rfl ?_
  refine x_sub (ls2 := [(0, .ref v0), (1, .int v1), (2, .int (0 : Int32)), (3, .int (0 : Int32))]) [2, 3, 1, 0] rfl ?_
  replace H := kbe H; obtain ⟨e1, c2, H⟩ := H
  refine x_app (sl_X2_harmOf_l4 h v0 v1 KF ((0 : Int32), (0 : Int32)) e1 hn c2) fun pc2 ls2 st2 h2 hg m3 => ?_
  obtain ⟨rfl, rfl, rfl, rfl⟩ := hg
  refine x_iload_n (q := 38) dX2_harmOf_37 rfl rfl ?_
  cases H
  exact x_end ⟨dX2_harmOf_38, rfl, rfl⟩
theorem s_X2_harmOf {Z : Nat → (Nat → Nat) → State → Prop} (h : KH) (v0 : Nat) (v1 : Int32) {t : Int32} (hn : h.1 = 243) (H : f_X2_harmOf h v0 v1 = some t) : KM Z yX2_harmOf cX2_harmOf 4 (some .int) 1 [.ref v0, .int v1] h (some (.int t)) h :=
  kx_i (own := RX2) (ini := false) (by decide +kernel) (by decide +kernel) rfl (Nat.le_of_ble_eq_true rfl) (s0_X2_harmOf h v0 v1 hn H)
theorem dX2_yieldBits_0 : decode cX2_yieldBits 0 = .ok (.aload_n 0, 1) := by decide +kernel
theorem dX2_yieldBits_1 : decode cX2_yieldBits 1 = .ok (.getfield 38, 3) := by decide +kernel
theorem dX2_yieldBits_4 : decode cX2_yieldBits 4 = .ok (.ifCond .ne 7, 3) := by decide +kernel
theorem dX2_yieldBits_7 : decode cX2_yieldBits 7 = .ok (.sipush 2730, 3) := by decide +kernel
theorem dX2_yieldBits_10 : decode cX2_yieldBits 10 = .ok (.ireturn, 1) := by decide +kernel
theorem dX2_yieldBits_11 : decode cX2_yieldBits 11 = .ok (.iload_n 1, 1) := by decide +kernel
theorem dX2_yieldBits_12 : decode cX2_yieldBits 12 = .ok (.ifCond .lt 21, 3) := by decide +kernel
theorem dX2_yieldBits_15 : decode cX2_yieldBits 15 = .ok (.iload_n 1, 1) := by decide +kernel
theorem dX2_yieldBits_16 : decode cX2_yieldBits 16 = .ok (.aload_n 0, 1) := by decide +kernel
theorem dX2_yieldBits_17 : decode cX2_yieldBits 17 = .ok (.getfield 26, 3) := by decide +kernel
theorem dX2_yieldBits_20 : decode cX2_yieldBits 20 = .ok (.if_icmp .ge 13, 3) := by decide +kernel
theorem dX2_yieldBits_23 : decode cX2_yieldBits 23 = .ok (.iload_n 2, 1) := by decide +kernel
theorem dX2_yieldBits_24 : decode cX2_yieldBits 24 = .ok (.ifCond .lt 9, 3) := by decide +kernel
theorem dX2_yieldBits_27 : decode cX2_yieldBits 27 = .ok (.iload_n 2, 1) := by decide +kernel
theorem dX2_yieldBits_28 : decode cX2_yieldBits 28 = .ok (.bipush 99, 2) := by decide +kernel
theorem dX2_yieldBits_30 : decode cX2_yieldBits 30 = .ok (.if_icmp .le 5, 3) := by decide +kernel
theorem dX2_yieldBits_33 : decode cX2_yieldBits 33 = .ok (.iconst 0, 1) := by decide +kernel
theorem dX2_yieldBits_34 : decode cX2_yieldBits 34 = .ok (.ireturn, 1) := by decide +kernel
theorem dX2_yieldBits_35 : decode cX2_yieldBits 35 = .ok (.iload_n 1, 1) := by decide +kernel
theorem dX2_yieldBits_36 : decode cX2_yieldBits 36 = .ok (.bipush 100, 2) := by decide +kernel
theorem dX2_yieldBits_38 : decode cX2_yieldBits 38 = .ok (.imul, 1) := by decide +kernel
theorem dX2_yieldBits_39 : decode cX2_yieldBits 39 = .ok (.iload_n 2, 1) := by decide +kernel
theorem dX2_yieldBits_40 : decode cX2_yieldBits 40 = .ok (.iadd, 1) := by decide +kernel
theorem dX2_yieldBits_41 : decode cX2_yieldBits 41 = .ok (.istore_n 3, 1) := by decide +kernel
theorem dX2_yieldBits_42 : decode cX2_yieldBits 42 = .ok (.aload_n 0, 1) := by decide +kernel
theorem dX2_yieldBits_43 : decode cX2_yieldBits 43 = .ok (.getfield 53, 3) := by decide +kernel
theorem dX2_yieldBits_46 : decode cX2_yieldBits 46 = .ok (.iload_n 3, 1) := by decide +kernel
theorem dX2_yieldBits_47 : decode cX2_yieldBits 47 = .ok (.iaload, 1) := by decide +kernel
theorem dX2_yieldBits_48 : decode cX2_yieldBits 48 = .ok (.ifCond .eq 14, 3) := by decide +kernel
theorem dX2_yieldBits_51 : decode cX2_yieldBits 51 = .ok (.aload_n 0, 1) := by decide +kernel
theorem dX2_yieldBits_52 : decode cX2_yieldBits 52 = .ok (.getfield 53, 3) := by decide +kernel
theorem dX2_yieldBits_55 : decode cX2_yieldBits 55 = .ok (.iload_n 3, 1) := by decide +kernel
theorem dX2_yieldBits_56 : decode cX2_yieldBits 56 = .ok (.iaload, 1) := by decide +kernel
theorem dX2_yieldBits_57 : decode cX2_yieldBits 57 = .ok (.sipush 4095, 3) := by decide +kernel
theorem dX2_yieldBits_60 : decode cX2_yieldBits 60 = .ok (.iand, 1) := by decide +kernel
theorem dX2_yieldBits_61 : decode cX2_yieldBits 61 = .ok (.ireturn, 1) := by decide +kernel
theorem dX2_yieldBits_62 : decode cX2_yieldBits 62 = .ok (.iconst 0, 1) := by decide +kernel
theorem dX2_yieldBits_63 : decode cX2_yieldBits 63 = .ok (.istore 4, 2) := by decide +kernel
theorem dX2_yieldBits_65 : decode cX2_yieldBits 65 = .ok (.aload_n 0, 1) := by decide +kernel
theorem dX2_yieldBits_66 : decode cX2_yieldBits 66 = .ok (.getfield 49, 3) := by decide +kernel
theorem dX2_yieldBits_69 : decode cX2_yieldBits 69 = .ok (.bipush 6, 2) := by decide +kernel
theorem dX2_yieldBits_71 : decode cX2_yieldBits 71 = .ok (.aload_n 0, 1) := by decide +kernel
theorem dX2_yieldBits_72 : decode cX2_yieldBits 72 = .ok (.getfield 16, 3) := by decide +kernel
theorem dX2_yieldBits_75 : decode cX2_yieldBits 75 = .ok (.iload_n 1, 1) := by decide +kernel
theorem dX2_yieldBits_76 : decode cX2_yieldBits 76 = .ok (.aaload, 1) := by decide +kernel
theorem dX2_yieldBits_77 : decode cX2_yieldBits 77 = .ok (.iconst 1, 1) := by decide +kernel
theorem dX2_yieldBits_78 : decode cX2_yieldBits 78 = .ok (.iaload, 1) := by decide +kernel
theorem dX2_yieldBits_79 : decode cX2_yieldBits 79 = .ok (.iastore, 1) := by decide +kernel
theorem dX2_yieldBits_80 : decode cX2_yieldBits 80 = .ok (.aload_n 0, 1) := by decide +kernel
theorem dX2_yieldBits_81 : decode cX2_yieldBits 81 = .ok (.getfield 49, 3) := by decide +kernel
theorem dX2_yieldBits_84 : decode cX2_yieldBits 84 = .ok (.bipush 11, 2) := by decide +kernel
theorem dX2_yieldBits_86 : decode cX2_yieldBits 86 = .ok (.iload_n 2, 1) := by decide +kernel
theorem dX2_yieldBits_87 : decode cX2_yieldBits 87 = .ok (.iastore, 1) := by decide +kernel
theorem dX2_yieldBits_88 : decode cX2_yieldBits 88 = .ok (.iconst 0, 1) := by decide +kernel
theorem dX2_yieldBits_89 : decode cX2_yieldBits 89 = .ok (.istore 5, 2) := by decide +kernel
theorem dX2_yieldBits_91 : decode cX2_yieldBits 91 = .ok (.iload 5, 2) := by decide +kernel
theorem dX2_yieldBits_93 : decode cX2_yieldBits 93 = .ok (.aload_n 0, 1) := by decide +kernel
theorem dX2_yieldBits_94 : decode cX2_yieldBits 94 = .ok (.getfield 22, 3) := by decide +kernel
theorem dX2_yieldBits_97 : decode cX2_yieldBits 97 = .ok (.if_icmp .ge 87, 3) := by decide +kernel
theorem dX2_yieldBits_100 : decode cX2_yieldBits 100 = .ok (.aload_n 0, 1) := by decide +kernel
theorem dX2_yieldBits_101 : decode cX2_yieldBits 101 = .ok (.getfield 49, 3) := by decide +kernel
theorem dX2_yieldBits_104 : decode cX2_yieldBits 104 = .ok (.iconst 1, 1) := by decide +kernel
theorem dX2_yieldBits_105 : decode cX2_yieldBits 105 = .ok (.aload_n 0, 1) := by decide +kernel
theorem dX2_yieldBits_106 : decode cX2_yieldBits 106 = .ok (.getfield 11, 3) := by decide +kernel
theorem dX2_yieldBits_109 : decode cX2_yieldBits 109 = .ok (.iload 5, 2) := by decide +kernel
theorem dX2_yieldBits_111 : decode cX2_yieldBits 111 = .ok (.aaload, 1) := by decide +kernel
theorem dX2_yieldBits_112 : decode cX2_yieldBits 112 = .ok (.iconst 1, 1) := by decide +kernel
theorem dX2_yieldBits_113 : decode cX2_yieldBits 113 = .ok (.iaload, 1) := by decide +kernel
theorem dX2_yieldBits_114 : decode cX2_yieldBits 114 = .ok (.iastore, 1) := by decide +kernel
theorem dX2_yieldBits_115 : decode cX2_yieldBits 115 = .ok (.aload_n 0, 1) := by decide +kernel
theorem dX2_yieldBits_116 : decode cX2_yieldBits 116 = .ok (.getfield 49, 3) := by decide +kernel
theorem dX2_yieldBits_119 : decode cX2_yieldBits 119 = .ok (.iconst 2, 1) := by decide +kernel
theorem dX2_yieldBits_120 : decode cX2_yieldBits 120 = .ok (.aload_n 0, 1) := by decide +kernel
theorem dX2_yieldBits_121 : decode cX2_yieldBits 121 = .ok (.getfield 11, 3) := by decide +kernel
theorem dX2_yieldBits_124 : decode cX2_yieldBits 124 = .ok (.iload 5, 2) := by decide +kernel
theorem dX2_yieldBits_126 : decode cX2_yieldBits 126 = .ok (.aaload, 1) := by decide +kernel
theorem dX2_yieldBits_127 : decode cX2_yieldBits 127 = .ok (.iconst 2, 1) := by decide +kernel
theorem dX2_yieldBits_128 : decode cX2_yieldBits 128 = .ok (.iaload, 1) := by decide +kernel
theorem dX2_yieldBits_129 : decode cX2_yieldBits 129 = .ok (.iastore, 1) := by decide +kernel
theorem dX2_yieldBits_130 : decode cX2_yieldBits 130 = .ok (.iconst 0, 1) := by decide +kernel
theorem dX2_yieldBits_131 : decode cX2_yieldBits 131 = .ok (.istore 6, 2) := by decide +kernel
theorem dX2_yieldBits_133 : decode cX2_yieldBits 133 = .ok (.iload 6, 2) := by decide +kernel
theorem dX2_yieldBits_135 : decode cX2_yieldBits 135 = .ok (.iconst 2, 1) := by decide +kernel
theorem dX2_yieldBits_136 : decode cX2_yieldBits 136 = .ok (.if_icmp .ge 42, 3) := by decide +kernel
theorem dX2_yieldBits_139 : decode cX2_yieldBits 139 = .ok (.aload_n 0, 1) := by decide +kernel
theorem dX2_yieldBits_140 : decode cX2_yieldBits 140 = .ok (.getfield 49, 3) := by decide +kernel
theorem dX2_yieldBits_143 : decode cX2_yieldBits 143 = .ok (.bipush 12, 2) := by decide +kernel
theorem dX2_yieldBits_145 : decode cX2_yieldBits 145 = .ok (.iload 6, 2) := by decide +kernel
theorem dX2_yieldBits_147 : decode cX2_yieldBits 147 = .ok (.iastore, 1) := by decide +kernel
theorem dX2_yieldBits_148 : decode cX2_yieldBits 148 = .ok (.iload 4, 2) := by decide +kernel
theorem dX2_yieldBits_150 : decode cX2_yieldBits 150 = .ok (.aload_n 0, 1) := by decide +kernel
theorem dX2_yieldBits_151 : decode cX2_yieldBits 151 = .ok (.getfield 45, 3) := by decide +kernel
theorem dX2_yieldBits_154 : decode cX2_yieldBits 154 = .ok (.aload_n 0, 1) := by decide +kernel
theorem dX2_yieldBits_155 : decode cX2_yieldBits 155 = .ok (.getfield 49, 3) := by decide +kernel
theorem dX2_yieldBits_158 : decode cX2_yieldBits 158 = .ok (.invokevirtual 70, 3) := by decide +kernel
theorem dX2_yieldBits_161 : decode cX2_yieldBits 161 = .ok (.iload 5, 2) := by decide +kernel
theorem dX2_yieldBits_163 : decode cX2_yieldBits 163 = .ok (.iconst 2, 1) := by decide +kernel
theorem dX2_yieldBits_164 : decode cX2_yieldBits 164 = .ok (.imul, 1) := by decide +kernel
theorem dX2_yieldBits_165 : decode cX2_yieldBits 165 = .ok (.iload 6, 2) := by decide +kernel
theorem dX2_yieldBits_167 : decode cX2_yieldBits 167 = .ok (.iadd, 1) := by decide +kernel
theorem dX2_yieldBits_168 : decode cX2_yieldBits 168 = .ok (.ishl, 1) := by decide +kernel
theorem dX2_yieldBits_169 : decode cX2_yieldBits 169 = .ok (.ior, 1) := by decide +kernel
theorem dX2_yieldBits_170 : decode cX2_yieldBits 170 = .ok (.istore 4, 2) := by decide +kernel
theorem dX2_yieldBits_172 : decode cX2_yieldBits 172 = .ok (.iinc 6 1, 3) := by decide +kernel
theorem dX2_yieldBits_175 : decode cX2_yieldBits 175 = .ok (.goto (-42), 3) := by decide +kernel
theorem dX2_yieldBits_178 : decode cX2_yieldBits 178 = .ok (.iinc 5 1, 3) := by decide +kernel
theorem dX2_yieldBits_181 : decode cX2_yieldBits 181 = .ok (.goto (-90), 3) := by decide +kernel
theorem dX2_yieldBits_184 : decode cX2_yieldBits 184 = .ok (.aload_n 0, 1) := by decide +kernel
theorem dX2_yieldBits_185 : decode cX2_yieldBits 185 = .ok (.getfield 53, 3) := by decide +kernel
theorem dX2_yieldBits_188 : decode cX2_yieldBits 188 = .ok (.iload_n 3, 1) := by decide +kernel
theorem dX2_yieldBits_189 : decode cX2_yieldBits 189 = .ok (.sipush 4096, 3) := by decide +kernel
theorem dX2_yieldBits_192 : decode cX2_yieldBits 192 = .ok (.iload 4, 2) := by decide +kernel
theorem dX2_yieldBits_194 : decode cX2_yieldBits 194 = .ok (.ior, 1) := by decide +kernel
theorem dX2_yieldBits_195 : decode cX2_yieldBits 195 = .ok (.iastore, 1) := by decide +kernel
theorem dX2_yieldBits_196 : decode cX2_yieldBits 196 = .ok (.iload 4, 2) := by decide +kernel
theorem dX2_yieldBits_198 : decode cX2_yieldBits 198 = .ok (.ireturn, 1) := by decide +kernel
theorem kl_RX2_49 : KLk RX2 49 2 10 := ⟨RX2, TX2, 12, rfl, by decide, Or.inl (kwm 385 (by decide +kernel) (by decide +kernel))⟩
theorem kl_RX2_45 : KLk RX2 45 2 9 := ⟨RX2, TX2, 12, rfl, by decide, Or.inl (kwm 383 (by decide +kernel) (by decide +kernel))⟩
theorem kc_RX2_70 : Cond.methodLink RX2 70 yX1_resultFor ∈ ktG ∧ (Cond.instanceMethod yX1_resultFor ∈ ktG ∧ Cond.selects yX1_resultFor.cls yX1_resultFor yX1_resultFor ∈ ktG) ∧ Cond.initialized yX1_resultFor.cls ∈ ktG ∧ Cond.code yX1_resultFor cX1_resultFor 8 (some .int) ∈ ktG := ⟨(kwm 852 (by decide +kernel) (by decide +kernel)), ⟨(kwm 853 (by decide +kernel) (by decide +kernel)), (kwm 854 (by decide +kernel) (by decide +kernel))⟩, (kwm 126 (by decide +kernel) (by decide +kernel)), kwm 855 (by decide +kernel) (by decide +kernel)⟩
theorem kh_X1_resultFor : yX1_resultFor.cls ≠ "java/lang/invoke/MethodHandle" ∧ yX1_resultFor.cls ≠ "java/lang/invoke/VarHandle" ∧ (parseMethodDescriptor yX1_resultFor.desc).map (fun d => d.parameters.length) = some 1 := by decide +kernel
def E_X2_yieldBits_l91 (v0 : Nat) (v3 : Int32) : Int32 × KH → Nat → List (Nat × Value) → List Value → KH → Prop := fun (e : Int32 × KH) pc ls st hh => pc = 184 ∧ ls = [(0, .ref v0), (3, .int v3), (4, .int e.1)] ∧ st = [] ∧ e.2 = hh
def B_X2_yieldBits_l91 (v0 : Nat) (v3 : Int32) : ((Int32 × Int32 × KH) ⊕ (Int32 × KH)) → Nat → List (Nat × Value) → List Value → KH → Prop := Sum.elim (fun (s : Int32 × Int32 × KH) pc ls st hh => pc = 91 ∧ ls = [(0, .ref v0), (3, .int v3), (4, .int s.1), (5, .int s.2.1)] ∧ st = [] ∧ hh = s.2.2) (E_X2_yieldBits_l91 v0 v3)
def E_X2_yieldBits_l133 (v0 : Nat) (v3 : Int32) (v5 : Int32) : Int32 × KH → Nat → List (Nat × Value) → List Value → KH → Prop := fun (e : Int32 × KH) pc ls st hh => pc = 178 ∧ ls = [(0, .ref v0), (3, .int v3), (4, .int e.1), (5, .int v5)] ∧ st = [] ∧ e.2 = hh
def B_X2_yieldBits_l133 (v0 : Nat) (v3 : Int32) (v5 : Int32) : ((Int32 × Int32 × KH) ⊕ (Int32 × KH)) → Nat → List (Nat × Value) → List Value → KH → Prop := Sum.elim (fun (s : Int32 × Int32 × KH) pc ls st hh => pc = 133 ∧ ls = [(0, .ref v0), (3, .int v3), (4, .int s.1), (5, .int v5), (6, .int s.2.1)] ∧ st = [] ∧ hh = s.2.2) (E_X2_yieldBits_l133 v0 v3 v5)
def f_X2_yieldBits_l133 (v0 : Nat) (v3 : Int32) (v5 : Int32) (s : Int32 × Int32 × KH) : Option ((Int32 × Int32 × KH) ⊕ (Int32 × KH)) :=
  if (2 : Int32) ≤ s.2.1 then
  some (.inr (s.1, s.2.2))
  else
  if kkind v0 = 2 then if (kR s.2.2 v0 10) < 999999 then if kkind (kR s.2.2 v0 10) = 20 then if klen (kR s.2.2 v0 10) ≤ 12 then none else kl (ksI s.2.2 (kR s.2.2 v0 10) 12 s.2.1) fun h6 =>
  if (kR h6 v0 9) < 999999 then if (kR h6 v0 10) < 999999 then if kkind (kR h6 v0 9) = 1 then kb (f_X1_resultFor h6 (kR h6 v0 9) (kR h6 v0 10)) fun r12 =>
  kl (s.1 ||| (r12.1 <<< (((v5 * (2 : Int32)) + s.2.1) &&& 31))) fun x16 =>
  kl (s.2.1 + (1 : Int32)) fun x18 =>
  some (.inl (x16, x18, r12.2)) else none else none else none else none else none else none
set_option maxHeartbeats 4000000 in
set_option maxRecDepth 100000 in
theorem s_X2_yieldBits_l133 {Z : Nat → (Nat → Nat) → State → Prop} (v0 : Nat) (v3 : Int32) (v5 : Int32) (s : Int32 × Int32 × KH) (t : (Int32 × Int32 × KH) ⊕ (Int32 × KH)) (hn : (s.2.2).1 = 243) (H : f_X2_yieldBits_l133 v0 v3 v5 s = some t) : KX Z RX2 cX2_yieldBits 7 false 5 (B_X2_yieldBits_l133 v0 v3 v5 t) 133 [(0, .ref v0), (3, .int v3), (4, .int s.1), (5, .int v5), (6, .int s.2.1)] [] s.2.2 := by
  unfold f_X2_yieldBits_l133 at H
  refine x_iload (q := 135) dX2_yieldBits_133 rfl rfl ?_
  refine x_iconst (q := 136) (v := (2 : Int32)) dX2_yieldBits_135 rfl (by decide) ?_
  replace H := kite H; rcases H with ⟨g1, H⟩ | ⟨g1, H⟩
  · refine x_icmp_ge_t dX2_yieldBits_136 (q := 178) (by decide) g1 ?_
    cases H
    refine x_sub (ls2 := [(0, .ref v0), (3, .int v3), (4, .int s.1), (5, .int v5)]) [0, 1, 2, 3] rfl ?_
    exact x_end (x_cfg rfl)
  · refine x_icmp_ge_f (q := 139) dX2_yieldBits_136 (t := 178) (by decide) rfl g1 ?_
    refine x_aload_n (q := 140) dX2_yieldBits_139 rfl rfl ?_
    replace H := kif H; obtain ⟨g2, H⟩ := H
    replace H := kif H; obtain ⟨g3, H⟩ := H
    refine x_getR (q := 143) dX2_yieldBits_140 rfl kl_RX2_49 rfl (k243 g2 (by decide) hn) g3 ?_
    refine x_bipush (q := 145) (v := (12 : Int32)) dX2_yieldBits_143 rfl (by decide) ?_
    refine x_iload (q := 147) dX2_yieldBits_145 rfl rfl ?_
    replace H := kif H; obtain ⟨g4, H⟩ := H
    replace H := kifn H; obtain ⟨g5, H⟩ := H
    replace H := kle H; obtain ⟨h6, q7, H⟩ := H
    refine x_iast (q := 148) dX2_yieldBits_147 rfl (k243 g4 (by decide) hn) (fun z => z.elim (by decide) g5) ?_
    refine x_nmH q7 ?_
    have n8 : h6.1 = 243 := by rw [q7]; exact hn
    refine x_iload (q := 150) dX2_yieldBits_148 rfl rfl ?_
    refine x_aload_n (q := 151) dX2_yieldBits_150 rfl rfl ?_
    replace H := kif H; obtain ⟨g9, H⟩ := H
    refine x_getR (q := 154) dX2_yieldBits_151 rfl kl_RX2_45 rfl (k243 g2 (by decide) n8) g9 ?_
    refine x_aload_n (q := 155) dX2_yieldBits_154 rfl rfl ?_
    replace H := kif H; obtain ⟨g10, H⟩ := H
    refine x_getR (q := 158) dX2_yieldBits_155 rfl kl_RX2_49 rfl (k243 g2 (by decide) n8) g10 ?_
    replace H := kif H; obtain ⟨g11, H⟩ := H
    replace H := kbe H; obtain ⟨r12, c13, H⟩ := H
    have m14 := s_X1_resultFor (Z := Z) h6 (kR h6 v0 9) (kR h6 v0 10) n8 c13
    refine x_callV (q := 161) (as := [.ref (kR h6 v0 10)]) (rest := [.int s.1]) dX2_yieldBits_158 rfl kc_RX2_70 kh_X1_resultFor (by decide) (Nat.le_of_ble_eq_true rfl) m14 (ci := 1) (by exact ⟨rfl, by decide⟩) (k243 g11 (by decide) n8) ?_
    have n15 : (r12.2).1 = 243 := m14.1.full n8
    refine x_iload (q := 163) dX2_yieldBits_161 rfl rfl ?_
    refine x_iconst (q := 164) (v := (2 : Int32)) dX2_yieldBits_163 rfl (by decide) ?_
    refine x_imul (q := 165) dX2_yieldBits_164 rfl ?_
    refine x_iload (q := 167) dX2_yieldBits_165 rfl rfl ?_
    refine x_iadd (q := 168) dX2_yieldBits_167 rfl ?_
    refine x_ishl (q := 169) dX2_yieldBits_168 rfl ?_
    refine x_ior (q := 170) dX2_yieldBits_169 rfl ?_
    replace H := kle H; obtain ⟨x16, q17, H⟩ := H
    refine x_nmI q17 ?_
    refine x_istore (q := 172) (i := 4) (ls2 := [(4, .int x16), (0, .ref v0), (3, .int v3), (5, .int v5), (6, .int s.2.1)]) dX2_yieldBits_170 rfl (by decide) rfl ?_
    replace H := kle H; obtain ⟨x18, q19, H⟩ := H
    refine x_iinc (q := 175) (i := 6) (ls2 := [(6, .int x18), (4, .int x16), (0, .ref v0), (3, .int v3), (5, .int v5)]) dX2_yieldBits_172 rfl rfl (by decide) (by rw [q19]; rfl) ?_
    refine x_goto dX2_yieldBits_175 (q := 133) (by decide) ?_
    cases H
    refine x_sub (ls2 := [(0, .ref v0), (3, .int v3), (4, .int x16), (5, .int v5), (6, .int x18)]) [2, 3, 1, 4, 0] rfl ?_
    exact x_end (x_cfg rfl)
theorem sl_X2_yieldBits_l133 {Z : Nat → (Nat → Nat) → State → Prop} (v0 : Nat) (v3 : Int32) (v5 : Int32) (n : Nat) (s : Int32 × Int32 × KH) (r : Int32 × KH) (hn : (s.2.2).1 = 243) (H : kloop (f_X2_yieldBits_l133 v0 v3 v5) n s = some r) : KX Z RX2 cX2_yieldBits 7 false 5 (E_X2_yieldBits_l133 v0 v3 v5 r) 133 [(0, .ref v0), (3, .int v3), (4, .int s.1), (5, .int v5), (6, .int s.2.1)] [] s.2.2 :=
  k_loop (ls := (fun (s : Int32 × Int32 × KH) => ([(0, .ref v0), (3, .int v3), (4, .int s.1), (5, .int v5), (6, .int s.2.1)] : List (Nat × Value)))) (hp := (fun (s : Int32 × Int32 × KH) => (s.2.2 : KH))) (G := E_X2_yieldBits_l133 v0 v3 v5) (fun s t hn H => s_X2_yieldBits_l133 v0 v3 v5 s t hn H) n s r hn H
def f_X2_yieldBits_l91 (v0 : Nat) (v3 : Int32) (s : Int32 × Int32 × KH) : Option ((Int32 × Int32 × KH) ⊕ (Int32 × KH)) :=
  if kkind v0 = 2 then if (kI s.2.2 v0 3) ≤ s.2.1 then
  some (.inr (s.1, s.2.2))
  else
  if (kR s.2.2 v0 10) < 999999 then if (kR s.2.2 v0 0) < 999999 then if kkind (kR s.2.2 v0 0) = 24 then if (s.2.1 < 0 ∨ klen (kR s.2.2 v0 0) ≤ (s.2.1).toNatClampNeg) then none else if (kR s.2.2 (kR s.2.2 v0 0) ((s.2.1).toNatClampNeg)) < 999999 then if kkind (kR s.2.2 (kR s.2.2 v0 0) ((s.2.1).toNatClampNeg)) = 20 then if klen (kR s.2.2 (kR s.2.2 v0 0) ((s.2.1).toNatClampNeg)) ≤ 1 then none else if kkind (kR s.2.2 v0 10) = 20 then if klen (kR s.2.2 v0 10) ≤ 1 then none else kl (ksI s.2.2 (kR s.2.2 v0 10) 1 (kI s.2.2 (kR s.2.2 (kR s.2.2 v0 0) ((s.2.1).toNatClampNeg)) 1)) fun h12 =>
  if (kR h12 v0 10) < 999999 then if (kR h12 v0 0) < 999999 then if kkind (kR h12 v0 0) = 24 then if (s.2.1 < 0 ∨ klen (kR h12 v0 0) ≤ (s.2.1).toNatClampNeg) then none else if (kR h12 (kR h12 v0 0) ((s.2.1).toNatClampNeg)) < 999999 then if kkind (kR h12 (kR h12 v0 0) ((s.2.1).toNatClampNeg)) = 20 then if klen (kR h12 (kR h12 v0 0) ((s.2.1).toNatClampNeg)) ≤ 2 then none else if kkind (kR h12 v0 10) = 20 then if klen (kR h12 v0 10) ≤ 2 then none else kl (ksI h12 (kR h12 v0 10) 2 (kI h12 (kR h12 (kR h12 v0 0) ((s.2.1).toNatClampNeg)) 2)) fun h24 =>
  kb (kloop (f_X2_yieldBits_l133 v0 v3 s.2.1) KF (s.1, (0 : Int32), h24)) fun e27 =>
  kl (s.2.1 + (1 : Int32)) fun x30 =>
  some (.inl (e27.1, x30, e27.2)) else none else none else none else none else none else none else none else none else none else none else none else none else none
set_option maxHeartbeats 4000000 in
set_option maxRecDepth 100000 in
theorem s_X2_yieldBits_l91 {Z : Nat → (Nat → Nat) → State → Prop} (v0 : Nat) (v3 : Int32) (s : Int32 × Int32 × KH) (t : (Int32 × Int32 × KH) ⊕ (Int32 × KH)) (hn : (s.2.2).1 = 243) (H : f_X2_yieldBits_l91 v0 v3 s = some t) : KX Z RX2 cX2_yieldBits 7 false 5 (B_X2_yieldBits_l91 v0 v3 t) 91 [(0, .ref v0), (3, .int v3), (4, .int s.1), (5, .int s.2.1)] [] s.2.2 := by
  unfold f_X2_yieldBits_l91 at H
  refine x_iload (q := 93) dX2_yieldBits_91 rfl rfl ?_
  refine x_aload_n (q := 94) dX2_yieldBits_93 rfl rfl ?_
  replace H := kif H; obtain ⟨g1, H⟩ := H
  refine x_getI (q := 97) dX2_yieldBits_94 rfl kl_RX2_22 (Or.inl rfl) (k243 g1 (by decide) hn) ?_
  replace H := kite H; rcases H with ⟨g2, H⟩ | ⟨g2, H⟩
  · refine x_icmp_ge_t dX2_yieldBits_97 (q := 184) (by decide) g2 ?_
    cases H
    refine x_sub (ls2 := [(0, .ref v0), (3, .int v3), (4, .int s.1)]) [0, 1, 2] rfl ?_
    exact x_end (x_cfg rfl)
  · refine x_icmp_ge_f (q := 100) dX2_yieldBits_97 (t := 184) (by decide) rfl g2 ?_
    refine x_aload_n (q := 101) dX2_yieldBits_100 rfl rfl ?_
    replace H := kif H; obtain ⟨g3, H⟩ := H
    refine x_getR (q := 104) dX2_yieldBits_101 rfl kl_RX2_49 rfl (k243 g1 (by decide) hn) g3 ?_
    refine x_iconst (q := 105) (v := (1 : Int32)) dX2_yieldBits_104 rfl (by decide) ?_
    refine x_aload_n (q := 106) dX2_yieldBits_105 rfl rfl ?_
    replace H := kif H; obtain ⟨g4, H⟩ := H
    refine x_getR (q := 109) dX2_yieldBits_106 rfl kl_RX2_11 rfl (k243 g1 (by decide) hn) g4 ?_
    refine x_iload (q := 111) dX2_yieldBits_109 rfl rfl ?_
    replace H := kif H; obtain ⟨g5, H⟩ := H
    replace H := kifn H; obtain ⟨g6, H⟩ := H
    replace H := kif H; obtain ⟨g7, H⟩ := H
    refine x_aald (q := 112) dX2_yieldBits_111 rfl (Or.inl rfl) (k243 g5 (by decide) hn) g6 g7 ?_
    refine x_iconst (q := 113) (v := (1 : Int32)) dX2_yieldBits_112 rfl (by decide) ?_
    replace H := kif H; obtain ⟨g8, H⟩ := H
    replace H := kifn H; obtain ⟨g9, H⟩ := H
    refine x_iald (q := 114) dX2_yieldBits_113 rfl (k243 g8 (by decide) hn) (fun z => z.elim (by decide) g9) ?_
    replace H := kif H; obtain ⟨g10, H⟩ := H
    replace H := kifn H; obtain ⟨g11, H⟩ := H
    replace H := kle H; obtain ⟨h12, q13, H⟩ := H
    refine x_iast (q := 115) dX2_yieldBits_114 rfl (k243 g10 (by decide) hn) (fun z => z.elim (by decide) g11) ?_
    refine x_nmH q13 ?_
    have n14 : h12.1 = 243 := by rw [q13]; exact hn
    refine x_aload_n (q := 116) dX2_yieldBits_115 rfl rfl ?_
    replace H := kif H; obtain ⟨g15, H⟩ := H
    refine x_getR (q := 119) dX2_yieldBits_116 rfl kl_RX2_49 rfl (k243 g1 (by decide) n14) g15 ?_
    refine x_iconst (q := 120) (v := (2 : Int32)) dX2_yieldBits_119 rfl (by decide) ?_
    refine x_aload_n (q := 121) dX2_yieldBits_120 rfl rfl ?_
    replace H := kif H; obtain ⟨g16, H⟩ := H
    refine x_getR (q := 124) dX2_yieldBits_121 rfl kl_RX2_11 rfl (k243 g1 (by decide) n14) g16 ?_
    refine x_iload (q := 126) dX2_yieldBits_124 rfl rfl ?_
    replace H := kif H; obtain ⟨g17, H⟩ := H
    replace H := kifn H; obtain ⟨g18, H⟩ := H
    replace H := kif H; obtain ⟨g19, H⟩ := H
    refine x_aald (q := 127) dX2_yieldBits_126 rfl (Or.inl rfl) (k243 g17 (by decide) n14) g18 g19 ?_
    refine x_iconst (q := 128) (v := (2 : Int32)) dX2_yieldBits_127 rfl (by decide) ?_
    replace H := kif H; obtain ⟨g20, H⟩ := H
    replace H := kifn H; obtain ⟨g21, H⟩ := H
    refine x_iald (q := 129) dX2_yieldBits_128 rfl (k243 g20 (by decide) n14) (fun z => z.elim (by decide) g21) ?_
    replace H := kif H; obtain ⟨g22, H⟩ := H
    replace H := kifn H; obtain ⟨g23, H⟩ := H
    replace H := kle H; obtain ⟨h24, q25, H⟩ := H
    refine x_iast (q := 130) dX2_yieldBits_129 rfl (k243 g22 (by decide) n14) (fun z => z.elim (by decide) g23) ?_
    refine x_nmH q25 ?_
    have n26 : h24.1 = 243 := by rw [q25]; exact n14
    refine x_iconst (q := 131) (v := (0 : Int32)) dX2_yieldBits_130 rfl (by decide) ?_
    refine x_istore (q := 133) (i := 6) (ls2 := [(6, .int (0 : Int32)), (0, .ref v0), (3, .int v3), (4, .int s.1), (5, .int s.2.1)]) dX2_yieldBits_131 rfl (by decide) rfl ?_
    refine x_sub (ls2 := [(0, .ref v0), (3, .int v3), (4, .int s.1), (5, .int s.2.1), (6, .int (0 : Int32))]) [1, 2, 3, 4, 0] rfl ?_
    replace H := kbe H; obtain ⟨e27, c28, H⟩ := H
    refine x_app (sl_X2_yieldBits_l133 v0 v3 s.2.1 KF (s.1, (0 : Int32), h24) e27 n26 c28) fun pc2 ls2 st2 h2 hg m29 => ?_
    obtain ⟨rfl, rfl, rfl, rfl⟩ := hg
    replace H := kle H; obtain ⟨x30, q31, H⟩ := H
    refine x_iinc (q := 181) (i := 5) (ls2 := [(5, .int x30), (0, .ref v0), (3, .int v3), (4, .int e27.1)]) dX2_yieldBits_178 rfl rfl (by decide) (by rw [q31]; rfl) ?_
    refine x_goto dX2_yieldBits_181 (q := 91) (by decide) ?_
    cases H
    refine x_sub (ls2 := [(0, .ref v0), (3, .int v3), (4, .int e27.1), (5, .int x30)]) [1, 2, 3, 0] rfl ?_
    exact x_end (x_cfg rfl)
theorem sl_X2_yieldBits_l91 {Z : Nat → (Nat → Nat) → State → Prop} (v0 : Nat) (v3 : Int32) (n : Nat) (s : Int32 × Int32 × KH) (r : Int32 × KH) (hn : (s.2.2).1 = 243) (H : kloop (f_X2_yieldBits_l91 v0 v3) n s = some r) : KX Z RX2 cX2_yieldBits 7 false 5 (E_X2_yieldBits_l91 v0 v3 r) 91 [(0, .ref v0), (3, .int v3), (4, .int s.1), (5, .int s.2.1)] [] s.2.2 :=
  k_loop (ls := (fun (s : Int32 × Int32 × KH) => ([(0, .ref v0), (3, .int v3), (4, .int s.1), (5, .int s.2.1)] : List (Nat × Value)))) (hp := (fun (s : Int32 × Int32 × KH) => (s.2.2 : KH))) (G := E_X2_yieldBits_l91 v0 v3) (fun s t hn H => s_X2_yieldBits_l91 v0 v3 s t hn H) n s r hn H
def f_X2_yieldBits (h : KH) (v0 : Nat) (v1 : Int32) (v2 : Int32) : Option (Int32 × KH) :=
  if kkind v0 = 2 then if (kI h v0 8) = 0 then
  some ((2730 : Int32), h)
  else
  if v1 < 0 then
  some ((0 : Int32), h)
  else
  if (kI h v0 4) ≤ v1 then
  some ((0 : Int32), h)
  else
  if v2 < 0 then
  some ((0 : Int32), h)
  else
  if v2 ≤ (99 : Int32) then
  kl ((v1 * (100 : Int32)) + v2) fun x7 =>
  if (kR h v0 11) < 999999 then if kkind (kR h v0 11) = 20 then if (x7 < 0 ∨ klen (kR h v0 11) ≤ (x7).toNatClampNeg) then none else if (kI h (kR h v0 11) ((x7).toNatClampNeg)) = 0 then
  if (kR h v0 10) < 999999 then if (kR h v0 1) < 999999 then if kkind (kR h v0 1) = 24 then if (v1 < 0 ∨ klen (kR h v0 1) ≤ (v1).toNatClampNeg) then none else if (kR h (kR h v0 1) ((v1).toNatClampNeg)) < 999999 then if kkind (kR h (kR h v0 1) ((v1).toNatClampNeg)) = 20 then if klen (kR h (kR h v0 1) ((v1).toNatClampNeg)) ≤ 1 then none else if kkind (kR h v0 10) = 20 then if klen (kR h v0 10) ≤ 6 then none else kl (ksI h (kR h v0 10) 6 (kI h (kR h (kR h v0 1) ((v1).toNatClampNeg)) 1)) fun h22 =>
  if (kR h22 v0 10) < 999999 then if kkind (kR h22 v0 10) = 20 then if klen (kR h22 v0 10) ≤ 11 then none else kl (ksI h22 (kR h22 v0 10) 11 v2) fun h28 =>
  kb (kloop (f_X2_yieldBits_l91 v0 x7) KF ((0 : Int32), (0 : Int32), h28)) fun e31 =>
  if (kR e31.2 v0 11) < 999999 then if kkind (kR e31.2 v0 11) = 20 then if (x7 < 0 ∨ klen (kR e31.2 v0 11) ≤ (x7).toNatClampNeg) then none else kl (ksI e31.2 (kR e31.2 v0 11) ((x7).toNatClampNeg) ((4096 : Int32) ||| e31.1)) fun h37 =>
  some (e31.1, h37) else none else none else none else none else none else none else none else none else none else none
  else
  some (((kI h (kR h v0 11) ((x7).toNatClampNeg)) &&& (4095 : Int32)), h) else none else none
  else
  some ((0 : Int32), h) else none
set_option maxHeartbeats 4000000 in
set_option maxRecDepth 100000 in
theorem s0_X2_yieldBits {Z : Nat → (Nat → Nat) → State → Prop} (h : KH) (v0 : Nat) (v1 : Int32) (v2 : Int32) {t : Int32 × KH} (hn : h.1 = 243) (H : f_X2_yieldBits h v0 v1 v2 = some t) : KX Z RX2 cX2_yieldBits 7 false 5 (KRi cX2_yieldBits t.1 t.2) 0 [(0, .ref v0), (1, .int v1), (2, .int v2)] [] h := by
  unfold f_X2_yieldBits at H
  refine x_aload_n (q := 1) dX2_yieldBits_0 rfl rfl ?_
  replace H := kif H; obtain ⟨g1, H⟩ := H
  refine x_getI (q := 4) dX2_yieldBits_1 rfl kl_RX2_38 (Or.inr rfl) (k243 g1 (by decide) hn) ?_
  replace H := kite H; rcases H with ⟨g2, H⟩ | ⟨g2, H⟩
  · refine x_if_ne_f (q := 7) dX2_yieldBits_4 (t := 11) (by decide) rfl g2 ?_
    refine x_sipush (q := 10) (v := (2730 : Int32)) dX2_yieldBits_7 rfl (by decide) ?_
    cases H
    exact x_end ⟨dX2_yieldBits_10, rfl, rfl⟩
  · refine x_if_ne_t dX2_yieldBits_4 (q := 11) (by decide) g2 ?_
    refine x_iload_n (q := 12) dX2_yieldBits_11 rfl rfl ?_
    replace H := kite H; rcases H with ⟨g3, H⟩ | ⟨g3, H⟩
    · refine x_if_lt_t dX2_yieldBits_12 (q := 33) (by decide) g3 ?_
      refine x_iconst (q := 34) (v := (0 : Int32)) dX2_yieldBits_33 rfl (by decide) ?_
      cases H
      exact x_end ⟨dX2_yieldBits_34, rfl, rfl⟩
    · refine x_if_lt_f (q := 15) dX2_yieldBits_12 (t := 33) (by decide) rfl g3 ?_
      refine x_iload_n (q := 16) dX2_yieldBits_15 rfl rfl ?_
      refine x_aload_n (q := 17) dX2_yieldBits_16 rfl rfl ?_
      refine x_getI (q := 20) dX2_yieldBits_17 rfl kl_RX2_26 (Or.inl rfl) (k243 g1 (by decide) hn) ?_
      replace H := kite H; rcases H with ⟨g4, H⟩ | ⟨g4, H⟩
      · refine x_icmp_ge_t dX2_yieldBits_20 (q := 33) (by decide) g4 ?_
        refine x_iconst (q := 34) (v := (0 : Int32)) dX2_yieldBits_33 rfl (by decide) ?_
        cases H
        exact x_end ⟨dX2_yieldBits_34, rfl, rfl⟩
      · refine x_icmp_ge_f (q := 23) dX2_yieldBits_20 (t := 33) (by decide) rfl g4 ?_
        refine x_iload_n (q := 24) dX2_yieldBits_23 rfl rfl ?_
        replace H := kite H; rcases H with ⟨g5, H⟩ | ⟨g5, H⟩
        · refine x_if_lt_t dX2_yieldBits_24 (q := 33) (by decide) g5 ?_
          refine x_iconst (q := 34) (v := (0 : Int32)) dX2_yieldBits_33 rfl (by decide) ?_
          cases H
          exact x_end ⟨dX2_yieldBits_34, rfl, rfl⟩
        · refine x_if_lt_f (q := 27) dX2_yieldBits_24 (t := 33) (by decide) rfl g5 ?_
          refine x_iload_n (q := 28) dX2_yieldBits_27 rfl rfl ?_
          refine x_bipush (q := 30) (v := (99 : Int32)) dX2_yieldBits_28 rfl (by decide) ?_
          replace H := kite H; rcases H with ⟨g6, H⟩ | ⟨g6, H⟩
          · refine x_icmp_le_t dX2_yieldBits_30 (q := 35) (by decide) g6 ?_
            refine x_iload_n (q := 36) dX2_yieldBits_35 rfl rfl ?_
            refine x_bipush (q := 38) (v := (100 : Int32)) dX2_yieldBits_36 rfl (by decide) ?_
            refine x_imul (q := 39) dX2_yieldBits_38 rfl ?_
            refine x_iload_n (q := 40) dX2_yieldBits_39 rfl rfl ?_
            refine x_iadd (q := 41) dX2_yieldBits_40 rfl ?_
            replace H := kle H; obtain ⟨x7, q8, H⟩ := H
            refine x_nmI q8 ?_
            refine x_istore_n (q := 42) (i := 3) (ls2 := [(3, .int x7), (0, .ref v0), (1, .int v1), (2, .int v2)]) dX2_yieldBits_41 rfl rfl (by decide) rfl ?_
            refine x_aload_n (q := 43) dX2_yieldBits_42 rfl rfl ?_
            replace H := kif H; obtain ⟨g9, H⟩ := H
            refine x_getR (q := 46) dX2_yieldBits_43 rfl kl_RX2_53 rfl (k243 g1 (by decide) hn) g9 ?_
            refine x_iload_n (q := 47) dX2_yieldBits_46 rfl rfl ?_
            replace H := kif H; obtain ⟨g10, H⟩ := H
            replace H := kifn H; obtain ⟨g11, H⟩ := H
            refine x_iald (q := 48) dX2_yieldBits_47 rfl (k243 g10 (by decide) hn) g11 ?_
            replace H := kite H; rcases H with ⟨g12, H⟩ | ⟨g12, H⟩
            · refine x_if_eq_t dX2_yieldBits_48 (q := 62) (by decide) g12 ?_
              refine x_iconst (q := 63) (v := (0 : Int32)) dX2_yieldBits_62 rfl (by decide) ?_
              refine x_istore (q := 65) (i := 4) (ls2 := [(4, .int (0 : Int32)), (3, .int x7), (0, .ref v0), (1, .int v1), (2, .int v2)]) dX2_yieldBits_63 rfl (by decide) rfl ?_
              refine x_aload_n (q := 66) dX2_yieldBits_65 rfl rfl ?_
              replace H := kif H; obtain ⟨g13, H⟩ := H
              refine x_getR (q := 69) dX2_yieldBits_66 rfl kl_RX2_49 rfl (k243 g1 (by decide) hn) g13 ?_
              refine x_bipush (q := 71) (v := (6 : Int32)) dX2_yieldBits_69 rfl (by decide) ?_
              refine x_aload_n (q := 72) dX2_yieldBits_71 rfl rfl ?_
              replace H := kif H; obtain ⟨g14, H⟩ := H
              refine x_getR (q := 75) dX2_yieldBits_72 rfl kl_RX2_16 rfl (k243 g1 (by decide) hn) g14 ?_
              refine x_iload_n (q := 76) dX2_yieldBits_75 rfl rfl ?_
              replace H := kif H; obtain ⟨g15, H⟩ := H
              replace H := kifn H; obtain ⟨g16, H⟩ := H
              replace H := kif H; obtain ⟨g17, H⟩ := H
              refine x_aald (q := 77) dX2_yieldBits_76 rfl (Or.inl rfl) (k243 g15 (by decide) hn) g16 g17 ?_
              refine x_iconst (q := 78) (v := (1 : Int32)) dX2_yieldBits_77 rfl (by decide) ?_
              replace H := kif H; obtain ⟨g18, H⟩ := H
              replace H := kifn H; obtain ⟨g19, H⟩ := H
              refine x_iald (q := 79) dX2_yieldBits_78 rfl (k243 g18 (by decide) hn) (fun z => z.elim (by decide) g19) ?_
              replace H := kif H; obtain ⟨g20, H⟩ := H
              replace H := kifn H; obtain ⟨g21, H⟩ := H
              replace H := kle H; obtain ⟨h22, q23, H⟩ := H
              refine x_iast (q := 80) dX2_yieldBits_79 rfl (k243 g20 (by decide) hn) (fun z => z.elim (by decide) g21) ?_
              refine x_nmH q23 ?_
              have n24 : h22.1 = 243 := by rw [q23]; exact hn
              refine x_aload_n (q := 81) dX2_yieldBits_80 rfl rfl ?_
              replace H := kif H; obtain ⟨g25, H⟩ := H
              refine x_getR (q := 84) dX2_yieldBits_81 rfl kl_RX2_49 rfl (k243 g1 (by decide) n24) g25 ?_
              refine x_bipush (q := 86) (v := (11 : Int32)) dX2_yieldBits_84 rfl (by decide) ?_
              refine x_iload_n (q := 87) dX2_yieldBits_86 rfl rfl ?_
              replace H := kif H; obtain ⟨g26, H⟩ := H
              replace H := kifn H; obtain ⟨g27, H⟩ := H
              replace H := kle H; obtain ⟨h28, q29, H⟩ := H
              refine x_iast (q := 88) dX2_yieldBits_87 rfl (k243 g26 (by decide) n24) (fun z => z.elim (by decide) g27) ?_
              refine x_nmH q29 ?_
              have n30 : h28.1 = 243 := by rw [q29]; exact n24
              refine x_iconst (q := 89) (v := (0 : Int32)) dX2_yieldBits_88 rfl (by decide) ?_
              refine x_istore (q := 91) (i := 5) (ls2 := [(5, .int (0 : Int32)), (4, .int (0 : Int32)), (3, .int x7), (0, .ref v0), (1, .int v1), (2, .int v2)]) dX2_yieldBits_89 rfl (by decide) rfl ?_
              refine x_sub (ls2 := [(0, .ref v0), (3, .int x7), (4, .int (0 : Int32)), (5, .int (0 : Int32))]) [3, 2, 1, 0] rfl ?_
              replace H := kbe H; obtain ⟨e31, c32, H⟩ := H
              refine x_app (sl_X2_yieldBits_l91 v0 x7 KF ((0 : Int32), (0 : Int32), h28) e31 n30 c32) fun pc2 ls2 st2 h2 hg m33 => ?_
              obtain ⟨rfl, rfl, rfl, rfl⟩ := hg
              refine x_aload_n (q := 185) dX2_yieldBits_184 rfl rfl ?_
              replace H := kif H; obtain ⟨g34, H⟩ := H
              refine x_getR (q := 188) dX2_yieldBits_185 rfl kl_RX2_53 rfl (k243 g1 (by decide) (m33.full n30)) g34 ?_
              refine x_iload_n (q := 189) dX2_yieldBits_188 rfl rfl ?_
              refine x_sipush (q := 192) (v := (4096 : Int32)) dX2_yieldBits_189 rfl (by decide) ?_
              refine x_iload (q := 194) dX2_yieldBits_192 rfl rfl ?_
              refine x_ior (q := 195) dX2_yieldBits_194 rfl ?_
              replace H := kif H; obtain ⟨g35, H⟩ := H
              replace H := kifn H; obtain ⟨g36, H⟩ := H
              replace H := kle H; obtain ⟨h37, q38, H⟩ := H
              refine x_iast (q := 196) dX2_yieldBits_195 rfl (k243 g35 (by decide) (m33.full n30)) g36 ?_
              refine x_nmH q38 ?_
              have n39 : h37.1 = 243 := by rw [q38]; exact (m33.full n30)
              refine x_iload (q := 198) dX2_yieldBits_196 rfl rfl ?_
              cases H
              exact x_end ⟨dX2_yieldBits_198, rfl, rfl⟩
            · refine x_if_eq_f (q := 51) dX2_yieldBits_48 (t := 62) (by decide) rfl g12 ?_
              refine x_aload_n (q := 52) dX2_yieldBits_51 rfl rfl ?_
              refine x_getR (q := 55) dX2_yieldBits_52 rfl kl_RX2_53 rfl (k243 g1 (by decide) hn) g9 ?_
              refine x_iload_n (q := 56) dX2_yieldBits_55 rfl rfl ?_
              refine x_iald (q := 57) dX2_yieldBits_56 rfl (k243 g10 (by decide) hn) g11 ?_
              refine x_sipush (q := 60) (v := (4095 : Int32)) dX2_yieldBits_57 rfl (by decide) ?_
              refine x_iand (q := 61) dX2_yieldBits_60 rfl ?_
              cases H
              exact x_end ⟨dX2_yieldBits_61, rfl, rfl⟩
          · refine x_icmp_le_f (q := 33) dX2_yieldBits_30 (t := 35) (by decide) rfl g6 ?_
            refine x_iconst (q := 34) (v := (0 : Int32)) dX2_yieldBits_33 rfl (by decide) ?_
            cases H
            exact x_end ⟨dX2_yieldBits_34, rfl, rfl⟩
theorem s_X2_yieldBits {Z : Nat → (Nat → Nat) → State → Prop} (h : KH) (v0 : Nat) (v1 : Int32) (v2 : Int32) {t : Int32 × KH} (hn : h.1 = 243) (H : f_X2_yieldBits h v0 v1 v2 = some t) : KM Z yX2_yieldBits cX2_yieldBits 7 (some .int) 5 [.ref v0, .int v1, .int v2] h (some (.int t.1)) t.2 :=
  kx_i (own := RX2) (ini := false) (by decide +kernel) (by decide +kernel) rfl (Nat.le_of_ble_eq_true rfl) (s0_X2_yieldBits h v0 v1 v2 hn H)
theorem dX7_stop_0 : decode cX7_stop 0 = .ok (.aload_n 0, 1) := by decide +kernel
theorem dX7_stop_1 : decode cX7_stop 1 = .ok (.getfield 19, 3) := by decide +kernel
theorem dX7_stop_4 : decode cX7_stop 4 = .ok (.bipush 6, 2) := by decide +kernel
theorem dX7_stop_6 : decode cX7_stop 6 = .ok (.if_icmp .eq 19, 3) := by decide +kernel
theorem dX7_stop_9 : decode cX7_stop 9 = .ok (.aload_n 0, 1) := by decide +kernel
theorem dX7_stop_10 : decode cX7_stop 10 = .ok (.iload_n 1, 1) := by decide +kernel
theorem dX7_stop_11 : decode cX7_stop 11 = .ok (.putfield 31, 3) := by decide +kernel
theorem dX7_stop_14 : decode cX7_stop 14 = .ok (.aload_n 0, 1) := by decide +kernel
theorem dX7_stop_15 : decode cX7_stop 15 = .ok (.iload_n 2, 1) := by decide +kernel
theorem dX7_stop_16 : decode cX7_stop 16 = .ok (.putfield 34, 3) := by decide +kernel
theorem dX7_stop_19 : decode cX7_stop 19 = .ok (.aload_n 0, 1) := by decide +kernel
theorem dX7_stop_20 : decode cX7_stop 20 = .ok (.bipush 6, 2) := by decide +kernel
theorem dX7_stop_22 : decode cX7_stop 22 = .ok (.putfield 19, 3) := by decide +kernel
theorem dX7_stop_25 : decode cX7_stop 25 = .ok (.return_, 1) := by decide +kernel
theorem kl_RX7_19 : KLk RX7 19 7 3 := ⟨RX7, TX7, 9, rfl, by decide, Or.inl (kwm 279 (by decide +kernel) (by decide +kernel))⟩
theorem kl_RX7_31 : KLk RX7 31 7 7 := ⟨RX7, TX7, 9, rfl, by decide, Or.inl (kwm 287 (by decide +kernel) (by decide +kernel))⟩
theorem kl_RX7_34 : KLk RX7 34 7 8 := ⟨RX7, TX7, 9, rfl, by decide, Or.inl (kwm 289 (by decide +kernel) (by decide +kernel))⟩
def f_X7_stop (h : KH) (v0 : Nat) (v1 : Int32) (v2 : Int32) : Option (KH) :=
  if kkind v0 = 7 then if (kI h v0 3) = (6 : Int32) then
  some h
  else
  kl (ksI h v0 7 v1) fun h3 =>
  kl (ksI h3 v0 8 v2) fun h6 =>
  kl (ksI h6 v0 3 (6 : Int32)) fun h9 =>
  some h9 else none
set_option maxHeartbeats 4000000 in
set_option maxRecDepth 100000 in
theorem s0_X7_stop {Z : Nat → (Nat → Nat) → State → Prop} (h : KH) (v0 : Nat) (v1 : Int32) (v2 : Int32) {t : KH} (hn : h.1 = 243) (H : f_X7_stop h v0 v1 v2 = some t) : KX Z RX7 cX7_stop 3 false 1 (KRv cX7_stop t) 0 [(0, .ref v0), (1, .int v1), (2, .int v2)] [] h := by
  unfold f_X7_stop at H
  refine x_aload_n (q := 1) dX7_stop_0 rfl rfl ?_
  replace H := kif H; obtain ⟨g1, H⟩ := H
  refine x_getI (q := 4) dX7_stop_1 rfl kl_RX7_19 (Or.inl rfl) (k243 g1 (by decide) hn) ?_
  refine x_bipush (q := 6) (v := (6 : Int32)) dX7_stop_4 rfl (by decide) ?_
  replace H := kite H; rcases H with ⟨g2, H⟩ | ⟨g2, H⟩
  · refine x_icmp_eq_t dX7_stop_6 (q := 25) (by decide) g2 ?_
    cases H
    exact x_end ⟨dX7_stop_25, rfl, rfl⟩
  · refine x_icmp_eq_f (q := 9) dX7_stop_6 (t := 25) (by decide) rfl g2 ?_
    refine x_aload_n (q := 10) dX7_stop_9 rfl rfl ?_
    refine x_iload_n (q := 11) dX7_stop_10 rfl rfl ?_
    replace H := kle H; obtain ⟨h3, q4, H⟩ := H
    refine x_putI (q := 14) dX7_stop_11 rfl kl_RX7_31 (Or.inl rfl) rfl (k243 g1 (by decide) hn) ?_
    refine x_nmH q4 ?_
    have n5 : h3.1 = 243 := by rw [q4]; exact hn
    refine x_aload_n (q := 15) dX7_stop_14 rfl rfl ?_
    refine x_iload_n (q := 16) dX7_stop_15 rfl rfl ?_
    replace H := kle H; obtain ⟨h6, q7, H⟩ := H
    refine x_putI (q := 19) dX7_stop_16 rfl kl_RX7_34 (Or.inl rfl) rfl (k243 g1 (by decide) n5) ?_
    refine x_nmH q7 ?_
    have n8 : h6.1 = 243 := by rw [q7]; exact n5
    refine x_aload_n (q := 20) dX7_stop_19 rfl rfl ?_
    refine x_bipush (q := 22) (v := (6 : Int32)) dX7_stop_20 rfl (by decide) ?_
    replace H := kle H; obtain ⟨h9, q10, H⟩ := H
    refine x_putI (q := 25) dX7_stop_22 rfl kl_RX7_19 (Or.inl rfl) rfl (k243 g1 (by decide) n8) ?_
    refine x_nmH q10 ?_
    have n11 : h9.1 = 243 := by rw [q10]; exact n8
    cases H
    exact x_end ⟨dX7_stop_25, rfl, rfl⟩
theorem s_X7_stop {Z : Nat → (Nat → Nat) → State → Prop} (h : KH) (v0 : Nat) (v1 : Int32) (v2 : Int32) {t : KH} (hn : h.1 = 243) (H : f_X7_stop h v0 v1 v2 = some t) : KM Z yX7_stop cX7_stop 3 none 1 [.ref v0, .int v1, .int v2] h none t :=
  kx_v (own := RX7) (ini := false) (by decide +kernel) (by decide +kernel) rfl (Nat.le_of_ble_eq_true rfl) (s0_X7_stop h v0 v1 v2 hn H)
theorem dX9_byteAt_0 : decode cX9_byteAt 0 = .ok (.iload_n 1, 1) := by decide +kernel
theorem dX9_byteAt_1 : decode cX9_byteAt 1 = .ok (.ifCond .lt 25, 3) := by decide +kernel
theorem dX9_byteAt_4 : decode cX9_byteAt 4 = .ok (.iload_n 1, 1) := by decide +kernel
theorem dX9_byteAt_5 : decode cX9_byteAt 5 = .ok (.aload_n 0, 1) := by decide +kernel
theorem dX9_byteAt_6 : decode cX9_byteAt 6 = .ok (.getfield 9, 3) := by decide +kernel
theorem dX9_byteAt_9 : decode cX9_byteAt 9 = .ok (.arraylength, 1) := by decide +kernel
theorem dX9_byteAt_10 : decode cX9_byteAt 10 = .ok (.if_icmp .ge 16, 3) := by decide +kernel
theorem dX9_byteAt_13 : decode cX9_byteAt 13 = .ok (.aload_n 0, 1) := by decide +kernel
theorem dX9_byteAt_14 : decode cX9_byteAt 14 = .ok (.getfield 9, 3) := by decide +kernel
theorem dX9_byteAt_17 : decode cX9_byteAt 17 = .ok (.iload_n 1, 1) := by decide +kernel
theorem dX9_byteAt_18 : decode cX9_byteAt 18 = .ok (.baload, 1) := by decide +kernel
theorem dX9_byteAt_19 : decode cX9_byteAt 19 = .ok (.sipush 255, 3) := by decide +kernel
theorem dX9_byteAt_22 : decode cX9_byteAt 22 = .ok (.iand, 1) := by decide +kernel
theorem dX9_byteAt_23 : decode cX9_byteAt 23 = .ok (.goto 4, 3) := by decide +kernel
theorem dX9_byteAt_26 : decode cX9_byteAt 26 = .ok (.iconst 0, 1) := by decide +kernel
theorem dX9_byteAt_27 : decode cX9_byteAt 27 = .ok (.ireturn, 1) := by decide +kernel
theorem kl_RX9_9 : KLk RX9 9 9 0 := ⟨RX9, TX9, 2, rfl, by decide, Or.inl (kwm 158 (by decide +kernel) (by decide +kernel))⟩
def f_X9_byteAt (h : KH) (v0 : Nat) (v1 : Int32) : Option (Int32) :=
  if v1 < 0 then
  some (0 : Int32)
  else
  if kkind v0 = 9 then if (kR h v0 0) < 999999 then if kkind (kR h v0 0) = 23 then if (Int32.ofNat (klen (kR h v0 0))) ≤ v1 then
  some (0 : Int32)
  else
  if (v1 < 0 ∨ klen (kR h v0 0) ≤ (v1).toNatClampNeg) then none else some ((kI h (kR h v0 0) ((v1).toNatClampNeg)) &&& (255 : Int32)) else none else none else none
set_option maxHeartbeats 4000000 in
set_option maxRecDepth 100000 in
theorem s0_X9_byteAt {Z : Nat → (Nat → Nat) → State → Prop} (h : KH) (v0 : Nat) (v1 : Int32) {t : Int32} (hn : h.1 = 243) (H : f_X9_byteAt h v0 v1 = some t) : KX Z RX9 cX9_byteAt 2 false 1 (KRi cX9_byteAt t h) 0 [(0, .ref v0), (1, .int v1)] [] h := by
  unfold f_X9_byteAt at H
  refine x_iload_n (q := 1) dX9_byteAt_0 rfl rfl ?_
  replace H := kite H; rcases H with ⟨g1, H⟩ | ⟨g1, H⟩
  · refine x_if_lt_t dX9_byteAt_1 (q := 26) (by decide) g1 ?_
    refine x_iconst (q := 27) (v := (0 : Int32)) dX9_byteAt_26 rfl (by decide) ?_
    cases H
    exact x_end ⟨dX9_byteAt_27, rfl, rfl⟩
  · refine x_if_lt_f (q := 4) dX9_byteAt_1 (t := 26) (by decide) rfl g1 ?_
    refine x_iload_n (q := 5) dX9_byteAt_4 rfl rfl ?_
    refine x_aload_n (q := 6) dX9_byteAt_5 rfl rfl ?_
    replace H := kif H; obtain ⟨g2, H⟩ := H
    replace H := kif H; obtain ⟨g3, H⟩ := H
    refine x_getR (q := 9) dX9_byteAt_6 rfl kl_RX9_9 rfl (k243 g2 (by decide) hn) g3 ?_
    replace H := kif H; obtain ⟨g4, H⟩ := H
    refine x_alen (q := 10) dX9_byteAt_9 rfl (by decide) (k243 g4 (by decide) hn) ?_
    replace H := kite H; rcases H with ⟨g5, H⟩ | ⟨g5, H⟩
    · refine x_icmp_ge_t dX9_byteAt_10 (q := 26) (by decide) g5 ?_
      refine x_iconst (q := 27) (v := (0 : Int32)) dX9_byteAt_26 rfl (by decide) ?_
      cases H
      exact x_end ⟨dX9_byteAt_27, rfl, rfl⟩
    · refine x_icmp_ge_f (q := 13) dX9_byteAt_10 (t := 26) (by decide) rfl g5 ?_
      refine x_aload_n (q := 14) dX9_byteAt_13 rfl rfl ?_
      refine x_getR (q := 17) dX9_byteAt_14 rfl kl_RX9_9 rfl (k243 g2 (by decide) hn) g3 ?_
      refine x_iload_n (q := 18) dX9_byteAt_17 rfl rfl ?_
      replace H := kifn H; obtain ⟨g6, H⟩ := H
      refine x_bald (q := 19) dX9_byteAt_18 rfl (k243 g4 (by decide) hn) g6 ?_
      refine x_sipush (q := 22) (v := (255 : Int32)) dX9_byteAt_19 rfl (by decide) ?_
      refine x_iand (q := 23) dX9_byteAt_22 rfl ?_
      refine x_goto dX9_byteAt_23 (q := 27) (by decide) ?_
      cases H
      exact x_end ⟨dX9_byteAt_27, rfl, rfl⟩
theorem s_X9_byteAt {Z : Nat → (Nat → Nat) → State → Prop} (h : KH) (v0 : Nat) (v1 : Int32) {t : Int32} (hn : h.1 = 243) (H : f_X9_byteAt h v0 v1 = some t) : KM Z yX9_byteAt cX9_byteAt 2 (some .int) 1 [.ref v0, .int v1] h (some (.int t)) h :=
  kx_i (own := RX9) (ini := false) (by decide +kernel) (by decide +kernel) rfl (Nat.le_of_ble_eq_true rfl) (s0_X9_byteAt h v0 v1 hn H)
theorem dX7_isBlank_0 : decode cX7_isBlank 0 = .ok (.iload_n 0, 1) := by decide +kernel
theorem dX7_isBlank_1 : decode cX7_isBlank 1 = .ok (.bipush 10, 2) := by decide +kernel
theorem dX7_isBlank_3 : decode cX7_isBlank 3 = .ok (.if_icmp .eq 9, 3) := by decide +kernel
theorem dX7_isBlank_6 : decode cX7_isBlank 6 = .ok (.iload_n 0, 1) := by decide +kernel
theorem dX7_isBlank_7 : decode cX7_isBlank 7 = .ok (.bipush 32, 2) := by decide +kernel
theorem dX7_isBlank_9 : decode cX7_isBlank 9 = .ok (.if_icmp .ne 7, 3) := by decide +kernel
theorem dX7_isBlank_12 : decode cX7_isBlank 12 = .ok (.iconst 1, 1) := by decide +kernel
theorem dX7_isBlank_13 : decode cX7_isBlank 13 = .ok (.goto 4, 3) := by decide +kernel
theorem dX7_isBlank_16 : decode cX7_isBlank 16 = .ok (.iconst 0, 1) := by decide +kernel
theorem dX7_isBlank_17 : decode cX7_isBlank 17 = .ok (.ireturn, 1) := by decide +kernel
def f_X7_isBlank_b12 (h : KH) : Option (Int32) :=
  some (1 : Int32)
set_option maxHeartbeats 4000000 in
set_option maxRecDepth 100000 in
theorem s_X7_isBlank_b12 {Z : Nat → (Nat → Nat) → State → Prop} (h : KH) {t : Int32} (hn : h.1 = 243) (H : f_X7_isBlank_b12 h = some t) : KX Z RX7 cX7_isBlank 1 false 1 (KRz cX7_isBlank t h) 12 [] [] h := by
  unfold f_X7_isBlank_b12 at H
  refine x_iconst (q := 13) (v := (1 : Int32)) dX7_isBlank_12 rfl (by decide) ?_
  refine x_goto dX7_isBlank_13 (q := 17) (by decide) ?_
  cases H
  exact x_end ⟨(Or.inr rfl), dX7_isBlank_17, rfl, rfl⟩
def f_X7_isBlank (h : KH) (v0 : Int32) : Option (Int32) :=
  if v0 = (10 : Int32) then
  f_X7_isBlank_b12 h
  else
  if v0 = (32 : Int32) then
  f_X7_isBlank_b12 h
  else
  some (0 : Int32)
set_option maxHeartbeats 4000000 in
set_option maxRecDepth 100000 in
theorem s0_X7_isBlank {Z : Nat → (Nat → Nat) → State → Prop} (h : KH) (v0 : Int32) {t : Int32} (hn : h.1 = 243) (H : f_X7_isBlank h v0 = some t) : KX Z RX7 cX7_isBlank 1 false 1 (KRz cX7_isBlank t h) 0 [(0, .int v0)] [] h := by
  unfold f_X7_isBlank at H
  refine x_iload_n (q := 1) dX7_isBlank_0 rfl rfl ?_
  refine x_bipush (q := 3) (v := (10 : Int32)) dX7_isBlank_1 rfl (by decide) ?_
  replace H := kite H; rcases H with ⟨g1, H⟩ | ⟨g1, H⟩
  · refine x_icmp_eq_t dX7_isBlank_3 (q := 12) (by decide) g1 ?_
    refine x_sub (ls2 := []) [] rfl ?_
    exact s_X7_isBlank_b12 h hn H
  · refine x_icmp_eq_f (q := 6) dX7_isBlank_3 (t := 12) (by decide) rfl g1 ?_
    refine x_iload_n (q := 7) dX7_isBlank_6 rfl rfl ?_
    refine x_bipush (q := 9) (v := (32 : Int32)) dX7_isBlank_7 rfl (by decide) ?_
    replace H := kite H; rcases H with ⟨g2, H⟩ | ⟨g2, H⟩
    · refine x_icmp_ne_f (q := 12) dX7_isBlank_9 (t := 16) (by decide) rfl g2 ?_
      refine x_sub (ls2 := []) [] rfl ?_
      exact s_X7_isBlank_b12 h hn H
    · refine x_icmp_ne_t dX7_isBlank_9 (q := 16) (by decide) g2 ?_
      refine x_iconst (q := 17) (v := (0 : Int32)) dX7_isBlank_16 rfl (by decide) ?_
      cases H
      exact x_end ⟨(Or.inl rfl), dX7_isBlank_17, rfl, rfl⟩
theorem s_X7_isBlank {Z : Nat → (Nat → Nat) → State → Prop} (h : KH) (v0 : Int32) {t : Int32} (hn : h.1 = 243) (H : f_X7_isBlank h v0 = some t) : KM Z yX7_isBlank cX7_isBlank 1 (some .boolean) 1 [.int v0] h (some (.int t)) h :=
  kx_z (own := RX7) (ini := false) (by decide +kernel) (by decide +kernel) rfl (Nat.le_of_ble_eq_true rfl) (s0_X7_isBlank h v0 hn H)
theorem dX7_isLetter_0 : decode cX7_isLetter 0 = .ok (.iload_n 0, 1) := by decide +kernel
theorem dX7_isLetter_1 : decode cX7_isLetter 1 = .ok (.bipush 97, 2) := by decide +kernel
theorem dX7_isLetter_3 : decode cX7_isLetter 3 = .ok (.if_icmp .lt 13, 3) := by decide +kernel
theorem dX7_isLetter_6 : decode cX7_isLetter 6 = .ok (.iload_n 0, 1) := by decide +kernel
theorem dX7_isLetter_7 : decode cX7_isLetter 7 = .ok (.bipush 122, 2) := by decide +kernel
theorem dX7_isLetter_9 : decode cX7_isLetter 9 = .ok (.if_icmp .gt 7, 3) := by decide +kernel
theorem dX7_isLetter_12 : decode cX7_isLetter 12 = .ok (.iconst 1, 1) := by decide +kernel
theorem dX7_isLetter_13 : decode cX7_isLetter 13 = .ok (.goto 4, 3) := by decide +kernel
theorem dX7_isLetter_16 : decode cX7_isLetter 16 = .ok (.iconst 0, 1) := by decide +kernel
theorem dX7_isLetter_17 : decode cX7_isLetter 17 = .ok (.ireturn, 1) := by decide +kernel
def f_X7_isLetter (h : KH) (v0 : Int32) : Option (Int32) :=
  if v0 < (97 : Int32) then
  some (0 : Int32)
  else
  if (122 : Int32) < v0 then
  some (0 : Int32)
  else
  some (1 : Int32)
set_option maxHeartbeats 4000000 in
set_option maxRecDepth 100000 in
theorem s0_X7_isLetter {Z : Nat → (Nat → Nat) → State → Prop} (h : KH) (v0 : Int32) {t : Int32} (hn : h.1 = 243) (H : f_X7_isLetter h v0 = some t) : KX Z RX7 cX7_isLetter 1 false 1 (KRz cX7_isLetter t h) 0 [(0, .int v0)] [] h := by
  unfold f_X7_isLetter at H
  refine x_iload_n (q := 1) dX7_isLetter_0 rfl rfl ?_
  refine x_bipush (q := 3) (v := (97 : Int32)) dX7_isLetter_1 rfl (by decide) ?_
  replace H := kite H; rcases H with ⟨g1, H⟩ | ⟨g1, H⟩
  · refine x_icmp_lt_t dX7_isLetter_3 (q := 16) (by decide) g1 ?_
    refine x_iconst (q := 17) (v := (0 : Int32)) dX7_isLetter_16 rfl (by decide) ?_
    cases H
    exact x_end ⟨(Or.inl rfl), dX7_isLetter_17, rfl, rfl⟩
  · refine x_icmp_lt_f (q := 6) dX7_isLetter_3 (t := 16) (by decide) rfl g1 ?_
    refine x_iload_n (q := 7) dX7_isLetter_6 rfl rfl ?_
    refine x_bipush (q := 9) (v := (122 : Int32)) dX7_isLetter_7 rfl (by decide) ?_
    replace H := kite H; rcases H with ⟨g2, H⟩ | ⟨g2, H⟩
    · refine x_icmp_gt_t dX7_isLetter_9 (q := 16) (by decide) g2 ?_
      refine x_iconst (q := 17) (v := (0 : Int32)) dX7_isLetter_16 rfl (by decide) ?_
      cases H
      exact x_end ⟨(Or.inl rfl), dX7_isLetter_17, rfl, rfl⟩
    · refine x_icmp_gt_f (q := 12) dX7_isLetter_9 (t := 16) (by decide) rfl g2 ?_
      refine x_iconst (q := 13) (v := (1 : Int32)) dX7_isLetter_12 rfl (by decide) ?_
      refine x_goto dX7_isLetter_13 (q := 17) (by decide) ?_
      cases H
      exact x_end ⟨(Or.inr rfl), dX7_isLetter_17, rfl, rfl⟩
theorem s_X7_isLetter {Z : Nat → (Nat → Nat) → State → Prop} (h : KH) (v0 : Int32) {t : Int32} (hn : h.1 = 243) (H : f_X7_isLetter h v0 = some t) : KM Z yX7_isLetter cX7_isLetter 1 (some .boolean) 1 [.int v0] h (some (.int t)) h :=
  kx_z (own := RX7) (ini := false) (by decide +kernel) (by decide +kernel) rfl (Nat.le_of_ble_eq_true rfl) (s0_X7_isLetter h v0 hn H)
theorem dX7_letterOf_0 : decode cX7_letterOf 0 = .ok (.iload_n 0, 1) := by decide +kernel
theorem dX7_letterOf_1 : decode cX7_letterOf 1 = .ok (.bipush 97, 2) := by decide +kernel
theorem dX7_letterOf_3 : decode cX7_letterOf 3 = .ok (.isub, 1) := by decide +kernel
theorem dX7_letterOf_4 : decode cX7_letterOf 4 = .ok (.iconst 1, 1) := by decide +kernel
theorem dX7_letterOf_5 : decode cX7_letterOf 5 = .ok (.iadd, 1) := by decide +kernel
theorem dX7_letterOf_6 : decode cX7_letterOf 6 = .ok (.ireturn, 1) := by decide +kernel
def f_X7_letterOf (h : KH) (v0 : Int32) : Option (Int32) :=
  some ((v0 - (97 : Int32)) + (1 : Int32))
set_option maxHeartbeats 4000000 in
set_option maxRecDepth 100000 in
theorem s0_X7_letterOf {Z : Nat → (Nat → Nat) → State → Prop} (h : KH) (v0 : Int32) {t : Int32} (hn : h.1 = 243) (H : f_X7_letterOf h v0 = some t) : KX Z RX7 cX7_letterOf 1 false 1 (KRi cX7_letterOf t h) 0 [(0, .int v0)] [] h := by
  unfold f_X7_letterOf at H
  refine x_iload_n (q := 1) dX7_letterOf_0 rfl rfl ?_
  refine x_bipush (q := 3) (v := (97 : Int32)) dX7_letterOf_1 rfl (by decide) ?_
  refine x_isub (q := 4) dX7_letterOf_3 rfl ?_
  refine x_iconst (q := 5) (v := (1 : Int32)) dX7_letterOf_4 rfl (by decide) ?_
  refine x_iadd (q := 6) dX7_letterOf_5 rfl ?_
  cases H
  exact x_end ⟨dX7_letterOf_6, rfl, rfl⟩
theorem s_X7_letterOf {Z : Nat → (Nat → Nat) → State → Prop} (h : KH) (v0 : Int32) {t : Int32} (hn : h.1 = 243) (H : f_X7_letterOf h v0 = some t) : KM Z yX7_letterOf cX7_letterOf 1 (some .int) 1 [.int v0] h (some (.int t)) h :=
  kx_i (own := RX7) (ini := false) (by decide +kernel) (by decide +kernel) rfl (Nat.le_of_ble_eq_true rfl) (s0_X7_letterOf h v0 hn H)
theorem dX7_filledUp_0 : decode cX7_filledUp 0 = .ok (.iload_n 0, 1) := by decide +kernel
theorem dX7_filledUp_1 : decode cX7_filledUp 1 = .ok (.istore_n 2, 1) := by decide +kernel
theorem dX7_filledUp_2 : decode cX7_filledUp 2 = .ok (.iload_n 1, 1) := by decide +kernel
theorem dX7_filledUp_3 : decode cX7_filledUp 3 = .ok (.istore_n 3, 1) := by decide +kernel
theorem dX7_filledUp_4 : decode cX7_filledUp 4 = .ok (.iload_n 3, 1) := by decide +kernel
theorem dX7_filledUp_5 : decode cX7_filledUp 5 = .ok (.bipush 6, 2) := by decide +kernel
theorem dX7_filledUp_7 : decode cX7_filledUp 7 = .ok (.if_icmp .ge 14, 3) := by decide +kernel
theorem dX7_filledUp_10 : decode cX7_filledUp 10 = .ok (.iload_n 2, 1) := by decide +kernel
theorem dX7_filledUp_11 : decode cX7_filledUp 11 = .ok (.bipush 27, 2) := by decide +kernel
theorem dX7_filledUp_13 : decode cX7_filledUp 13 = .ok (.imul, 1) := by decide +kernel
theorem dX7_filledUp_14 : decode cX7_filledUp 14 = .ok (.istore_n 2, 1) := by decide +kernel
theorem dX7_filledUp_15 : decode cX7_filledUp 15 = .ok (.iinc 3 1, 3) := by decide +kernel
theorem dX7_filledUp_18 : decode cX7_filledUp 18 = .ok (.goto (-14), 3) := by decide +kernel
theorem dX7_filledUp_21 : decode cX7_filledUp 21 = .ok (.iload_n 2, 1) := by decide +kernel
theorem dX7_filledUp_22 : decode cX7_filledUp 22 = .ok (.ireturn, 1) := by decide +kernel
def E_X7_filledUp_l4 (h : KH) : Int32 → Nat → List (Nat × Value) → List Value → KH → Prop := fun (e : Int32) pc ls st hh => pc = 21 ∧ ls = [(2, .int e)] ∧ st = [] ∧ h = hh
def B_X7_filledUp_l4 (h : KH) : ((Int32 × Int32) ⊕ (Int32)) → Nat → List (Nat × Value) → List Value → KH → Prop := Sum.elim (fun (s : Int32 × Int32) pc ls st hh => pc = 4 ∧ ls = [(2, .int s.1), (3, .int s.2)] ∧ st = [] ∧ hh = h) (E_X7_filledUp_l4 h)
def f_X7_filledUp_l4 (h : KH) (s : Int32 × Int32) : Option ((Int32 × Int32) ⊕ (Int32)) :=
  if (6 : Int32) ≤ s.2 then
  some (.inr s.1)
  else
  kl (s.1 * (27 : Int32)) fun x2 =>
  kl (s.2 + (1 : Int32)) fun x4 =>
  some (.inl (x2, x4))
set_option maxHeartbeats 4000000 in
set_option maxRecDepth 100000 in
theorem s_X7_filledUp_l4 {Z : Nat → (Nat → Nat) → State → Prop} (h : KH) (s : Int32 × Int32) (t : (Int32 × Int32) ⊕ (Int32)) (hn : (h).1 = 243) (H : f_X7_filledUp_l4 h s = some t) : KX Z RX7 cX7_filledUp 4 false 1 (B_X7_filledUp_l4 h t) 4 [(2, .int s.1), (3, .int s.2)] [] h := by
  unfold f_X7_filledUp_l4 at H
  refine x_iload_n (q := 5) dX7_filledUp_4 rfl rfl ?_
  refine x_bipush (q := 7) (v := (6 : Int32)) dX7_filledUp_5 rfl (by decide) ?_
  replace H := kite H; rcases H with ⟨g1, H⟩ | ⟨g1, H⟩
  · refine x_icmp_ge_t dX7_filledUp_7 (q := 21) (by decide) g1 ?_
    cases H
    refine x_sub (ls2 := [(2, .int s.1)]) [0] rfl ?_
    exact x_end (x_cfg rfl)
  · refine x_icmp_ge_f (q := 10) dX7_filledUp_7 (t := 21) (by decide) rfl g1 ?_
    refine x_iload_n (q := 11) dX7_filledUp_10 rfl rfl ?_
    refine x_bipush (q := 13) (v := (27 : Int32)) dX7_filledUp_11 rfl (by decide) ?_
    refine x_imul (q := 14) dX7_filledUp_13 rfl ?_
    replace H := kle H; obtain ⟨x2, q3, H⟩ := H
    refine x_nmI q3 ?_
    refine x_istore_n (q := 15) (i := 2) (ls2 := [(2, .int x2), (3, .int s.2)]) dX7_filledUp_14 rfl rfl (by decide) rfl ?_
    replace H := kle H; obtain ⟨x4, q5, H⟩ := H
    refine x_iinc (q := 18) (i := 3) (ls2 := [(3, .int x4), (2, .int x2)]) dX7_filledUp_15 rfl rfl (by decide) (by rw [q5]; rfl) ?_
    refine x_goto dX7_filledUp_18 (q := 4) (by decide) ?_
    cases H
    refine x_sub (ls2 := [(2, .int x2), (3, .int x4)]) [1, 0] rfl ?_
    exact x_end (x_cfg rfl)
theorem sl_X7_filledUp_l4 {Z : Nat → (Nat → Nat) → State → Prop} (h : KH) (n : Nat) (s : Int32 × Int32) (r : Int32) (hn : (h).1 = 243) (H : kloop (f_X7_filledUp_l4 h) n s = some r) : KX Z RX7 cX7_filledUp 4 false 1 (E_X7_filledUp_l4 h r) 4 [(2, .int s.1), (3, .int s.2)] [] h :=
  k_loop (ls := (fun (s : Int32 × Int32) => ([(2, .int s.1), (3, .int s.2)] : List (Nat × Value)))) (hp := (fun (s : Int32 × Int32) => (h : KH))) (G := E_X7_filledUp_l4 h) (fun s t hn H => s_X7_filledUp_l4 h s t hn H) n s r hn H
def f_X7_filledUp (h : KH) (v0 : Int32) (v1 : Int32) : Option (Int32) :=
  kb (kloop (f_X7_filledUp_l4 h) KF (v0, v1)) fun e1 =>
  some e1
set_option maxHeartbeats 4000000 in
set_option maxRecDepth 100000 in
theorem s0_X7_filledUp {Z : Nat → (Nat → Nat) → State → Prop} (h : KH) (v0 : Int32) (v1 : Int32) {t : Int32} (hn : h.1 = 243) (H : f_X7_filledUp h v0 v1 = some t) : KX Z RX7 cX7_filledUp 4 false 1 (KRi cX7_filledUp t h) 0 [(0, .int v0), (1, .int v1)] [] h := by
  unfold f_X7_filledUp at H
  refine x_iload_n (q := 1) dX7_filledUp_0 rfl rfl ?_
  refine x_istore_n (q := 2) (i := 2) (ls2 := [(2, .int v0), (0, .int v0), (1, .int v1)]) dX7_filledUp_1 rfl rfl (by decide) rfl ?_
  refine x_iload_n (q := 3) dX7_filledUp_2 rfl rfl ?_
  refine x_istore_n (q := 4) (i := 3) (ls2 := [(3, .int v1), (2, .int v0), (0, .int v0), (1, .int v1)]) dX7_filledUp_3 rfl rfl (by decide) rfl ?_
  refine x_sub (ls2 := [(2, .int v0), (3, .int v1)]) [1, 0] rfl ?_
  replace H := kbe H; obtain ⟨e1, c2, H⟩ := H
  refine x_app (sl_X7_filledUp_l4 h KF (v0, v1) e1 hn c2) fun pc2 ls2 st2 h2 hg m3 => ?_
  obtain ⟨rfl, rfl, rfl, rfl⟩ := hg
  refine x_iload_n (q := 22) dX7_filledUp_21 rfl rfl ?_
  cases H
  exact x_end ⟨dX7_filledUp_22, rfl, rfl⟩
theorem s_X7_filledUp {Z : Nat → (Nat → Nat) → State → Prop} (h : KH) (v0 : Int32) (v1 : Int32) {t : Int32} (hn : h.1 = 243) (H : f_X7_filledUp h v0 v1 = some t) : KM Z yX7_filledUp cX7_filledUp 4 (some .int) 1 [.int v0, .int v1] h (some (.int t)) h :=
  kx_i (own := RX7) (ini := false) (by decide +kernel) (by decide +kernel) rfl (Nat.le_of_ble_eq_true rfl) (s0_X7_filledUp h v0 v1 hn H)
theorem dX7_readWord_0 : decode cX7_readWord 0 = .ok (.aload_n 0, 1) := by decide +kernel
theorem dX7_readWord_1 : decode cX7_readWord 1 = .ok (.iconst 2, 1) := by decide +kernel
theorem dX7_readWord_2 : decode cX7_readWord 2 = .ok (.putfield 19, 3) := by decide +kernel
theorem dX7_readWord_5 : decode cX7_readWord 5 = .ok (.aload_n 0, 1) := by decide +kernel
theorem dX7_readWord_6 : decode cX7_readWord 6 = .ok (.getfield 15, 3) := by decide +kernel
theorem dX7_readWord_9 : decode cX7_readWord 9 = .ok (.aload_n 0, 1) := by decide +kernel
theorem dX7_readWord_10 : decode cX7_readWord 10 = .ok (.getfield 37, 3) := by decide +kernel
theorem dX7_readWord_13 : decode cX7_readWord 13 = .ok (.getfield 70, 3) := by decide +kernel
theorem dX7_readWord_16 : decode cX7_readWord 16 = .ok (.if_icmp .ge 78, 3) := by decide +kernel
theorem dX7_readWord_19 : decode cX7_readWord 19 = .ok (.aload_n 0, 1) := by decide +kernel
theorem dX7_readWord_20 : decode cX7_readWord 20 = .ok (.getfield 37, 3) := by decide +kernel
theorem dX7_readWord_23 : decode cX7_readWord 23 = .ok (.aload_n 0, 1) := by decide +kernel
theorem dX7_readWord_24 : decode cX7_readWord 24 = .ok (.getfield 15, 3) := by decide +kernel
theorem dX7_readWord_27 : decode cX7_readWord 27 = .ok (.invokevirtual 74, 3) := by decide +kernel
theorem dX7_readWord_30 : decode cX7_readWord 30 = .ok (.invokestatic 81, 3) := by decide +kernel
theorem dX7_readWord_33 : decode cX7_readWord 33 = .ok (.ifCond .eq 61, 3) := by decide +kernel
theorem dX7_readWord_36 : decode cX7_readWord 36 = .ok (.aload_n 0, 1) := by decide +kernel
theorem dX7_readWord_37 : decode cX7_readWord 37 = .ok (.getfield 25, 3) := by decide +kernel
theorem dX7_readWord_40 : decode cX7_readWord 40 = .ok (.bipush 6, 2) := by decide +kernel
theorem dX7_readWord_42 : decode cX7_readWord 42 = .ok (.if_icmp .ge 29, 3) := by decide +kernel
theorem dX7_readWord_45 : decode cX7_readWord 45 = .ok (.aload_n 0, 1) := by decide +kernel
theorem dX7_readWord_46 : decode cX7_readWord 46 = .ok (.aload_n 0, 1) := by decide +kernel
theorem dX7_readWord_47 : decode cX7_readWord 47 = .ok (.getfield 28, 3) := by decide +kernel
theorem dX7_readWord_50 : decode cX7_readWord 50 = .ok (.bipush 27, 2) := by decide +kernel
theorem dX7_readWord_52 : decode cX7_readWord 52 = .ok (.imul, 1) := by decide +kernel
theorem dX7_readWord_53 : decode cX7_readWord 53 = .ok (.aload_n 0, 1) := by decide +kernel
theorem dX7_readWord_54 : decode cX7_readWord 54 = .ok (.getfield 37, 3) := by decide +kernel
theorem dX7_readWord_57 : decode cX7_readWord 57 = .ok (.aload_n 0, 1) := by decide +kernel
theorem dX7_readWord_58 : decode cX7_readWord 58 = .ok (.getfield 15, 3) := by decide +kernel
theorem dX7_readWord_61 : decode cX7_readWord 61 = .ok (.invokevirtual 74, 3) := by decide +kernel
theorem dX7_readWord_64 : decode cX7_readWord 64 = .ok (.invokestatic 59, 3) := by decide +kernel
theorem dX7_readWord_67 : decode cX7_readWord 67 = .ok (.iadd, 1) := by decide +kernel
theorem dX7_readWord_68 : decode cX7_readWord 68 = .ok (.putfield 28, 3) := by decide +kernel
theorem dX7_readWord_71 : decode cX7_readWord 71 = .ok (.aload_n 0, 1) := by decide +kernel
theorem dX7_readWord_72 : decode cX7_readWord 72 = .ok (.dup, 1) := by decide +kernel
theorem dX7_readWord_73 : decode cX7_readWord 73 = .ok (.getfield 25, 3) := by decide +kernel
theorem dX7_readWord_76 : decode cX7_readWord 76 = .ok (.iconst 1, 1) := by decide +kernel
theorem dX7_readWord_77 : decode cX7_readWord 77 = .ok (.iadd, 1) := by decide +kernel
theorem dX7_readWord_78 : decode cX7_readWord 78 = .ok (.putfield 25, 3) := by decide +kernel
theorem dX7_readWord_81 : decode cX7_readWord 81 = .ok (.aload_n 0, 1) := by decide +kernel
theorem dX7_readWord_82 : decode cX7_readWord 82 = .ok (.dup, 1) := by decide +kernel
theorem dX7_readWord_83 : decode cX7_readWord 83 = .ok (.getfield 15, 3) := by decide +kernel
theorem dX7_readWord_86 : decode cX7_readWord 86 = .ok (.iconst 1, 1) := by decide +kernel
theorem dX7_readWord_87 : decode cX7_readWord 87 = .ok (.iadd, 1) := by decide +kernel
theorem dX7_readWord_88 : decode cX7_readWord 88 = .ok (.putfield 15, 3) := by decide +kernel
theorem dX7_readWord_91 : decode cX7_readWord 91 = .ok (.goto (-86), 3) := by decide +kernel
theorem dX7_readWord_94 : decode cX7_readWord 94 = .ok (.aload_n 0, 1) := by decide +kernel
theorem dX7_readWord_95 : decode cX7_readWord 95 = .ok (.aload_n 0, 1) := by decide +kernel
theorem dX7_readWord_96 : decode cX7_readWord 96 = .ok (.getfield 25, 3) := by decide +kernel
theorem dX7_readWord_99 : decode cX7_readWord 99 = .ok (.bipush 6, 2) := by decide +kernel
theorem dX7_readWord_101 : decode cX7_readWord 101 = .ok (.if_icmp .le 7, 3) := by decide +kernel
theorem dX7_readWord_104 : decode cX7_readWord 104 = .ok (.iconst 0, 1) := by decide +kernel
theorem dX7_readWord_105 : decode cX7_readWord 105 = .ok (.goto 14, 3) := by decide +kernel
theorem dX7_readWord_108 : decode cX7_readWord 108 = .ok (.aload_n 0, 1) := by decide +kernel
theorem dX7_readWord_109 : decode cX7_readWord 109 = .ok (.getfield 28, 3) := by decide +kernel
theorem dX7_readWord_112 : decode cX7_readWord 112 = .ok (.aload_n 0, 1) := by decide +kernel
theorem dX7_readWord_113 : decode cX7_readWord 113 = .ok (.getfield 25, 3) := by decide +kernel
theorem dX7_readWord_116 : decode cX7_readWord 116 = .ok (.invokestatic 63, 3) := by decide +kernel
theorem dX7_readWord_119 : decode cX7_readWord 119 = .ok (.putfield 28, 3) := by decide +kernel
theorem dX7_readWord_122 : decode cX7_readWord 122 = .ok (.return_, 1) := by decide +kernel
theorem kl_RX7_15 : KLk RX7 15 7 2 := ⟨RX7, TX7, 9, rfl, by decide, Or.inl (kwm 278 (by decide +kernel) (by decide +kernel))⟩
theorem kl_RX7_37 : KLk RX7 37 7 0 := ⟨RX7, TX7, 9, rfl, by decide, Or.inl (kwm 276 (by decide +kernel) (by decide +kernel))⟩
theorem kl_RX7_70 : KLk RX7 70 9 1 := ⟨RX9, TX9, 2, rfl, by decide, Or.inr (by decide +kernel)⟩
theorem kc_RX7_74 : Cond.methodLink RX7 74 yX9_byteAt ∈ ktG ∧ (Cond.instanceMethod yX9_byteAt ∈ ktG ∧ Cond.selects yX9_byteAt.cls yX9_byteAt yX9_byteAt ∈ ktG) ∧ Cond.initialized yX9_byteAt.cls ∈ ktG ∧ Cond.code yX9_byteAt cX9_byteAt 2 (some .int) ∈ ktG := ⟨(kwm 622 (by decide +kernel) (by decide +kernel)), ⟨(kwm 623 (by decide +kernel) (by decide +kernel)), (kwm 624 (by decide +kernel) (by decide +kernel))⟩, (kwm 124 (by decide +kernel) (by decide +kernel)), kwm 625 (by decide +kernel) (by decide +kernel)⟩
theorem kh_X9_byteAt : yX9_byteAt.cls ≠ "java/lang/invoke/MethodHandle" ∧ yX9_byteAt.cls ≠ "java/lang/invoke/VarHandle" ∧ (parseMethodDescriptor yX9_byteAt.desc).map (fun d => d.parameters.length) = some 1 := by decide +kernel
theorem kc_RX7_81 : Cond.methodLink RX7 81 yX7_isLetter ∈ ktG ∧ Cond.static yX7_isLetter ∈ ktG ∧ Cond.initialized yX7_isLetter.cls ∈ ktG ∧ Cond.code yX7_isLetter cX7_isLetter 1 (some .boolean) ∈ ktG := ⟨(kwm 629 (by decide +kernel) (by decide +kernel)), (kwm 630 (by decide +kernel) (by decide +kernel)), (kwm 127 (by decide +kernel) (by decide +kernel)), kwm 631 (by decide +kernel) (by decide +kernel)⟩
theorem kh_X7_isLetter : yX7_isLetter.cls ≠ "java/lang/invoke/MethodHandle" ∧ yX7_isLetter.cls ≠ "java/lang/invoke/VarHandle" ∧ (parseMethodDescriptor yX7_isLetter.desc).map (fun d => d.parameters.length) = some 1 := by decide +kernel
theorem kl_RX7_25 : KLk RX7 25 7 5 := ⟨RX7, TX7, 9, rfl, by decide, Or.inl (kwm 284 (by decide +kernel) (by decide +kernel))⟩
theorem kl_RX7_28 : KLk RX7 28 7 6 := ⟨RX7, TX7, 9, rfl, by decide, Or.inl (kwm 285 (by decide +kernel) (by decide +kernel))⟩
theorem kc_RX7_59 : Cond.methodLink RX7 59 yX7_letterOf ∈ ktG ∧ Cond.static yX7_letterOf ∈ ktG ∧ Cond.initialized yX7_letterOf.cls ∈ ktG ∧ Cond.code yX7_letterOf cX7_letterOf 1 (some .int) ∈ ktG := ⟨(kwm 269 (by decide +kernel) (by decide +kernel)), (kwm 270 (by decide +kernel) (by decide +kernel)), (kwm 127 (by decide +kernel) (by decide +kernel)), kwm 271 (by decide +kernel) (by decide +kernel)⟩
theorem kh_X7_letterOf : yX7_letterOf.cls ≠ "java/lang/invoke/MethodHandle" ∧ yX7_letterOf.cls ≠ "java/lang/invoke/VarHandle" ∧ (parseMethodDescriptor yX7_letterOf.desc).map (fun d => d.parameters.length) = some 1 := by decide +kernel
theorem kc_RX7_63 : Cond.methodLink RX7 63 yX7_filledUp ∈ ktG ∧ Cond.static yX7_filledUp ∈ ktG ∧ Cond.initialized yX7_filledUp.cls ∈ ktG ∧ Cond.code yX7_filledUp cX7_filledUp 4 (some .int) ∈ ktG := ⟨(kwm 272 (by decide +kernel) (by decide +kernel)), (kwm 273 (by decide +kernel) (by decide +kernel)), (kwm 127 (by decide +kernel) (by decide +kernel)), kwm 274 (by decide +kernel) (by decide +kernel)⟩
theorem kh_X7_filledUp : yX7_filledUp.cls ≠ "java/lang/invoke/MethodHandle" ∧ yX7_filledUp.cls ≠ "java/lang/invoke/VarHandle" ∧ (parseMethodDescriptor yX7_filledUp.desc).map (fun d => d.parameters.length) = some 2 := by decide +kernel
def E_X7_readWord_l5 (v0 : Nat) : KH → Nat → List (Nat × Value) → List Value → KH → Prop := fun (e : KH) pc ls st hh => pc = 94 ∧ ls = [(0, .ref v0)] ∧ st = [] ∧ e = hh
def B_X7_readWord_l5 (v0 : Nat) : ((KH) ⊕ (KH)) → Nat → List (Nat × Value) → List Value → KH → Prop := Sum.elim (fun (s : KH) pc ls st hh => pc = 5 ∧ ls = [(0, .ref v0)] ∧ st = [] ∧ hh = s) (E_X7_readWord_l5 v0)
def f_X7_readWord_b71 (h : KH) (v0 : Nat) : Option ((KH) ⊕ (KH)) :=
  if kkind v0 = 7 then kl (ksI h v0 5 ((kI h v0 5) + (1 : Int32))) fun h2 =>
  kl (ksI h2 v0 2 ((kI h2 v0 2) + (1 : Int32))) fun h5 =>
  some (.inl h5) else none
set_option maxHeartbeats 4000000 in
set_option maxRecDepth 100000 in
theorem s_X7_readWord_b71 {Z : Nat → (Nat → Nat) → State → Prop} (h : KH) (v0 : Nat) {t : (KH) ⊕ (KH)} (hn : h.1 = 243) (H : f_X7_readWord_b71 h v0 = some t) : KX Z RX7 cX7_readWord 1 false 2 (B_X7_readWord_l5 v0 t) 71 [(0, .ref v0)] [] h := by
  unfold f_X7_readWord_b71 at H
  refine x_aload_n (q := 72) dX7_readWord_71 rfl rfl ?_
  refine x_dup (q := 73) dX7_readWord_72 rfl rfl ?_
  replace H := kif H; obtain ⟨g1, H⟩ := H
  refine x_getI (q := 76) dX7_readWord_73 rfl kl_RX7_25 (Or.inl rfl) (k243 g1 (by decide) hn) ?_
  refine x_iconst (q := 77) (v := (1 : Int32)) dX7_readWord_76 rfl (by decide) ?_
  refine x_iadd (q := 78) dX7_readWord_77 rfl ?_
  replace H := kle H; obtain ⟨h2, q3, H⟩ := H
  refine x_putI (q := 81) dX7_readWord_78 rfl kl_RX7_25 (Or.inl rfl) rfl (k243 g1 (by decide) hn) ?_
  refine x_nmH q3 ?_
  have n4 : h2.1 = 243 := by rw [q3]; exact hn
  refine x_aload_n (q := 82) dX7_readWord_81 rfl rfl ?_
  refine x_dup (q := 83) dX7_readWord_82 rfl rfl ?_
  refine x_getI (q := 86) dX7_readWord_83 rfl kl_RX7_15 (Or.inl rfl) (k243 g1 (by decide) n4) ?_
  refine x_iconst (q := 87) (v := (1 : Int32)) dX7_readWord_86 rfl (by decide) ?_
  refine x_iadd (q := 88) dX7_readWord_87 rfl ?_
  replace H := kle H; obtain ⟨h5, q6, H⟩ := H
  refine x_putI (q := 91) dX7_readWord_88 rfl kl_RX7_15 (Or.inl rfl) rfl (k243 g1 (by decide) n4) ?_
  refine x_nmH q6 ?_
  have n7 : h5.1 = 243 := by rw [q6]; exact n4
  refine x_goto dX7_readWord_91 (q := 5) (by decide) ?_
  cases H
  refine x_sub (ls2 := [(0, .ref v0)]) [0] rfl ?_
  exact x_end (x_cfg rfl)
def f_X7_readWord_l5 (v0 : Nat) (s : KH) : Option ((KH) ⊕ (KH)) :=
  if kkind v0 = 7 then if (kR s v0 0) < 999999 then if kkind (kR s v0 0) = 9 then if (kI s (kR s v0 0) 1) ≤ (kI s v0 2) then
  some (.inr s)
  else
  kb (f_X9_byteAt s (kR s v0 0) (kI s v0 2)) fun r5 =>
  kb (f_X7_isLetter s r5) fun r8 =>
  if r8 = 0 then
  some (.inr s)
  else
  if (6 : Int32) ≤ (kI s v0 5) then
  f_X7_readWord_b71 s v0
  else
  kb (f_X9_byteAt s (kR s v0 0) (kI s v0 2)) fun r13 =>
  kb (f_X7_letterOf s r13) fun r16 =>
  kl (ksI s v0 6 (((kI s v0 6) * (27 : Int32)) + r16)) fun h19 =>
  f_X7_readWord_b71 h19 v0 else none else none else none
set_option maxHeartbeats 4000000 in
set_option maxRecDepth 100000 in
theorem s_X7_readWord_l5 {Z : Nat → (Nat → Nat) → State → Prop} (v0 : Nat) (s : KH) (t : (KH) ⊕ (KH)) (hn : (s).1 = 243) (H : f_X7_readWord_l5 v0 s = some t) : KX Z RX7 cX7_readWord 1 false 2 (B_X7_readWord_l5 v0 t) 5 [(0, .ref v0)] [] s := by
  unfold f_X7_readWord_l5 at H
  refine x_aload_n (q := 6) dX7_readWord_5 rfl rfl ?_
  replace H := kif H; obtain ⟨g1, H⟩ := H
  refine x_getI (q := 9) dX7_readWord_6 rfl kl_RX7_15 (Or.inl rfl) (k243 g1 (by decide) hn) ?_
  refine x_aload_n (q := 10) dX7_readWord_9 rfl rfl ?_
  replace H := kif H; obtain ⟨g2, H⟩ := H
  refine x_getR (q := 13) dX7_readWord_10 rfl kl_RX7_37 rfl (k243 g1 (by decide) hn) g2 ?_
  replace H := kif H; obtain ⟨g3, H⟩ := H
  refine x_getI (q := 16) dX7_readWord_13 rfl kl_RX7_70 (Or.inl rfl) (k243 g3 (by decide) hn) ?_
  replace H := kite H; rcases H with ⟨g4, H⟩ | ⟨g4, H⟩
  · refine x_icmp_ge_t dX7_readWord_16 (q := 94) (by decide) g4 ?_
    cases H
    refine x_sub (ls2 := [(0, .ref v0)]) [0] rfl ?_
    exact x_end (x_cfg rfl)
  · refine x_icmp_ge_f (q := 19) dX7_readWord_16 (t := 94) (by decide) rfl g4 ?_
    refine x_aload_n (q := 20) dX7_readWord_19 rfl rfl ?_
    refine x_getR (q := 23) dX7_readWord_20 rfl kl_RX7_37 rfl (k243 g1 (by decide) hn) g2 ?_
    refine x_aload_n (q := 24) dX7_readWord_23 rfl rfl ?_
    refine x_getI (q := 27) dX7_readWord_24 rfl kl_RX7_15 (Or.inl rfl) (k243 g1 (by decide) hn) ?_
    replace H := kbe H; obtain ⟨r5, c6, H⟩ := H
    have m7 := s_X9_byteAt (Z := Z) s (kR s v0 0) (kI s v0 2) hn c6
    refine x_callV (q := 30) (as := [.int (kI s v0 2)]) (rest := []) dX7_readWord_27 rfl kc_RX7_74 kh_X9_byteAt (by decide) (Nat.le_of_ble_eq_true rfl) m7 (ci := 9) (by exact ⟨rfl, by decide⟩) (k243 g3 (by decide) hn) ?_
    replace H := kbe H; obtain ⟨r8, c9, H⟩ := H
    have m10 := s_X7_isLetter (Z := Z) s r5 hn c9
    refine x_callS (q := 33) (as := [.int r5]) (rest := []) dX7_readWord_30 rfl kc_RX7_81 kh_X7_isLetter (by decide) (Nat.le_of_ble_eq_true rfl) m10 ?_
    replace H := kite H; rcases H with ⟨g11, H⟩ | ⟨g11, H⟩
    · refine x_if_eq_t dX7_readWord_33 (q := 94) (by decide) g11 ?_
      cases H
      refine x_sub (ls2 := [(0, .ref v0)]) [0] rfl ?_
      exact x_end (x_cfg rfl)
    · refine x_if_eq_f (q := 36) dX7_readWord_33 (t := 94) (by decide) rfl g11 ?_
      refine x_aload_n (q := 37) dX7_readWord_36 rfl rfl ?_
      refine x_getI (q := 40) dX7_readWord_37 rfl kl_RX7_25 (Or.inl rfl) (k243 g1 (by decide) hn) ?_
      refine x_bipush (q := 42) (v := (6 : Int32)) dX7_readWord_40 rfl (by decide) ?_
      replace H := kite H; rcases H with ⟨g12, H⟩ | ⟨g12, H⟩
      · refine x_icmp_ge_t dX7_readWord_42 (q := 71) (by decide) g12 ?_
        refine x_sub (ls2 := [(0, .ref v0)]) [0] rfl ?_
        exact s_X7_readWord_b71 s v0 hn H
      · refine x_icmp_ge_f (q := 45) dX7_readWord_42 (t := 71) (by decide) rfl g12 ?_
        refine x_aload_n (q := 46) dX7_readWord_45 rfl rfl ?_
        refine x_aload_n (q := 47) dX7_readWord_46 rfl rfl ?_
        refine x_getI (q := 50) dX7_readWord_47 rfl kl_RX7_28 (Or.inl rfl) (k243 g1 (by decide) hn) ?_
        refine x_bipush (q := 52) (v := (27 : Int32)) dX7_readWord_50 rfl (by decide) ?_
        refine x_imul (q := 53) dX7_readWord_52 rfl ?_
        refine x_aload_n (q := 54) dX7_readWord_53 rfl rfl ?_
        refine x_getR (q := 57) dX7_readWord_54 rfl kl_RX7_37 rfl (k243 g1 (by decide) hn) g2 ?_
        refine x_aload_n (q := 58) dX7_readWord_57 rfl rfl ?_
        refine x_getI (q := 61) dX7_readWord_58 rfl kl_RX7_15 (Or.inl rfl) (k243 g1 (by decide) hn) ?_
        replace H := kbe H; obtain ⟨r13, c14, H⟩ := H
        have m15 := s_X9_byteAt (Z := Z) s (kR s v0 0) (kI s v0 2) hn c14
        refine x_callV (q := 64) (as := [.int (kI s v0 2)]) (rest := [.int ((kI s v0 6) * (27 : Int32)), .ref v0]) dX7_readWord_61 rfl kc_RX7_74 kh_X9_byteAt (by decide) (Nat.le_of_ble_eq_true rfl) m15 (ci := 9) (by exact ⟨rfl, by decide⟩) (k243 g3 (by decide) hn) ?_
        replace H := kbe H; obtain ⟨r16, c17, H⟩ := H
        have m18 := s_X7_letterOf (Z := Z) s r13 hn c17
        refine x_callS (q := 67) (as := [.int r13]) (rest := [.int ((kI s v0 6) * (27 : Int32)), .ref v0]) dX7_readWord_64 rfl kc_RX7_59 kh_X7_letterOf (by decide) (Nat.le_of_ble_eq_true rfl) m18 ?_
        refine x_iadd (q := 68) dX7_readWord_67 rfl ?_
        replace H := kle H; obtain ⟨h19, q20, H⟩ := H
        refine x_putI (q := 71) dX7_readWord_68 rfl kl_RX7_28 (Or.inl rfl) rfl (k243 g1 (by decide) hn) ?_
        refine x_nmH q20 ?_
        have n21 : h19.1 = 243 := by rw [q20]; exact hn
        refine x_sub (ls2 := [(0, .ref v0)]) [0] rfl ?_
        exact s_X7_readWord_b71 h19 v0 n21 H
theorem sl_X7_readWord_l5 {Z : Nat → (Nat → Nat) → State → Prop} (v0 : Nat) (n : Nat) (s : KH) (r : KH) (hn : (s).1 = 243) (H : kloop (f_X7_readWord_l5 v0) n s = some r) : KX Z RX7 cX7_readWord 1 false 2 (E_X7_readWord_l5 v0 r) 5 [(0, .ref v0)] [] s :=
  k_loop (ls := (fun (s : KH) => ([(0, .ref v0)] : List (Nat × Value)))) (hp := (fun (s : KH) => (s : KH))) (G := E_X7_readWord_l5 v0) (fun s t hn H => s_X7_readWord_l5 v0 s t hn H) n s r hn H
def f_X7_readWord_b119 (h : KH) (w0 : Nat) (w1 : Int32) : Option (KH) :=
  if kkind w0 = 7 then kl (ksI h w0 6 w1) fun h2 =>
  some h2 else none
set_option maxHeartbeats 4000000 in
set_option maxRecDepth 100000 in
theorem s_X7_readWord_b119 {Z : Nat → (Nat → Nat) → State → Prop} (h : KH) (w0 : Nat) (w1 : Int32) {t : KH} (hn : h.1 = 243) (H : f_X7_readWord_b119 h w0 w1 = some t) : KX Z RX7 cX7_readWord 1 false 2 (KRv cX7_readWord t) 119 [] [.int w1, .ref w0] h := by
  unfold f_X7_readWord_b119 at H
  replace H := kif H; obtain ⟨g1, H⟩ := H
  replace H := kle H; obtain ⟨h2, q3, H⟩ := H
  refine x_putI (q := 122) dX7_readWord_119 rfl kl_RX7_28 (Or.inl rfl) rfl (k243 g1 (by decide) hn) ?_
  refine x_nmH q3 ?_
  have n4 : h2.1 = 243 := by rw [q3]; exact hn
  cases H
  exact x_end ⟨dX7_readWord_122, rfl, rfl⟩
def f_X7_readWord_b94 (h : KH) (v0 : Nat) : Option (KH) :=
  if kkind v0 = 7 then if (kI h v0 5) ≤ (6 : Int32) then
  kb (f_X7_filledUp h (kI h v0 6) (kI h v0 5)) fun r3 =>
  f_X7_readWord_b119 h v0 r3
  else
  f_X7_readWord_b119 h v0 (0 : Int32) else none
set_option maxHeartbeats 4000000 in
set_option maxRecDepth 100000 in
theorem s_X7_readWord_b94 {Z : Nat → (Nat → Nat) → State → Prop} (h : KH) (v0 : Nat) {t : KH} (hn : h.1 = 243) (H : f_X7_readWord_b94 h v0 = some t) : KX Z RX7 cX7_readWord 1 false 2 (KRv cX7_readWord t) 94 [(0, .ref v0)] [] h := by
  unfold f_X7_readWord_b94 at H
  refine x_aload_n (q := 95) dX7_readWord_94 rfl rfl ?_
  refine x_aload_n (q := 96) dX7_readWord_95 rfl rfl ?_
  replace H := kif H; obtain ⟨g1, H⟩ := H
  refine x_getI (q := 99) dX7_readWord_96 rfl kl_RX7_25 (Or.inl rfl) (k243 g1 (by decide) hn) ?_
  refine x_bipush (q := 101) (v := (6 : Int32)) dX7_readWord_99 rfl (by decide) ?_
  replace H := kite H; rcases H with ⟨g2, H⟩ | ⟨g2, H⟩
  · refine x_icmp_le_t dX7_readWord_101 (q := 108) (by decide) g2 ?_
    refine x_aload_n (q := 109) dX7_readWord_108 rfl rfl ?_
    refine x_getI (q := 112) dX7_readWord_109 rfl kl_RX7_28 (Or.inl rfl) (k243 g1 (by decide) hn) ?_
    refine x_aload_n (q := 113) dX7_readWord_112 rfl rfl ?_
    refine x_getI (q := 116) dX7_readWord_113 rfl kl_RX7_25 (Or.inl rfl) (k243 g1 (by decide) hn) ?_
    replace H := kbe H; obtain ⟨r3, c4, H⟩ := H
    have m5 := s_X7_filledUp (Z := Z) h (kI h v0 6) (kI h v0 5) hn c4
    refine x_callS (q := 119) (as := [.int (kI h v0 6), .int (kI h v0 5)]) (rest := [.ref v0]) dX7_readWord_116 rfl kc_RX7_63 kh_X7_filledUp (by decide) (Nat.le_of_ble_eq_true rfl) m5 ?_
    refine x_sub (ls2 := []) [] rfl ?_
    exact s_X7_readWord_b119 h v0 r3 hn H
  · refine x_icmp_le_f (q := 104) dX7_readWord_101 (t := 108) (by decide) rfl g2 ?_
    refine x_iconst (q := 105) (v := (0 : Int32)) dX7_readWord_104 rfl (by decide) ?_
    refine x_goto dX7_readWord_105 (q := 119) (by decide) ?_
    refine x_sub (ls2 := []) [] rfl ?_
    exact s_X7_readWord_b119 h v0 (0 : Int32) hn H
def f_X7_readWord (h : KH) (v0 : Nat) : Option (KH) :=
  if kkind v0 = 7 then kl (ksI h v0 3 (2 : Int32)) fun h2 =>
  kb (kloop (f_X7_readWord_l5 v0) KF h2) fun e5 =>
  f_X7_readWord_b94 e5 v0 else none
set_option maxHeartbeats 4000000 in
set_option maxRecDepth 100000 in
theorem s0_X7_readWord {Z : Nat → (Nat → Nat) → State → Prop} (h : KH) (v0 : Nat) {t : KH} (hn : h.1 = 243) (H : f_X7_readWord h v0 = some t) : KX Z RX7 cX7_readWord 1 false 2 (KRv cX7_readWord t) 0 [(0, .ref v0)] [] h := by
  unfold f_X7_readWord at H
  refine x_aload_n (q := 1) dX7_readWord_0 rfl rfl ?_
  refine x_iconst (q := 2) (v := (2 : Int32)) dX7_readWord_1 rfl (by decide) ?_
  replace H := kif H; obtain ⟨g1, H⟩ := H
  replace H := kle H; obtain ⟨h2, q3, H⟩ := H
  refine x_putI (q := 5) dX7_readWord_2 rfl kl_RX7_19 (Or.inl rfl) rfl (k243 g1 (by decide) hn) ?_
  refine x_nmH q3 ?_
  have n4 : h2.1 = 243 := by rw [q3]; exact hn
  refine x_sub (ls2 := [(0, .ref v0)]) [0] rfl ?_
  replace H := kbe H; obtain ⟨e5, c6, H⟩ := H
  refine x_app (sl_X7_readWord_l5 v0 KF h2 e5 n4 c6) fun pc2 ls2 st2 h2 hg m7 => ?_
  obtain ⟨rfl, rfl, rfl, rfl⟩ := hg
  refine x_sub (ls2 := [(0, .ref v0)]) [0] rfl ?_
  exact s_X7_readWord_b94 e5 v0 (m7.full n4) H
theorem s_X7_readWord {Z : Nat → (Nat → Nat) → State → Prop} (h : KH) (v0 : Nat) {t : KH} (hn : h.1 = 243) (H : f_X7_readWord h v0 = some t) : KM Z yX7_readWord cX7_readWord 1 none 2 [.ref v0] h none t :=
  kx_v (own := RX7) (ini := false) (by decide +kernel) (by decide +kernel) rfl (Nat.le_of_ble_eq_true rfl) (s0_X7_readWord h v0 hn H)
theorem dX7_isDigit_0 : decode cX7_isDigit 0 = .ok (.iload_n 0, 1) := by decide +kernel
theorem dX7_isDigit_1 : decode cX7_isDigit 1 = .ok (.bipush 48, 2) := by decide +kernel
theorem dX7_isDigit_3 : decode cX7_isDigit 3 = .ok (.if_icmp .lt 13, 3) := by decide +kernel
theorem dX7_isDigit_6 : decode cX7_isDigit 6 = .ok (.iload_n 0, 1) := by decide +kernel
theorem dX7_isDigit_7 : decode cX7_isDigit 7 = .ok (.bipush 57, 2) := by decide +kernel
theorem dX7_isDigit_9 : decode cX7_isDigit 9 = .ok (.if_icmp .gt 7, 3) := by decide +kernel
theorem dX7_isDigit_12 : decode cX7_isDigit 12 = .ok (.iconst 1, 1) := by decide +kernel
theorem dX7_isDigit_13 : decode cX7_isDigit 13 = .ok (.goto 4, 3) := by decide +kernel
theorem dX7_isDigit_16 : decode cX7_isDigit 16 = .ok (.iconst 0, 1) := by decide +kernel
theorem dX7_isDigit_17 : decode cX7_isDigit 17 = .ok (.ireturn, 1) := by decide +kernel
def f_X7_isDigit (h : KH) (v0 : Int32) : Option (Int32) :=
  if v0 < (48 : Int32) then
  some (0 : Int32)
  else
  if (57 : Int32) < v0 then
  some (0 : Int32)
  else
  some (1 : Int32)
set_option maxHeartbeats 4000000 in
set_option maxRecDepth 100000 in
theorem s0_X7_isDigit {Z : Nat → (Nat → Nat) → State → Prop} (h : KH) (v0 : Int32) {t : Int32} (hn : h.1 = 243) (H : f_X7_isDigit h v0 = some t) : KX Z RX7 cX7_isDigit 1 false 1 (KRz cX7_isDigit t h) 0 [(0, .int v0)] [] h := by
  unfold f_X7_isDigit at H
  refine x_iload_n (q := 1) dX7_isDigit_0 rfl rfl ?_
  refine x_bipush (q := 3) (v := (48 : Int32)) dX7_isDigit_1 rfl (by decide) ?_
  replace H := kite H; rcases H with ⟨g1, H⟩ | ⟨g1, H⟩
  · refine x_icmp_lt_t dX7_isDigit_3 (q := 16) (by decide) g1 ?_
    refine x_iconst (q := 17) (v := (0 : Int32)) dX7_isDigit_16 rfl (by decide) ?_
    cases H
    exact x_end ⟨(Or.inl rfl), dX7_isDigit_17, rfl, rfl⟩
  · refine x_icmp_lt_f (q := 6) dX7_isDigit_3 (t := 16) (by decide) rfl g1 ?_
    refine x_iload_n (q := 7) dX7_isDigit_6 rfl rfl ?_
    refine x_bipush (q := 9) (v := (57 : Int32)) dX7_isDigit_7 rfl (by decide) ?_
    replace H := kite H; rcases H with ⟨g2, H⟩ | ⟨g2, H⟩
    · refine x_icmp_gt_t dX7_isDigit_9 (q := 16) (by decide) g2 ?_
      refine x_iconst (q := 17) (v := (0 : Int32)) dX7_isDigit_16 rfl (by decide) ?_
      cases H
      exact x_end ⟨(Or.inl rfl), dX7_isDigit_17, rfl, rfl⟩
    · refine x_icmp_gt_f (q := 12) dX7_isDigit_9 (t := 16) (by decide) rfl g2 ?_
      refine x_iconst (q := 13) (v := (1 : Int32)) dX7_isDigit_12 rfl (by decide) ?_
      refine x_goto dX7_isDigit_13 (q := 17) (by decide) ?_
      cases H
      exact x_end ⟨(Or.inr rfl), dX7_isDigit_17, rfl, rfl⟩
theorem s_X7_isDigit {Z : Nat → (Nat → Nat) → State → Prop} (h : KH) (v0 : Int32) {t : Int32} (hn : h.1 = 243) (H : f_X7_isDigit h v0 = some t) : KM Z yX7_isDigit cX7_isDigit 1 (some .boolean) 1 [.int v0] h (some (.int t)) h :=
  kx_z (own := RX7) (ini := false) (by decide +kernel) (by decide +kernel) rfl (Nat.le_of_ble_eq_true rfl) (s0_X7_isDigit h v0 hn H)
