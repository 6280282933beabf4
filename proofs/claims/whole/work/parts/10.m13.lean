-- methods as functions, and that the machine does as they say (by wip/whole/gen_all.py): X12_merit, X12_best, X12_isAlike, X12_parts, X12_sure, X12_putsAside, X12_takesBack, X12_isHeardMore, X12_begins, X12_ahead, X12_known, X12_refuses, X12_tell, X12_isAsAnswered, X12_trick, X12_keeps
theorem dX12_merit_0 : decode cX12_merit 0 = .ok (.iload_n 1, 1) := by decide +kernel
theorem dX12_merit_1 : decode cX12_merit 1 = .ok (.i2l, 1) := by decide +kernel
theorem dX12_merit_2 : decode cX12_merit 2 = .ok (.lconst 0, 1) := by decide +kernel
theorem dX12_merit_3 : decode cX12_merit 3 = .ok (.aload_n 0, 1) := by decide +kernel
theorem dX12_merit_4 : decode cX12_merit 4 = .ok (.invokevirtual 482, 3) := by decide +kernel
theorem dX12_merit_7 : decode cX12_merit 7 = .ok (.i2l, 1) := by decide +kernel
theorem dX12_merit_8 : decode cX12_merit 8 = .ok (.invokestatic 270, 3) := by decide +kernel
theorem dX12_merit_11 : decode cX12_merit 11 = .ok (.ifCond .eq 14, 3) := by decide +kernel
theorem dX12_merit_14 : decode cX12_merit 14 = .ok (.iload_n 1, 1) := by decide +kernel
theorem dX12_merit_15 : decode cX12_merit 15 = .ok (.aload_n 0, 1) := by decide +kernel
theorem dX12_merit_16 : decode cX12_merit 16 = .ok (.invokevirtual 455, 3) := by decide +kernel
theorem dX12_merit_19 : decode cX12_merit 19 = .ok (.iconst (-1), 1) := by decide +kernel
theorem dX12_merit_20 : decode cX12_merit 20 = .ok (.ixor, 1) := by decide +kernel
theorem dX12_merit_21 : decode cX12_merit 21 = .ok (.iand, 1) := by decide +kernel
theorem dX12_merit_22 : decode cX12_merit 22 = .ok (.ifCond .eq 7, 3) := by decide +kernel
theorem dX12_merit_25 : decode cX12_merit 25 = .ok (.ldc2_w 476, 3) := by decide +kernel
theorem dX12_merit_28 : decode cX12_merit 28 = .ok (.lreturn, 1) := by decide +kernel
theorem dX12_merit_29 : decode cX12_merit 29 = .ok (.aload_n 0, 1) := by decide +kernel
theorem dX12_merit_30 : decode cX12_merit 30 = .ok (.iconst 0, 1) := by decide +kernel
theorem dX12_merit_31 : decode cX12_merit 31 = .ok (.invokevirtual 478, 3) := by decide +kernel
theorem dX12_merit_34 : decode cX12_merit 34 = .ok (.aload_n 0, 1) := by decide +kernel
theorem dX12_merit_35 : decode cX12_merit 35 = .ok (.getfield 422, 3) := by decide +kernel
theorem dX12_merit_38 : decode cX12_merit 38 = .ok (.lconst 0, 1) := by decide +kernel
theorem dX12_merit_39 : decode cX12_merit 39 = .ok (.lcmp, 1) := by decide +kernel
theorem dX12_merit_40 : decode cX12_merit 40 = .ok (.ifCond .ne 9, 3) := by decide +kernel
theorem dX12_merit_43 : decode cX12_merit 43 = .ok (.ldc2_w 476, 3) := by decide +kernel
theorem dX12_merit_46 : decode cX12_merit 46 = .ok (.goto 8, 3) := by decide +kernel
theorem dX12_merit_49 : decode cX12_merit 49 = .ok (.aload_n 0, 1) := by decide +kernel
theorem dX12_merit_50 : decode cX12_merit 50 = .ok (.iload_n 1, 1) := by decide +kernel
theorem dX12_merit_51 : decode cX12_merit 51 = .ok (.invokevirtual 449, 3) := by decide +kernel
theorem dX12_merit_54 : decode cX12_merit 54 = .ok (.lreturn, 1) := by decide +kernel
theorem kc_RX12_482 : Cond.methodLink RX12 482 yX12_allTests ∈ ktG ∧ (Cond.instanceMethod yX12_allTests ∈ ktG ∧ Cond.selects yX12_allTests.cls yX12_allTests yX12_allTests ∈ ktG) ∧ Cond.initialized yX12_allTests.cls ∈ ktG ∧ Cond.code yX12_allTests cX12_allTests 1 (some .int) ∈ ktG := ⟨(kwm 1826 (by decide +kernel) (by decide +kernel)), ⟨(kwm 1828 (by decide +kernel) (by decide +kernel)), (kwm 95 (by decide +kernel) (by decide +kernel))⟩, (kwm 139 (by decide +kernel) (by decide +kernel)), kwm 1829 (by decide +kernel) (by decide +kernel)⟩
theorem kh_X12_allTests : yX12_allTests.cls ≠ "java/lang/invoke/MethodHandle" ∧ yX12_allTests.cls ≠ "java/lang/invoke/VarHandle" ∧ (parseMethodDescriptor yX12_allTests.desc).map (fun d => d.parameters.length) = some 0 := by decide +kernel
def f_X12_merit (h : KH) (v0 : Nat) (v1 : Int32) : Option (Int64 × KH) :=
  if kkind v0 = 12 then kb (f_X12_allTests h v0) fun r2 =>
  kb (f_X12_isIn h ((v1).toInt64) (0 : Int64) ((r2).toInt64)) fun r5 =>
  if r5 = 0 then
  some ((-1000000000000000 : Int64), h)
  else
  kb (f_X12_freeTests h v0) fun r9 =>
  if (v1 &&& (r9 ^^^ (-1 : Int32))) = 0 then
  kb (f_X12_laysWorlds h v0 (0 : Int32)) fun r13 =>
  if (lg_cmp (kL r13 v0 56) (0 : Int64)) = 0 then
  some ((-1000000000000000 : Int64), r13)
  else
  kb (f_X12_meritOf r13 v0 v1) fun r18 =>
  some (r18.1, r18.2)
  else
  some ((-1000000000000000 : Int64), h) else none
set_option maxHeartbeats 4000000 in
set_option maxRecDepth 100000 in
theorem s0_X12_merit {Z : Nat → (Nat → Nat) → State → Prop} (h : KH) (v0 : Nat) (v1 : Int32) {t : Int64 × KH} (hn : h.1 = 243) (H : f_X12_merit h v0 v1 = some t) : KX Z RX12 cX12_merit 2 false 6 (KRl cX12_merit t.1 t.2) 0 [(0, .ref v0), (1, .int v1)] [] h := by
  unfold f_X12_merit at H
  refine x_iload_n (q := 1) dX12_merit_0 rfl rfl ?_
  refine x_i2l (q := 2) dX12_merit_1 rfl ?_
  refine x_lconst (q := 3) (v := (0 : Int64)) dX12_merit_2 rfl (by decide) ?_
  refine x_aload_n (q := 4) dX12_merit_3 rfl rfl ?_
  replace H := kif H; obtain ⟨g1, H⟩ := H
  replace H := kbe H; obtain ⟨r2, c3, H⟩ := H
  have m4 := s_X12_allTests (Z := Z) h v0 hn c3
  refine x_callV (q := 7) (as := []) (rest := [.long (0 : Int64), .long ((v1).toInt64)]) dX12_merit_4 rfl kc_RX12_482 kh_X12_allTests (by decide) (Nat.le_of_ble_eq_true rfl) m4 (ci := 12) (by exact ⟨rfl, by decide⟩) (k243 g1 (by decide) hn) ?_
  refine x_i2l (q := 8) dX12_merit_7 rfl ?_
  replace H := kbe H; obtain ⟨r5, c6, H⟩ := H
  have m7 := s_X12_isIn (Z := Z) h ((v1).toInt64) (0 : Int64) ((r2).toInt64) hn c6
  refine x_callS (q := 11) (as := [.long ((v1).toInt64), .long (0 : Int64), .long ((r2).toInt64)]) (rest := []) dX12_merit_8 rfl kc_RX12_270 kh_X12_isIn (by decide) (Nat.le_of_ble_eq_true rfl) m7 ?_
  replace H := kite H; rcases H with ⟨g8, H⟩ | ⟨g8, H⟩
  · refine x_if_eq_t dX12_merit_11 (q := 25) (by decide) g8 ?_
    refine x_ldc2 (q := 28) (v := (-1000000000000000 : Int64)) dX12_merit_25 rfl kk_RX12_476 ?_
    cases H
    exact x_end ⟨dX12_merit_28, rfl, rfl⟩
  · refine x_if_eq_f (q := 14) dX12_merit_11 (t := 25) (by decide) rfl g8 ?_
    refine x_iload_n (q := 15) dX12_merit_14 rfl rfl ?_
    refine x_aload_n (q := 16) dX12_merit_15 rfl rfl ?_
    replace H := kbe H; obtain ⟨r9, c10, H⟩ := H
    have m11 := s_X12_freeTests (Z := Z) h v0 hn c10
    refine x_callV (q := 19) (as := []) (rest := [.int v1]) dX12_merit_16 rfl kc_RX12_455 kh_X12_freeTests (by decide) (Nat.le_of_ble_eq_true rfl) m11 (ci := 12) (by exact ⟨rfl, by decide⟩) (k243 g1 (by decide) hn) ?_
    refine x_iconst (q := 20) (v := (-1 : Int32)) dX12_merit_19 rfl (by decide) ?_
    refine x_ixor (q := 21) dX12_merit_20 rfl ?_
    refine x_iand (q := 22) dX12_merit_21 rfl ?_
    replace H := kite H; rcases H with ⟨g12, H⟩ | ⟨g12, H⟩
    · refine x_if_eq_t dX12_merit_22 (q := 29) (by decide) g12 ?_
      refine x_aload_n (q := 30) dX12_merit_29 rfl rfl ?_
      refine x_iconst (q := 31) (v := (0 : Int32)) dX12_merit_30 rfl (by decide) ?_
      replace H := kbe H; obtain ⟨r13, c14, H⟩ := H
      have m15 := s_X12_laysWorlds (Z := Z) h v0 (0 : Int32) hn c14
      refine x_callV (q := 34) (as := [.int (0 : Int32)]) (rest := []) dX12_merit_31 rfl kc_RX12_478 kh_X12_laysWorlds (by decide) (Nat.le_of_ble_eq_true rfl) m15 (ci := 12) (by exact ⟨rfl, by decide⟩) (k243 g1 (by decide) hn) ?_
      have n16 : (r13).1 = 243 := m15.1.full hn
      refine x_aload_n (q := 35) dX12_merit_34 rfl rfl ?_
      refine x_getL (q := 38) dX12_merit_35 rfl kl_RX12_422 rfl (k243 g1 (by decide) n16) ?_
      refine x_lconst (q := 39) (v := (0 : Int64)) dX12_merit_38 rfl (by decide) ?_
      refine x_lcmp (q := 40) dX12_merit_39 rfl ?_
      replace H := kite H; rcases H with ⟨g17, H⟩ | ⟨g17, H⟩
      · refine x_if_ne_f (q := 43) dX12_merit_40 (t := 49) (by decide) rfl g17 ?_
        refine x_ldc2 (q := 46) (v := (-1000000000000000 : Int64)) dX12_merit_43 rfl kk_RX12_476 ?_
        refine x_goto dX12_merit_46 (q := 54) (by decide) ?_
        cases H
        exact x_end ⟨dX12_merit_54, rfl, rfl⟩
      · refine x_if_ne_t dX12_merit_40 (q := 49) (by decide) g17 ?_
        refine x_aload_n (q := 50) dX12_merit_49 rfl rfl ?_
        refine x_iload_n (q := 51) dX12_merit_50 rfl rfl ?_
        replace H := kbe H; obtain ⟨r18, c19, H⟩ := H
        have m20 := s_X12_meritOf (Z := Z) r13 v0 v1 n16 c19
        refine x_callV (q := 54) (as := [.int v1]) (rest := []) dX12_merit_51 rfl kc_RX12_449 kh_X12_meritOf (by decide) (Nat.le_of_ble_eq_true rfl) m20 (ci := 12) (by exact ⟨rfl, by decide⟩) (k243 g1 (by decide) n16) ?_
        have n21 : (r18.2).1 = 243 := m20.1.full n16
        cases H
        exact x_end ⟨dX12_merit_54, rfl, rfl⟩
    · refine x_if_eq_f (q := 25) dX12_merit_22 (t := 29) (by decide) rfl g12 ?_
      refine x_ldc2 (q := 28) (v := (-1000000000000000 : Int64)) dX12_merit_25 rfl kk_RX12_476 ?_
      cases H
      exact x_end ⟨dX12_merit_28, rfl, rfl⟩
theorem s_X12_merit {Z : Nat → (Nat → Nat) → State → Prop} (h : KH) (v0 : Nat) (v1 : Int32) {t : Int64 × KH} (hn : h.1 = 243) (H : f_X12_merit h v0 v1 = some t) : KM Z yX12_merit cX12_merit 2 (some .long) 6 [.ref v0, .int v1] h (some (.long t.1)) t.2 :=
  kx_l (own := RX12) (ini := false) (by decide +kernel) (by decide +kernel) rfl (Nat.le_of_ble_eq_true rfl) (s0_X12_merit h v0 v1 hn H)
theorem dX12_best_0 : decode cX12_best 0 = .ok (.aload_n 0, 1) := by decide +kernel
theorem dX12_best_1 : decode cX12_best 1 = .ok (.iconst 0, 1) := by decide +kernel
theorem dX12_best_2 : decode cX12_best 2 = .ok (.invokevirtual 478, 3) := by decide +kernel
theorem dX12_best_5 : decode cX12_best 5 = .ok (.aload_n 0, 1) := by decide +kernel
theorem dX12_best_6 : decode cX12_best 6 = .ok (.getfield 422, 3) := by decide +kernel
theorem dX12_best_9 : decode cX12_best 9 = .ok (.lconst 0, 1) := by decide +kernel
theorem dX12_best_10 : decode cX12_best 10 = .ok (.lcmp, 1) := by decide +kernel
theorem dX12_best_11 : decode cX12_best 11 = .ok (.ifCond .ne 7, 3) := by decide +kernel
theorem dX12_best_14 : decode cX12_best 14 = .ok (.iconst (-1), 1) := by decide +kernel
theorem dX12_best_15 : decode cX12_best 15 = .ok (.goto 11, 3) := by decide +kernel
theorem dX12_best_18 : decode cX12_best 18 = .ok (.aload_n 0, 1) := by decide +kernel
theorem dX12_best_19 : decode cX12_best 19 = .ok (.aload_n 0, 1) := by decide +kernel
theorem dX12_best_20 : decode cX12_best 20 = .ok (.invokevirtual 455, 3) := by decide +kernel
theorem dX12_best_23 : decode cX12_best 23 = .ok (.invokevirtual 485, 3) := by decide +kernel
theorem dX12_best_26 : decode cX12_best 26 = .ok (.ireturn, 1) := by decide +kernel
theorem kc_RX12_485 : Cond.methodLink RX12 485 yX12_bestSet ∈ ktG ∧ (Cond.instanceMethod yX12_bestSet ∈ ktG ∧ Cond.selects yX12_bestSet.cls yX12_bestSet yX12_bestSet ∈ ktG) ∧ Cond.initialized yX12_bestSet.cls ∈ ktG ∧ Cond.code yX12_bestSet cX12_bestSet 8 (some .int) ∈ ktG := ⟨(kwm 1849 (by decide +kernel) (by decide +kernel)), ⟨(kwm 1851 (by decide +kernel) (by decide +kernel)), (kwm 99 (by decide +kernel) (by decide +kernel))⟩, (kwm 139 (by decide +kernel) (by decide +kernel)), kwm 1852 (by decide +kernel) (by decide +kernel)⟩
theorem kh_X12_bestSet : yX12_bestSet.cls ≠ "java/lang/invoke/MethodHandle" ∧ yX12_bestSet.cls ≠ "java/lang/invoke/VarHandle" ∧ (parseMethodDescriptor yX12_bestSet.desc).map (fun d => d.parameters.length) = some 1 := by decide +kernel
def f_X12_best (h : KH) (v0 : Nat) : Option (Int32 × KH) :=
  if kkind v0 = 12 then kb (f_X12_laysWorlds h v0 (0 : Int32)) fun r2 =>
  if (lg_cmp (kL r2 v0 56) (0 : Int64)) = 0 then
  some ((-1 : Int32), r2)
  else
  kb (f_X12_freeTests r2 v0) fun r7 =>
  kb (f_X12_bestSet r2 v0 r7) fun r10 =>
  some (r10.1, r10.2) else none
set_option maxHeartbeats 4000000 in
set_option maxRecDepth 100000 in
theorem s0_X12_best {Z : Nat → (Nat → Nat) → State → Prop} (h : KH) (v0 : Nat) {t : Int32 × KH} (hn : h.1 = 243) (H : f_X12_best h v0 = some t) : KX Z RX12 cX12_best 1 false 6 (KRi cX12_best t.1 t.2) 0 [(0, .ref v0)] [] h := by
  unfold f_X12_best at H
  refine x_aload_n (q := 1) dX12_best_0 rfl rfl ?_
  refine x_iconst (q := 2) (v := (0 : Int32)) dX12_best_1 rfl (by decide) ?_
  replace H := kif H; obtain ⟨g1, H⟩ := H
  replace H := kbe H; obtain ⟨r2, c3, H⟩ := H
  have m4 := s_X12_laysWorlds (Z := Z) h v0 (0 : Int32) hn c3
  refine x_callV (q := 5) (as := [.int (0 : Int32)]) (rest := []) dX12_best_2 rfl kc_RX12_478 kh_X12_laysWorlds (by decide) (Nat.le_of_ble_eq_true rfl) m4 (ci := 12) (by exact ⟨rfl, by decide⟩) (k243 g1 (by decide) hn) ?_
  have n5 : (r2).1 = 243 := m4.1.full hn
  refine x_aload_n (q := 6) dX12_best_5 rfl rfl ?_
  refine x_getL (q := 9) dX12_best_6 rfl kl_RX12_422 rfl (k243 g1 (by decide) n5) ?_
  refine x_lconst (q := 10) (v := (0 : Int64)) dX12_best_9 rfl (by decide) ?_
  refine x_lcmp (q := 11) dX12_best_10 rfl ?_
  replace H := kite H; rcases H with ⟨g6, H⟩ | ⟨g6, H⟩
  · refine x_if_ne_f (q := 14) dX12_best_11 (t := 18) (by decide) rfl g6 ?_
    refine x_iconst (q := 15) (v := (-1 : Int32)) dX12_best_14 rfl (by decide) ?_
    refine x_goto dX12_best_15 (q := 26) (by decide) ?_
    cases H
    exact x_end ⟨dX12_best_26, rfl, rfl⟩
  · refine x_if_ne_t dX12_best_11 (q := 18) (by decide) g6 ?_
    refine x_aload_n (q := 19) dX12_best_18 rfl rfl ?_
    refine x_aload_n (q := 20) dX12_best_19 rfl rfl ?_
    replace H := kbe H; obtain ⟨r7, c8, H⟩ := H
    have m9 := s_X12_freeTests (Z := Z) r2 v0 n5 c8
    refine x_callV (q := 23) (as := []) (rest := [.ref v0]) dX12_best_20 rfl kc_RX12_455 kh_X12_freeTests (by decide) (Nat.le_of_ble_eq_true rfl) m9 (ci := 12) (by exact ⟨rfl, by decide⟩) (k243 g1 (by decide) n5) ?_
    replace H := kbe H; obtain ⟨r10, c11, H⟩ := H
    have m12 := s_X12_bestSet (Z := Z) r2 v0 r7 n5 c11
    refine x_callV (q := 26) (as := [.int r7]) (rest := []) dX12_best_23 rfl kc_RX12_485 kh_X12_bestSet (by decide) (Nat.le_of_ble_eq_true rfl) m12 (ci := 12) (by exact ⟨rfl, by decide⟩) (k243 g1 (by decide) n5) ?_
    have n13 : (r10.2).1 = 243 := m12.1.full n5
    cases H
    exact x_end ⟨dX12_best_26, rfl, rfl⟩
theorem s_X12_best {Z : Nat → (Nat → Nat) → State → Prop} (h : KH) (v0 : Nat) {t : Int32 × KH} (hn : h.1 = 243) (H : f_X12_best h v0 = some t) : KM Z yX12_best cX12_best 1 (some .int) 6 [.ref v0] h (some (.int t.1)) t.2 :=
  kx_i (own := RX12) (ini := false) (by decide +kernel) (by decide +kernel) rfl (Nat.le_of_ble_eq_true rfl) (s0_X12_best h v0 hn H)
theorem dX12_isAlike_0 : decode cX12_isAlike 0 = .ok (.bipush 36, 2) := by decide +kernel
theorem dX12_isAlike_2 : decode cX12_isAlike 2 = .ok (.istore_n 3, 1) := by decide +kernel
theorem dX12_isAlike_3 : decode cX12_isAlike 3 = .ok (.iload_n 3, 1) := by decide +kernel
theorem dX12_isAlike_4 : decode cX12_isAlike 4 = .ok (.bipush 72, 2) := by decide +kernel
theorem dX12_isAlike_6 : decode cX12_isAlike 6 = .ok (.if_icmp .ge 44, 3) := by decide +kernel
theorem dX12_isAlike_9 : decode cX12_isAlike 9 = .ok (.aload_n 0, 1) := by decide +kernel
theorem dX12_isAlike_10 : decode cX12_isAlike 10 = .ok (.getfield 133, 3) := by decide +kernel
theorem dX12_isAlike_13 : decode cX12_isAlike 13 = .ok (.iload_n 3, 1) := by decide +kernel
theorem dX12_isAlike_14 : decode cX12_isAlike 14 = .ok (.laload, 1) := by decide +kernel
theorem dX12_isAlike_15 : decode cX12_isAlike 15 = .ok (.lconst 0, 1) := by decide +kernel
theorem dX12_isAlike_16 : decode cX12_isAlike 16 = .ok (.lcmp, 1) := by decide +kernel
theorem dX12_isAlike_17 : decode cX12_isAlike 17 = .ok (.ifCond .le 27, 3) := by decide +kernel
theorem dX12_isAlike_20 : decode cX12_isAlike 20 = .ok (.aload_n 0, 1) := by decide +kernel
theorem dX12_isAlike_21 : decode cX12_isAlike 21 = .ok (.getfield 136, 3) := by decide +kernel
theorem dX12_isAlike_24 : decode cX12_isAlike 24 = .ok (.iload_n 3, 1) := by decide +kernel
theorem dX12_isAlike_25 : decode cX12_isAlike 25 = .ok (.iaload, 1) := by decide +kernel
theorem dX12_isAlike_26 : decode cX12_isAlike 26 = .ok (.aload_n 0, 1) := by decide +kernel
theorem dX12_isAlike_27 : decode cX12_isAlike 27 = .ok (.getfield 136, 3) := by decide +kernel
theorem dX12_isAlike_30 : decode cX12_isAlike 30 = .ok (.iload_n 1, 1) := by decide +kernel
theorem dX12_isAlike_31 : decode cX12_isAlike 31 = .ok (.iaload, 1) := by decide +kernel
theorem dX12_isAlike_32 : decode cX12_isAlike 32 = .ok (.ixor, 1) := by decide +kernel
theorem dX12_isAlike_33 : decode cX12_isAlike 33 = .ok (.iconst 2, 1) := by decide +kernel
theorem dX12_isAlike_34 : decode cX12_isAlike 34 = .ok (.iload_n 2, 1) := by decide +kernel
theorem dX12_isAlike_35 : decode cX12_isAlike 35 = .ok (.imul, 1) := by decide +kernel
theorem dX12_isAlike_36 : decode cX12_isAlike 36 = .ok (.ishr, 1) := by decide +kernel
theorem dX12_isAlike_37 : decode cX12_isAlike 37 = .ok (.iconst 3, 1) := by decide +kernel
theorem dX12_isAlike_38 : decode cX12_isAlike 38 = .ok (.iand, 1) := by decide +kernel
theorem dX12_isAlike_39 : decode cX12_isAlike 39 = .ok (.ifCond .ne 5, 3) := by decide +kernel
theorem dX12_isAlike_42 : decode cX12_isAlike 42 = .ok (.iconst 1, 1) := by decide +kernel
theorem dX12_isAlike_43 : decode cX12_isAlike 43 = .ok (.ireturn, 1) := by decide +kernel
theorem dX12_isAlike_44 : decode cX12_isAlike 44 = .ok (.iinc 3 1, 3) := by decide +kernel
theorem dX12_isAlike_47 : decode cX12_isAlike 47 = .ok (.goto (-44), 3) := by decide +kernel
theorem dX12_isAlike_50 : decode cX12_isAlike 50 = .ok (.iconst 0, 1) := by decide +kernel
theorem dX12_isAlike_51 : decode cX12_isAlike 51 = .ok (.ireturn, 1) := by decide +kernel
def E_X12_isAlike_l3 (h : KH) (v0 : Nat) (v1 : Int32) (v2 : Int32) : ((Unit) ⊕ (Int32)) → Nat → List (Nat × Value) → List Value → KH → Prop := Sum.elim (fun (e : Unit) pc ls st hh => pc = 50 ∧ ls = [] ∧ st = [] ∧ h = hh) (fun o => (KRz cX12_isAlike o h))
def B_X12_isAlike_l3 (h : KH) (v0 : Nat) (v1 : Int32) (v2 : Int32) : ((Int32) ⊕ ((Unit) ⊕ (Int32))) → Nat → List (Nat × Value) → List Value → KH → Prop := Sum.elim (fun (s : Int32) pc ls st hh => pc = 3 ∧ ls = [(0, .ref v0), (1, .int v1), (2, .int v2), (3, .int s)] ∧ st = [] ∧ hh = h) (E_X12_isAlike_l3 h v0 v1 v2)
def f_X12_isAlike_b44 (h : KH) (v0 : Nat) (v1 : Int32) (v2 : Int32) (v3 : Int32) : Option ((Int32) ⊕ ((Unit) ⊕ (Int32))) :=
  kl (v3 + (1 : Int32)) fun x1 =>
  some (.inl x1)
set_option maxHeartbeats 4000000 in
set_option maxRecDepth 100000 in
theorem s_X12_isAlike_b44 {Z : Nat → (Nat → Nat) → State → Prop} (h : KH) (v0 : Nat) (v1 : Int32) (v2 : Int32) (v3 : Int32) {t : (Int32) ⊕ ((Unit) ⊕ (Int32))} (hn : h.1 = 243) (H : f_X12_isAlike_b44 h v0 v1 v2 v3 = some t) : KX Z RX12 cX12_isAlike 4 false 1 (B_X12_isAlike_l3 h v0 v1 v2 t) 44 [(0, .ref v0), (1, .int v1), (2, .int v2), (3, .int v3)] [] h := by
  unfold f_X12_isAlike_b44 at H
  replace H := kle H; obtain ⟨x1, q2, H⟩ := H
  refine x_iinc (q := 47) (i := 3) (ls2 := [(3, .int x1), (0, .ref v0), (1, .int v1), (2, .int v2)]) dX12_isAlike_44 rfl rfl (by decide) (by rw [q2]; rfl) ?_
  refine x_goto dX12_isAlike_47 (q := 3) (by decide) ?_
  cases H
  refine x_sub (ls2 := [(0, .ref v0), (1, .int v1), (2, .int v2), (3, .int x1)]) [1, 2, 3, 0] rfl ?_
  exact x_end (x_cfg rfl)
def f_X12_isAlike_l3 (h : KH) (v0 : Nat) (v1 : Int32) (v2 : Int32) (s : Int32) : Option ((Int32) ⊕ ((Unit) ⊕ (Int32))) :=
  if (72 : Int32) ≤ s then
  some (.inr (.inl ()))
  else
  if kkind v0 = 12 then if (kR h v0 54) < 999999 then if kkind (kR h v0 54) = 21 then if (s < 0 ∨ klen (kR h v0 54) ≤ (s).toNatClampNeg) then none else if (lg_cmp (kL h (kR h v0 54) ((s).toNatClampNeg)) (0 : Int64)) ≤ 0 then
  f_X12_isAlike_b44 h v0 v1 v2 s
  else
  if (kR h v0 55) < 999999 then if kkind (kR h v0 55) = 20 then if (s < 0 ∨ klen (kR h v0 55) ≤ (s).toNatClampNeg) then none else if (v1 < 0 ∨ klen (kR h v0 55) ≤ (v1).toNatClampNeg) then none else if ((((kI h (kR h v0 55) ((s).toNatClampNeg)) ^^^ (kI h (kR h v0 55) ((v1).toNatClampNeg))) >>> (((2 : Int32) * v2) &&& 31)) &&& (3 : Int32)) = 0 then
  kout2 (some (1 : Int32))
  else
  f_X12_isAlike_b44 h v0 v1 v2 s else none else none else none else none else none
set_option maxHeartbeats 4000000 in
set_option maxRecDepth 100000 in
theorem s_X12_isAlike_l3 {Z : Nat → (Nat → Nat) → State → Prop} (h : KH) (v0 : Nat) (v1 : Int32) (v2 : Int32) (s : Int32) (t : (Int32) ⊕ ((Unit) ⊕ (Int32))) (hn : (h).1 = 243) (H : f_X12_isAlike_l3 h v0 v1 v2 s = some t) : KX Z RX12 cX12_isAlike 4 false 1 (B_X12_isAlike_l3 h v0 v1 v2 t) 3 [(0, .ref v0), (1, .int v1), (2, .int v2), (3, .int s)] [] h := by
  unfold f_X12_isAlike_l3 at H
  refine x_iload_n (q := 4) dX12_isAlike_3 rfl rfl ?_
  refine x_bipush (q := 6) (v := (72 : Int32)) dX12_isAlike_4 rfl (by decide) ?_
  replace H := kite H; rcases H with ⟨g1, H⟩ | ⟨g1, H⟩
  · refine x_icmp_ge_t dX12_isAlike_6 (q := 50) (by decide) g1 ?_
    cases H
    refine x_sub (ls2 := []) [] rfl ?_
    exact x_end (x_cfg rfl)
  · refine x_icmp_ge_f (q := 9) dX12_isAlike_6 (t := 50) (by decide) rfl g1 ?_
    refine x_aload_n (q := 10) dX12_isAlike_9 rfl rfl ?_
    replace H := kif H; obtain ⟨g2, H⟩ := H
    replace H := kif H; obtain ⟨g3, H⟩ := H
    refine x_getR (q := 13) dX12_isAlike_10 rfl kl_RX12_133 rfl (k243 g2 (by decide) hn) g3 ?_
    refine x_iload_n (q := 14) dX12_isAlike_13 rfl rfl ?_
    replace H := kif H; obtain ⟨g4, H⟩ := H
    replace H := kifn H; obtain ⟨g5, H⟩ := H
    refine x_lald (q := 15) dX12_isAlike_14 rfl (k243 g4 (by decide) hn) g5 ?_
    refine x_lconst (q := 16) (v := (0 : Int64)) dX12_isAlike_15 rfl (by decide) ?_
    refine x_lcmp (q := 17) dX12_isAlike_16 rfl ?_
    replace H := kite H; rcases H with ⟨g6, H⟩ | ⟨g6, H⟩
    · refine x_if_le_t dX12_isAlike_17 (q := 44) (by decide) g6 ?_
      refine x_sub (ls2 := [(0, .ref v0), (1, .int v1), (2, .int v2), (3, .int s)]) [0, 1, 2, 3] rfl ?_
      exact s_X12_isAlike_b44 h v0 v1 v2 s hn H
    · refine x_if_le_f (q := 20) dX12_isAlike_17 (t := 44) (by decide) rfl g6 ?_
      refine x_aload_n (q := 21) dX12_isAlike_20 rfl rfl ?_
      replace H := kif H; obtain ⟨g7, H⟩ := H
      refine x_getR (q := 24) dX12_isAlike_21 rfl kl_RX12_136 rfl (k243 g2 (by decide) hn) g7 ?_
      refine x_iload_n (q := 25) dX12_isAlike_24 rfl rfl ?_
      replace H := kif H; obtain ⟨g8, H⟩ := H
      replace H := kifn H; obtain ⟨g9, H⟩ := H
      refine x_iald (q := 26) dX12_isAlike_25 rfl (k243 g8 (by decide) hn) g9 ?_
      refine x_aload_n (q := 27) dX12_isAlike_26 rfl rfl ?_
      refine x_getR (q := 30) dX12_isAlike_27 rfl kl_RX12_136 rfl (k243 g2 (by decide) hn) g7 ?_
      refine x_iload_n (q := 31) dX12_isAlike_30 rfl rfl ?_
      replace H := kifn H; obtain ⟨g10, H⟩ := H
      refine x_iald (q := 32) dX12_isAlike_31 rfl (k243 g8 (by decide) hn) g10 ?_
      refine x_ixor (q := 33) dX12_isAlike_32 rfl ?_
      refine x_iconst (q := 34) (v := (2 : Int32)) dX12_isAlike_33 rfl (by decide) ?_
      refine x_iload_n (q := 35) dX12_isAlike_34 rfl rfl ?_
      refine x_imul (q := 36) dX12_isAlike_35 rfl ?_
      refine x_ishr (q := 37) dX12_isAlike_36 rfl ?_
      refine x_iconst (q := 38) (v := (3 : Int32)) dX12_isAlike_37 rfl (by decide) ?_
      refine x_iand (q := 39) dX12_isAlike_38 rfl ?_
      replace H := kite H; rcases H with ⟨g11, H⟩ | ⟨g11, H⟩
      · refine x_if_ne_f (q := 42) dX12_isAlike_39 (t := 44) (by decide) rfl g11 ?_
        replace H := ko2e H; obtain ⟨o12, H, rfl⟩ := H
        refine x_iconst (q := 43) (v := (1 : Int32)) dX12_isAlike_42 rfl (by decide) ?_
        cases H
        exact x_end ⟨(Or.inr rfl), dX12_isAlike_43, rfl, rfl⟩
      · refine x_if_ne_t dX12_isAlike_39 (q := 44) (by decide) g11 ?_
        refine x_sub (ls2 := [(0, .ref v0), (1, .int v1), (2, .int v2), (3, .int s)]) [0, 1, 2, 3] rfl ?_
        exact s_X12_isAlike_b44 h v0 v1 v2 s hn H
theorem sl_X12_isAlike_l3 {Z : Nat → (Nat → Nat) → State → Prop} (h : KH) (v0 : Nat) (v1 : Int32) (v2 : Int32) (n : Nat) (s : Int32) (r : (Unit) ⊕ (Int32)) (hn : (h).1 = 243) (H : kloop (f_X12_isAlike_l3 h v0 v1 v2) n s = some r) : KX Z RX12 cX12_isAlike 4 false 1 (E_X12_isAlike_l3 h v0 v1 v2 r) 3 [(0, .ref v0), (1, .int v1), (2, .int v2), (3, .int s)] [] h :=
  k_loop (ls := (fun (s : Int32) => ([(0, .ref v0), (1, .int v1), (2, .int v2), (3, .int s)] : List (Nat × Value)))) (hp := (fun (s : Int32) => (h : KH))) (G := E_X12_isAlike_l3 h v0 v1 v2) (fun s t hn H => s_X12_isAlike_l3 h v0 v1 v2 s t hn H) n s r hn H
def f_X12_isAlike (h : KH) (v0 : Nat) (v1 : Int32) (v2 : Int32) : Option (Int32) :=
  kb (kloop (f_X12_isAlike_l3 h v0 v1 v2) KF (36 : Int32)) fun e1 =>
  ksum e1 (fun x4 =>
  some (0 : Int32)) (fun o5 => some o5)
set_option maxHeartbeats 4000000 in
set_option maxRecDepth 100000 in
theorem s0_X12_isAlike {Z : Nat → (Nat → Nat) → State → Prop} (h : KH) (v0 : Nat) (v1 : Int32) (v2 : Int32) {t : Int32} (hn : h.1 = 243) (H : f_X12_isAlike h v0 v1 v2 = some t) : KX Z RX12 cX12_isAlike 4 false 1 (KRz cX12_isAlike t h) 0 [(0, .ref v0), (1, .int v1), (2, .int v2)] [] h := by
  unfold f_X12_isAlike at H
  refine x_bipush (q := 2) (v := (36 : Int32)) dX12_isAlike_0 rfl (by decide) ?_
  refine x_istore_n (q := 3) (i := 3) (ls2 := [(3, .int (36 : Int32)), (0, .ref v0), (1, .int v1), (2, .int v2)]) dX12_isAlike_2 rfl rfl (by decide) rfl ?_
  refine x_sub (ls2 := [(0, .ref v0), (1, .int v1), (2, .int v2), (3, .int (36 : Int32))]) [1, 2, 3, 0] rfl ?_
  replace H := kbe H; obtain ⟨e1, c2, H⟩ := H
  refine x_app (sl_X12_isAlike_l3 h v0 v1 v2 KF (36 : Int32) e1 hn c2) fun pc2 ls2 st2 h2 hg m3 => ?_
  replace H := kse H; rcases H with ⟨x4, rfl, H⟩ | ⟨o5, rfl, H⟩
  · obtain ⟨rfl, rfl, rfl, rfl⟩ := hg
    refine x_iconst (q := 51) (v := (0 : Int32)) dX12_isAlike_50 rfl (by decide) ?_
    cases H
    exact x_end ⟨(Or.inl rfl), dX12_isAlike_51, rfl, rfl⟩
  · cases H
    exact x_end hg
theorem s_X12_isAlike {Z : Nat → (Nat → Nat) → State → Prop} (h : KH) (v0 : Nat) (v1 : Int32) (v2 : Int32) {t : Int32} (hn : h.1 = 243) (H : f_X12_isAlike h v0 v1 v2 = some t) : KM Z yX12_isAlike cX12_isAlike 4 (some .boolean) 1 [.ref v0, .int v1, .int v2] h (some (.int t)) h :=
  kx_z (own := RX12) (ini := false) (by decide +kernel) (by decide +kernel) rfl (Nat.le_of_ble_eq_true rfl) (s0_X12_isAlike h v0 v1 v2 hn H)
theorem dX12_parts_0 : decode cX12_parts 0 = .ok (.aload_n 0, 1) := by decide +kernel
theorem dX12_parts_1 : decode cX12_parts 1 = .ok (.iload_n 1, 1) := by decide +kernel
theorem dX12_parts_2 : decode cX12_parts 2 = .ok (.invokevirtual 473, 3) := by decide +kernel
theorem dX12_parts_5 : decode cX12_parts 5 = .ok (.ifCond .eq 23, 3) := by decide +kernel
theorem dX12_parts_8 : decode cX12_parts 8 = .ok (.aload_n 0, 1) := by decide +kernel
theorem dX12_parts_9 : decode cX12_parts 9 = .ok (.iload_n 1, 1) := by decide +kernel
theorem dX12_parts_10 : decode cX12_parts 10 = .ok (.invokevirtual 400, 3) := by decide +kernel
theorem dX12_parts_13 : decode cX12_parts 13 = .ok (.ifCond .ne 15, 3) := by decide +kernel
theorem dX12_parts_16 : decode cX12_parts 16 = .ok (.iload_n 2, 1) := by decide +kernel
theorem dX12_parts_17 : decode cX12_parts 17 = .ok (.i2l, 1) := by decide +kernel
theorem dX12_parts_18 : decode cX12_parts 18 = .ok (.lconst 0, 1) := by decide +kernel
theorem dX12_parts_19 : decode cX12_parts 19 = .ok (.ldc2_w 464, 3) := by decide +kernel
theorem dX12_parts_22 : decode cX12_parts 22 = .ok (.invokestatic 270, 3) := by decide +kernel
theorem dX12_parts_25 : decode cX12_parts 25 = .ok (.ifCond .ne 5, 3) := by decide +kernel
theorem dX12_parts_28 : decode cX12_parts 28 = .ok (.iconst (-1), 1) := by decide +kernel
theorem dX12_parts_29 : decode cX12_parts 29 = .ok (.ireturn, 1) := by decide +kernel
theorem dX12_parts_30 : decode cX12_parts 30 = .ok (.aload_n 0, 1) := by decide +kernel
theorem dX12_parts_31 : decode cX12_parts 31 = .ok (.iconst 0, 1) := by decide +kernel
theorem dX12_parts_32 : decode cX12_parts 32 = .ok (.invokevirtual 478, 3) := by decide +kernel
theorem dX12_parts_35 : decode cX12_parts 35 = .ok (.iconst (-1), 1) := by decide +kernel
theorem dX12_parts_36 : decode cX12_parts 36 = .ok (.istore_n 3, 1) := by decide +kernel
theorem dX12_parts_37 : decode cX12_parts 37 = .ok (.iconst 0, 1) := by decide +kernel
theorem dX12_parts_38 : decode cX12_parts 38 = .ok (.istore 4, 2) := by decide +kernel
theorem dX12_parts_40 : decode cX12_parts 40 = .ok (.iload 4, 2) := by decide +kernel
theorem dX12_parts_42 : decode cX12_parts 42 = .ok (.bipush 36, 2) := by decide +kernel
theorem dX12_parts_44 : decode cX12_parts 44 = .ok (.if_icmp .ge 39, 3) := by decide +kernel
theorem dX12_parts_47 : decode cX12_parts 47 = .ok (.iload_n 3, 1) := by decide +kernel
theorem dX12_parts_48 : decode cX12_parts 48 = .ok (.iconst (-1), 1) := by decide +kernel
theorem dX12_parts_49 : decode cX12_parts 49 = .ok (.if_icmp .ne 34, 3) := by decide +kernel
theorem dX12_parts_52 : decode cX12_parts 52 = .ok (.aload_n 0, 1) := by decide +kernel
theorem dX12_parts_53 : decode cX12_parts 53 = .ok (.getfield 133, 3) := by decide +kernel
theorem dX12_parts_56 : decode cX12_parts 56 = .ok (.iload 4, 2) := by decide +kernel
theorem dX12_parts_58 : decode cX12_parts 58 = .ok (.laload, 1) := by decide +kernel
theorem dX12_parts_59 : decode cX12_parts 59 = .ok (.lconst 0, 1) := by decide +kernel
theorem dX12_parts_60 : decode cX12_parts 60 = .ok (.lcmp, 1) := by decide +kernel
theorem dX12_parts_61 : decode cX12_parts 61 = .ok (.ifCond .le 16, 3) := by decide +kernel
theorem dX12_parts_64 : decode cX12_parts 64 = .ok (.aload_n 0, 1) := by decide +kernel
theorem dX12_parts_65 : decode cX12_parts 65 = .ok (.iload 4, 2) := by decide +kernel
theorem dX12_parts_67 : decode cX12_parts 67 = .ok (.iload_n 1, 1) := by decide +kernel
theorem dX12_parts_68 : decode cX12_parts 68 = .ok (.invokevirtual 488, 3) := by decide +kernel
theorem dX12_parts_71 : decode cX12_parts 71 = .ok (.ifCond .eq 6, 3) := by decide +kernel
theorem dX12_parts_74 : decode cX12_parts 74 = .ok (.iload 4, 2) := by decide +kernel
theorem dX12_parts_76 : decode cX12_parts 76 = .ok (.istore_n 3, 1) := by decide +kernel
theorem dX12_parts_77 : decode cX12_parts 77 = .ok (.iinc 4 1, 3) := by decide +kernel
theorem dX12_parts_80 : decode cX12_parts 80 = .ok (.goto (-40), 3) := by decide +kernel
theorem dX12_parts_83 : decode cX12_parts 83 = .ok (.iload_n 2, 1) := by decide +kernel
theorem dX12_parts_84 : decode cX12_parts 84 = .ok (.ifCond .ne 16, 3) := by decide +kernel
theorem dX12_parts_87 : decode cX12_parts 87 = .ok (.iload_n 3, 1) := by decide +kernel
theorem dX12_parts_88 : decode cX12_parts 88 = .ok (.iconst (-1), 1) := by decide +kernel
theorem dX12_parts_89 : decode cX12_parts 89 = .ok (.if_icmp .ne 7, 3) := by decide +kernel
theorem dX12_parts_92 : decode cX12_parts 92 = .ok (.iconst 1, 1) := by decide +kernel
theorem dX12_parts_93 : decode cX12_parts 93 = .ok (.goto 23, 3) := by decide +kernel
theorem dX12_parts_96 : decode cX12_parts 96 = .ok (.iconst 0, 1) := by decide +kernel
theorem dX12_parts_97 : decode cX12_parts 97 = .ok (.goto 19, 3) := by decide +kernel
theorem dX12_parts_100 : decode cX12_parts 100 = .ok (.iload_n 3, 1) := by decide +kernel
theorem dX12_parts_101 : decode cX12_parts 101 = .ok (.iconst (-1), 1) := by decide +kernel
theorem dX12_parts_102 : decode cX12_parts 102 = .ok (.if_icmp .ne 7, 3) := by decide +kernel
theorem dX12_parts_105 : decode cX12_parts 105 = .ok (.iconst (-1), 1) := by decide +kernel
theorem dX12_parts_106 : decode cX12_parts 106 = .ok (.goto 10, 3) := by decide +kernel
theorem dX12_parts_109 : decode cX12_parts 109 = .ok (.iload_n 3, 1) := by decide +kernel
theorem dX12_parts_110 : decode cX12_parts 110 = .ok (.iload_n 2, 1) := by decide +kernel
theorem dX12_parts_111 : decode cX12_parts 111 = .ok (.iconst 1, 1) := by decide +kernel
theorem dX12_parts_112 : decode cX12_parts 112 = .ok (.isub, 1) := by decide +kernel
theorem dX12_parts_113 : decode cX12_parts 113 = .ok (.invokestatic 397, 3) := by decide +kernel
theorem dX12_parts_116 : decode cX12_parts 116 = .ok (.ireturn, 1) := by decide +kernel
theorem kc_RX12_488 : Cond.methodLink RX12 488 yX12_isAlike ∈ ktG ∧ (Cond.instanceMethod yX12_isAlike ∈ ktG ∧ Cond.selects yX12_isAlike.cls yX12_isAlike yX12_isAlike ∈ ktG) ∧ Cond.initialized yX12_isAlike.cls ∈ ktG ∧ Cond.code yX12_isAlike cX12_isAlike 4 (some .boolean) ∈ ktG := ⟨(kwm 1857 (by decide +kernel) (by decide +kernel)), ⟨(kwm 1859 (by decide +kernel) (by decide +kernel)), (kwm 100 (by decide +kernel) (by decide +kernel))⟩, (kwm 139 (by decide +kernel) (by decide +kernel)), kwm 1860 (by decide +kernel) (by decide +kernel)⟩
theorem kh_X12_isAlike : yX12_isAlike.cls ≠ "java/lang/invoke/MethodHandle" ∧ yX12_isAlike.cls ≠ "java/lang/invoke/VarHandle" ∧ (parseMethodDescriptor yX12_isAlike.desc).map (fun d => d.parameters.length) = some 2 := by decide +kernel
def E_X12_parts_l40 (h : KH) (v0 : Nat) (v1 : Int32) (v2 : Int32) : Int32 → Nat → List (Nat × Value) → List Value → KH → Prop := fun (e : Int32) pc ls st hh => pc = 83 ∧ ls = [(2, .int v2), (3, .int e)] ∧ st = [] ∧ h = hh
def B_X12_parts_l40 (h : KH) (v0 : Nat) (v1 : Int32) (v2 : Int32) : ((Int32 × Int32) ⊕ (Int32)) → Nat → List (Nat × Value) → List Value → KH → Prop := Sum.elim (fun (s : Int32 × Int32) pc ls st hh => pc = 40 ∧ ls = [(0, .ref v0), (1, .int v1), (2, .int v2), (3, .int s.1), (4, .int s.2)] ∧ st = [] ∧ hh = h) (E_X12_parts_l40 h v0 v1 v2)
def f_X12_parts_b77 (h : KH) (v0 : Nat) (v1 : Int32) (v2 : Int32) (v3 : Int32) (v4 : Int32) : Option ((Int32 × Int32) ⊕ (Int32)) :=
  kl (v4 + (1 : Int32)) fun x1 =>
  some (.inl (v3, x1))
set_option maxHeartbeats 4000000 in
set_option maxRecDepth 100000 in
theorem s_X12_parts_b77 {Z : Nat → (Nat → Nat) → State → Prop} (h : KH) (v0 : Nat) (v1 : Int32) (v2 : Int32) (v3 : Int32) (v4 : Int32) {t : (Int32 × Int32) ⊕ (Int32)} (hn : h.1 = 243) (H : f_X12_parts_b77 h v0 v1 v2 v3 v4 = some t) : KX Z RX12 cX12_parts 5 false 6 (B_X12_parts_l40 h v0 v1 v2 t) 77 [(0, .ref v0), (1, .int v1), (2, .int v2), (3, .int v3), (4, .int v4)] [] h := by
  unfold f_X12_parts_b77 at H
  replace H := kle H; obtain ⟨x1, q2, H⟩ := H
  refine x_iinc (q := 80) (i := 4) (ls2 := [(4, .int x1), (0, .ref v0), (1, .int v1), (2, .int v2), (3, .int v3)]) dX12_parts_77 rfl rfl (by decide) (by rw [q2]; rfl) ?_
  refine x_goto dX12_parts_80 (q := 40) (by decide) ?_
  cases H
  refine x_sub (ls2 := [(0, .ref v0), (1, .int v1), (2, .int v2), (3, .int v3), (4, .int x1)]) [1, 2, 3, 4, 0] rfl ?_
  exact x_end (x_cfg rfl)
def f_X12_parts_l40 (h : KH) (v0 : Nat) (v1 : Int32) (v2 : Int32) (s : Int32 × Int32) : Option ((Int32 × Int32) ⊕ (Int32)) :=
  if (36 : Int32) ≤ s.2 then
  some (.inr s.1)
  else
  if s.1 = (-1 : Int32) then
  if kkind v0 = 12 then if (kR h v0 54) < 999999 then if kkind (kR h v0 54) = 21 then if (s.2 < 0 ∨ klen (kR h v0 54) ≤ (s.2).toNatClampNeg) then none else if (lg_cmp (kL h (kR h v0 54) ((s.2).toNatClampNeg)) (0 : Int64)) ≤ 0 then
  f_X12_parts_b77 h v0 v1 v2 s.1 s.2
  else
  kb (f_X12_isAlike h v0 s.2 v1) fun r8 =>
  if r8 = 0 then
  f_X12_parts_b77 h v0 v1 v2 s.1 s.2
  else
  f_X12_parts_b77 h v0 v1 v2 s.2 s.2 else none else none else none
  else
  some (.inr s.1)
set_option maxHeartbeats 4000000 in
set_option maxRecDepth 100000 in
theorem s_X12_parts_l40 {Z : Nat → (Nat → Nat) → State → Prop} (h : KH) (v0 : Nat) (v1 : Int32) (v2 : Int32) (s : Int32 × Int32) (t : (Int32 × Int32) ⊕ (Int32)) (hn : (h).1 = 243) (H : f_X12_parts_l40 h v0 v1 v2 s = some t) : KX Z RX12 cX12_parts 5 false 6 (B_X12_parts_l40 h v0 v1 v2 t) 40 [(0, .ref v0), (1, .int v1), (2, .int v2), (3, .int s.1), (4, .int s.2)] [] h := by
  unfold f_X12_parts_l40 at H
  refine x_iload (q := 42) dX12_parts_40 rfl rfl ?_
  refine x_bipush (q := 44) (v := (36 : Int32)) dX12_parts_42 rfl (by decide) ?_
  replace H := kite H; rcases H with ⟨g1, H⟩ | ⟨g1, H⟩
  · refine x_icmp_ge_t dX12_parts_44 (q := 83) (by decide) g1 ?_
    cases H
    refine x_sub (ls2 := [(2, .int v2), (3, .int s.1)]) [2, 3] rfl ?_
    exact x_end (x_cfg rfl)
  · refine x_icmp_ge_f (q := 47) dX12_parts_44 (t := 83) (by decide) rfl g1 ?_
    refine x_iload_n (q := 48) dX12_parts_47 rfl rfl ?_
    refine x_iconst (q := 49) (v := (-1 : Int32)) dX12_parts_48 rfl (by decide) ?_
    replace H := kite H; rcases H with ⟨g2, H⟩ | ⟨g2, H⟩
    · refine x_icmp_ne_f (q := 52) dX12_parts_49 (t := 83) (by decide) rfl g2 ?_
      refine x_aload_n (q := 53) dX12_parts_52 rfl rfl ?_
      replace H := kif H; obtain ⟨g3, H⟩ := H
      replace H := kif H; obtain ⟨g4, H⟩ := H
      refine x_getR (q := 56) dX12_parts_53 rfl kl_RX12_133 rfl (k243 g3 (by decide) hn) g4 ?_
      refine x_iload (q := 58) dX12_parts_56 rfl rfl ?_
      replace H := kif H; obtain ⟨g5, H⟩ := H
      replace H := kifn H; obtain ⟨g6, H⟩ := H
      refine x_lald (q := 59) dX12_parts_58 rfl (k243 g5 (by decide) hn) g6 ?_
      refine x_lconst (q := 60) (v := (0 : Int64)) dX12_parts_59 rfl (by decide) ?_
      refine x_lcmp (q := 61) dX12_parts_60 rfl ?_
      replace H := kite H; rcases H with ⟨g7, H⟩ | ⟨g7, H⟩
      · refine x_if_le_t dX12_parts_61 (q := 77) (by decide) g7 ?_
        refine x_sub (ls2 := [(0, .ref v0), (1, .int v1), (2, .int v2), (3, .int s.1), (4, .int s.2)]) [0, 1, 2, 3, 4] rfl ?_
        exact s_X12_parts_b77 h v0 v1 v2 s.1 s.2 hn H
      · refine x_if_le_f (q := 64) dX12_parts_61 (t := 77) (by decide) rfl g7 ?_
        refine x_aload_n (q := 65) dX12_parts_64 rfl rfl ?_
        refine x_iload (q := 67) dX12_parts_65 rfl rfl ?_
        refine x_iload_n (q := 68) dX12_parts_67 rfl rfl ?_
        replace H := kbe H; obtain ⟨r8, c9, H⟩ := H
        have m10 := s_X12_isAlike (Z := Z) h v0 s.2 v1 hn c9
        refine x_callV (q := 71) (as := [.int s.2, .int v1]) (rest := []) dX12_parts_68 rfl kc_RX12_488 kh_X12_isAlike (by decide) (Nat.le_of_ble_eq_true rfl) m10 (ci := 12) (by exact ⟨rfl, by decide⟩) (k243 g3 (by decide) hn) ?_
        replace H := kite H; rcases H with ⟨g11, H⟩ | ⟨g11, H⟩
        · refine x_if_eq_t dX12_parts_71 (q := 77) (by decide) g11 ?_
          refine x_sub (ls2 := [(0, .ref v0), (1, .int v1), (2, .int v2), (3, .int s.1), (4, .int s.2)]) [0, 1, 2, 3, 4] rfl ?_
          exact s_X12_parts_b77 h v0 v1 v2 s.1 s.2 hn H
        · refine x_if_eq_f (q := 74) dX12_parts_71 (t := 77) (by decide) rfl g11 ?_
          refine x_iload (q := 76) dX12_parts_74 rfl rfl ?_
          refine x_istore_n (q := 77) (i := 3) (ls2 := [(3, .int s.2), (0, .ref v0), (1, .int v1), (2, .int v2), (4, .int s.2)]) dX12_parts_76 rfl rfl (by decide) rfl ?_
          refine x_sub (ls2 := [(0, .ref v0), (1, .int v1), (2, .int v2), (3, .int s.2), (4, .int s.2)]) [1, 2, 3, 0, 4] rfl ?_
          exact s_X12_parts_b77 h v0 v1 v2 s.2 s.2 hn H
    · refine x_icmp_ne_t dX12_parts_49 (q := 83) (by decide) g2 ?_
      cases H
      refine x_sub (ls2 := [(2, .int v2), (3, .int s.1)]) [2, 3] rfl ?_
      exact x_end (x_cfg rfl)
theorem sl_X12_parts_l40 {Z : Nat → (Nat → Nat) → State → Prop} (h : KH) (v0 : Nat) (v1 : Int32) (v2 : Int32) (n : Nat) (s : Int32 × Int32) (r : Int32) (hn : (h).1 = 243) (H : kloop (f_X12_parts_l40 h v0 v1 v2) n s = some r) : KX Z RX12 cX12_parts 5 false 6 (E_X12_parts_l40 h v0 v1 v2 r) 40 [(0, .ref v0), (1, .int v1), (2, .int v2), (3, .int s.1), (4, .int s.2)] [] h :=
  k_loop (ls := (fun (s : Int32 × Int32) => ([(0, .ref v0), (1, .int v1), (2, .int v2), (3, .int s.1), (4, .int s.2)] : List (Nat × Value)))) (hp := (fun (s : Int32 × Int32) => (h : KH))) (G := E_X12_parts_l40 h v0 v1 v2) (fun s t hn H => s_X12_parts_l40 h v0 v1 v2 s t hn H) n s r hn H
def f_X12_parts_b83 (h : KH) (v2 : Int32) (v3 : Int32) : Option (Int32 × KH) :=
  if v2 = 0 then
  if v3 = (-1 : Int32) then
  some ((1 : Int32), h)
  else
  some ((0 : Int32), h)
  else
  if v3 = (-1 : Int32) then
  some ((-1 : Int32), h)
  else
  kb (f_X12_kindIn h v3 (v2 - (1 : Int32))) fun r3 =>
  some (r3, h)
set_option maxHeartbeats 4000000 in
set_option maxRecDepth 100000 in
theorem s_X12_parts_b83 {Z : Nat → (Nat → Nat) → State → Prop} (h : KH) (v2 : Int32) (v3 : Int32) {t : Int32 × KH} (hn : h.1 = 243) (H : f_X12_parts_b83 h v2 v3 = some t) : KX Z RX12 cX12_parts 5 false 6 (KRi cX12_parts t.1 t.2) 83 [(2, .int v2), (3, .int v3)] [] h := by
  unfold f_X12_parts_b83 at H
  refine x_iload_n (q := 84) dX12_parts_83 rfl rfl ?_
  replace H := kite H; rcases H with ⟨g1, H⟩ | ⟨g1, H⟩
  · refine x_if_ne_f (q := 87) dX12_parts_84 (t := 100) (by decide) rfl g1 ?_
    refine x_iload_n (q := 88) dX12_parts_87 rfl rfl ?_
    refine x_iconst (q := 89) (v := (-1 : Int32)) dX12_parts_88 rfl (by decide) ?_
    replace H := kite H; rcases H with ⟨g6, H⟩ | ⟨g6, H⟩
    · refine x_icmp_ne_f (q := 92) dX12_parts_89 (t := 96) (by decide) rfl g6 ?_
      refine x_iconst (q := 93) (v := (1 : Int32)) dX12_parts_92 rfl (by decide) ?_
      refine x_goto dX12_parts_93 (q := 116) (by decide) ?_
      cases H
      exact x_end ⟨dX12_parts_116, rfl, rfl⟩
    · refine x_icmp_ne_t dX12_parts_89 (q := 96) (by decide) g6 ?_
      refine x_iconst (q := 97) (v := (0 : Int32)) dX12_parts_96 rfl (by decide) ?_
      refine x_goto dX12_parts_97 (q := 116) (by decide) ?_
      cases H
      exact x_end ⟨dX12_parts_116, rfl, rfl⟩
  · refine x_if_ne_t dX12_parts_84 (q := 100) (by decide) g1 ?_
    refine x_iload_n (q := 101) dX12_parts_100 rfl rfl ?_
    refine x_iconst (q := 102) (v := (-1 : Int32)) dX12_parts_101 rfl (by decide) ?_
    replace H := kite H; rcases H with ⟨g2, H⟩ | ⟨g2, H⟩
    · refine x_icmp_ne_f (q := 105) dX12_parts_102 (t := 109) (by decide) rfl g2 ?_
      refine x_iconst (q := 106) (v := (-1 : Int32)) dX12_parts_105 rfl (by decide) ?_
      refine x_goto dX12_parts_106 (q := 116) (by decide) ?_
      cases H
      exact x_end ⟨dX12_parts_116, rfl, rfl⟩
    · refine x_icmp_ne_t dX12_parts_102 (q := 109) (by decide) g2 ?_
      refine x_iload_n (q := 110) dX12_parts_109 rfl rfl ?_
      refine x_iload_n (q := 111) dX12_parts_110 rfl rfl ?_
      refine x_iconst (q := 112) (v := (1 : Int32)) dX12_parts_111 rfl (by decide) ?_
      refine x_isub (q := 113) dX12_parts_112 rfl ?_
      replace H := kbe H; obtain ⟨r3, c4, H⟩ := H
      have m5 := s_X12_kindIn (Z := Z) h v3 (v2 - (1 : Int32)) hn c4
      refine x_callS (q := 116) (as := [.int v3, .int (v2 - (1 : Int32))]) (rest := []) dX12_parts_113 rfl kc_RX12_397 kh_X12_kindIn (by decide) (Nat.le_of_ble_eq_true rfl) m5 ?_
      cases H
      exact x_end ⟨dX12_parts_116, rfl, rfl⟩
def f_X12_parts (h : KH) (v0 : Nat) (v1 : Int32) (v2 : Int32) : Option (Int32 × KH) :=
  if kkind v0 = 12 then kb (f_X12_isTest h v0 v1) fun r2 =>
  if r2 = 0 then
  some ((-1 : Int32), h)
  else
  kb (f_X12_stateOf h v0 v1) fun r6 =>
  if r6 = 0 then
  kb (f_X12_isIn h ((v2).toInt64) (0 : Int64) (2 : Int64)) fun r10 =>
  if r10 = 0 then
  some ((-1 : Int32), h)
  else
  kb (f_X12_laysWorlds h v0 (0 : Int32)) fun r14 =>
  kb (kloop (f_X12_parts_l40 r14 v0 v1 v2) KF ((-1 : Int32), (0 : Int32))) fun e18 =>
  f_X12_parts_b83 r14 v2 e18
  else
  some ((-1 : Int32), h) else none
set_option maxHeartbeats 4000000 in
set_option maxRecDepth 100000 in
theorem s0_X12_parts {Z : Nat → (Nat → Nat) → State → Prop} (h : KH) (v0 : Nat) (v1 : Int32) (v2 : Int32) {t : Int32 × KH} (hn : h.1 = 243) (H : f_X12_parts h v0 v1 v2 = some t) : KX Z RX12 cX12_parts 5 false 6 (KRi cX12_parts t.1 t.2) 0 [(0, .ref v0), (1, .int v1), (2, .int v2)] [] h := by
  unfold f_X12_parts at H
  refine x_aload_n (q := 1) dX12_parts_0 rfl rfl ?_
  refine x_iload_n (q := 2) dX12_parts_1 rfl rfl ?_
  replace H := kif H; obtain ⟨g1, H⟩ := H
  replace H := kbe H; obtain ⟨r2, c3, H⟩ := H
  have m4 := s_X12_isTest (Z := Z) h v0 v1 hn c3
  refine x_callV (q := 5) (as := [.int v1]) (rest := []) dX12_parts_2 rfl kc_RX12_473 kh_X12_isTest (by decide) (Nat.le_of_ble_eq_true rfl) m4 (ci := 12) (by exact ⟨rfl, by decide⟩) (k243 g1 (by decide) hn) ?_
  replace H := kite H; rcases H with ⟨g5, H⟩ | ⟨g5, H⟩
  · refine x_if_eq_t dX12_parts_5 (q := 28) (by decide) g5 ?_
    refine x_iconst (q := 29) (v := (-1 : Int32)) dX12_parts_28 rfl (by decide) ?_
    cases H
    exact x_end ⟨dX12_parts_29, rfl, rfl⟩
  · refine x_if_eq_f (q := 8) dX12_parts_5 (t := 28) (by decide) rfl g5 ?_
    refine x_aload_n (q := 9) dX12_parts_8 rfl rfl ?_
    refine x_iload_n (q := 10) dX12_parts_9 rfl rfl ?_
    replace H := kbe H; obtain ⟨r6, c7, H⟩ := H
    have m8 := s_X12_stateOf (Z := Z) h v0 v1 hn c7
    refine x_callV (q := 13) (as := [.int v1]) (rest := []) dX12_parts_10 rfl kc_RX12_400 kh_X12_stateOf (by decide) (Nat.le_of_ble_eq_true rfl) m8 (ci := 12) (by exact ⟨rfl, by decide⟩) (k243 g1 (by decide) hn) ?_
    replace H := kite H; rcases H with ⟨g9, H⟩ | ⟨g9, H⟩
    · refine x_if_ne_f (q := 16) dX12_parts_13 (t := 28) (by decide) rfl g9 ?_
      refine x_iload_n (q := 17) dX12_parts_16 rfl rfl ?_
      refine x_i2l (q := 18) dX12_parts_17 rfl ?_
      refine x_lconst (q := 19) (v := (0 : Int64)) dX12_parts_18 rfl (by decide) ?_
      refine x_ldc2 (q := 22) (v := (2 : Int64)) dX12_parts_19 rfl kk_RX12_464 ?_
      replace H := kbe H; obtain ⟨r10, c11, H⟩ := H
      have m12 := s_X12_isIn (Z := Z) h ((v2).toInt64) (0 : Int64) (2 : Int64) hn c11
      refine x_callS (q := 25) (as := [.long ((v2).toInt64), .long (0 : Int64), .long (2 : Int64)]) (rest := []) dX12_parts_22 rfl kc_RX12_270 kh_X12_isIn (by decide) (Nat.le_of_ble_eq_true rfl) m12 ?_
      replace H := kite H; rcases H with ⟨g13, H⟩ | ⟨g13, H⟩
      · refine x_if_ne_f (q := 28) dX12_parts_25 (t := 30) (by decide) rfl g13 ?_
        refine x_iconst (q := 29) (v := (-1 : Int32)) dX12_parts_28 rfl (by decide) ?_
        cases H
        exact x_end ⟨dX12_parts_29, rfl, rfl⟩
      · refine x_if_ne_t dX12_parts_25 (q := 30) (by decide) g13 ?_
        refine x_aload_n (q := 31) dX12_parts_30 rfl rfl ?_
        refine x_iconst (q := 32) (v := (0 : Int32)) dX12_parts_31 rfl (by decide) ?_
        replace H := kbe H; obtain ⟨r14, c15, H⟩ := H
        have m16 := s_X12_laysWorlds (Z := Z) h v0 (0 : Int32) hn c15
        refine x_callV (q := 35) (as := [.int (0 : Int32)]) (rest := []) dX12_parts_32 rfl kc_RX12_478 kh_X12_laysWorlds (by decide) (Nat.le_of_ble_eq_true rfl) m16 (ci := 12) (by exact ⟨rfl, by decide⟩) (k243 g1 (by decide) hn) ?_
        have n17 : (r14).1 = 243 := m16.1.full hn
        refine x_iconst (q := 36) (v := (-1 : Int32)) dX12_parts_35 rfl (by decide) ?_
        refine x_istore_n (q := 37) (i := 3) (ls2 := [(3, .int (-1 : Int32)), (0, .ref v0), (1, .int v1), (2, .int v2)]) dX12_parts_36 rfl rfl (by decide) rfl ?_
        refine x_iconst (q := 38) (v := (0 : Int32)) dX12_parts_37 rfl (by decide) ?_
        refine x_istore (q := 40) (i := 4) (ls2 := [(4, .int (0 : Int32)), (3, .int (-1 : Int32)), (0, .ref v0), (1, .int v1), (2, .int v2)]) dX12_parts_38 rfl (by decide) rfl ?_
        refine x_sub (ls2 := [(0, .ref v0), (1, .int v1), (2, .int v2), (3, .int (-1 : Int32)), (4, .int (0 : Int32))]) [2, 3, 4, 1, 0] rfl ?_
        replace H := kbe H; obtain ⟨e18, c19, H⟩ := H
        refine x_app (sl_X12_parts_l40 r14 v0 v1 v2 KF ((-1 : Int32), (0 : Int32)) e18 n17 c19) fun pc2 ls2 st2 h2 hg m20 => ?_
        obtain ⟨rfl, rfl, rfl, rfl⟩ := hg
        refine x_sub (ls2 := [(2, .int v2), (3, .int e18)]) [0, 1] rfl ?_
        exact s_X12_parts_b83 r14 v2 e18 n17 H
    · refine x_if_ne_t dX12_parts_13 (q := 28) (by decide) g9 ?_
      refine x_iconst (q := 29) (v := (-1 : Int32)) dX12_parts_28 rfl (by decide) ?_
      cases H
      exact x_end ⟨dX12_parts_29, rfl, rfl⟩
theorem s_X12_parts {Z : Nat → (Nat → Nat) → State → Prop} (h : KH) (v0 : Nat) (v1 : Int32) (v2 : Int32) {t : Int32 × KH} (hn : h.1 = 243) (H : f_X12_parts h v0 v1 v2 = some t) : KM Z yX12_parts cX12_parts 5 (some .int) 6 [.ref v0, .int v1, .int v2] h (some (.int t.1)) t.2 :=
  kx_i (own := RX12) (ini := false) (by decide +kernel) (by decide +kernel) rfl (Nat.le_of_ble_eq_true rfl) (s0_X12_parts h v0 v1 v2 hn H)
theorem dX12_sure_0 : decode cX12_sure 0 = .ok (.iload_n 1, 1) := by decide +kernel
theorem dX12_sure_1 : decode cX12_sure 1 = .ok (.i2l, 1) := by decide +kernel
theorem dX12_sure_2 : decode cX12_sure 2 = .ok (.lconst 0, 1) := by decide +kernel
theorem dX12_sure_3 : decode cX12_sure 3 = .ok (.lconst 1, 1) := by decide +kernel
theorem dX12_sure_4 : decode cX12_sure 4 = .ok (.invokestatic 270, 3) := by decide +kernel
theorem dX12_sure_7 : decode cX12_sure 7 = .ok (.ifCond .ne 5, 3) := by decide +kernel
theorem dX12_sure_10 : decode cX12_sure 10 = .ok (.iconst (-1), 1) := by decide +kernel
theorem dX12_sure_11 : decode cX12_sure 11 = .ok (.ireturn, 1) := by decide +kernel
theorem dX12_sure_12 : decode cX12_sure 12 = .ok (.aload_n 0, 1) := by decide +kernel
theorem dX12_sure_13 : decode cX12_sure 13 = .ok (.iconst 0, 1) := by decide +kernel
theorem dX12_sure_14 : decode cX12_sure 14 = .ok (.invokevirtual 478, 3) := by decide +kernel
theorem dX12_sure_17 : decode cX12_sure 17 = .ok (.aload_n 0, 1) := by decide +kernel
theorem dX12_sure_18 : decode cX12_sure 18 = .ok (.getfield 422, 3) := by decide +kernel
theorem dX12_sure_21 : decode cX12_sure 21 = .ok (.lconst 0, 1) := by decide +kernel
theorem dX12_sure_22 : decode cX12_sure 22 = .ok (.lcmp, 1) := by decide +kernel
theorem dX12_sure_23 : decode cX12_sure 23 = .ok (.ifCond .ne 5, 3) := by decide +kernel
theorem dX12_sure_26 : decode cX12_sure 26 = .ok (.iconst (-1), 1) := by decide +kernel
theorem dX12_sure_27 : decode cX12_sure 27 = .ok (.ireturn, 1) := by decide +kernel
theorem dX12_sure_28 : decode cX12_sure 28 = .ok (.aload_n 0, 1) := by decide +kernel
theorem dX12_sure_29 : decode cX12_sure 29 = .ok (.invokevirtual 455, 3) := by decide +kernel
theorem dX12_sure_32 : decode cX12_sure 32 = .ok (.istore_n 2, 1) := by decide +kernel
theorem dX12_sure_33 : decode cX12_sure 33 = .ok (.iconst (-1), 1) := by decide +kernel
theorem dX12_sure_34 : decode cX12_sure 34 = .ok (.istore_n 3, 1) := by decide +kernel
theorem dX12_sure_35 : decode cX12_sure 35 = .ok (.iconst 0, 1) := by decide +kernel
theorem dX12_sure_36 : decode cX12_sure 36 = .ok (.istore 4, 2) := by decide +kernel
theorem dX12_sure_38 : decode cX12_sure 38 = .ok (.iload 4, 2) := by decide +kernel
theorem dX12_sure_40 : decode cX12_sure 40 = .ok (.iload_n 2, 1) := by decide +kernel
theorem dX12_sure_41 : decode cX12_sure 41 = .ok (.if_icmp .gt 86, 3) := by decide +kernel
theorem dX12_sure_44 : decode cX12_sure 44 = .ok (.iload 4, 2) := by decide +kernel
theorem dX12_sure_46 : decode cX12_sure 46 = .ok (.iload_n 2, 1) := by decide +kernel
theorem dX12_sure_47 : decode cX12_sure 47 = .ok (.iconst (-1), 1) := by decide +kernel
theorem dX12_sure_48 : decode cX12_sure 48 = .ok (.ixor, 1) := by decide +kernel
theorem dX12_sure_49 : decode cX12_sure 49 = .ok (.iand, 1) := by decide +kernel
theorem dX12_sure_50 : decode cX12_sure 50 = .ok (.ifCond .ne 71, 3) := by decide +kernel
theorem dX12_sure_53 : decode cX12_sure 53 = .ok (.aload_n 0, 1) := by decide +kernel
theorem dX12_sure_54 : decode cX12_sure 54 = .ok (.iload 4, 2) := by decide +kernel
theorem dX12_sure_56 : decode cX12_sure 56 = .ok (.invokevirtual 438, 3) := by decide +kernel
theorem dX12_sure_59 : decode cX12_sure 59 = .ok (.aload_n 0, 1) := by decide +kernel
theorem dX12_sure_60 : decode cX12_sure 60 = .ok (.getfield 422, 3) := by decide +kernel
theorem dX12_sure_63 : decode cX12_sure 63 = .ok (.lcmp, 1) := by decide +kernel
theorem dX12_sure_64 : decode cX12_sure 64 = .ok (.ifCond .eq 6, 3) := by decide +kernel
theorem dX12_sure_67 : decode cX12_sure 67 = .ok (.goto 54, 3) := by decide +kernel
theorem dX12_sure_70 : decode cX12_sure 70 = .ok (.iload_n 3, 1) := by decide +kernel
theorem dX12_sure_71 : decode cX12_sure 71 = .ok (.iconst (-1), 1) := by decide +kernel
theorem dX12_sure_72 : decode cX12_sure 72 = .ok (.if_icmp .eq 46, 3) := by decide +kernel
theorem dX12_sure_75 : decode cX12_sure 75 = .ok (.aload_n 0, 1) := by decide +kernel
theorem dX12_sure_76 : decode cX12_sure 76 = .ok (.iload 4, 2) := by decide +kernel
theorem dX12_sure_78 : decode cX12_sure 78 = .ok (.invokevirtual 446, 3) := by decide +kernel
theorem dX12_sure_81 : decode cX12_sure 81 = .ok (.aload_n 0, 1) := by decide +kernel
theorem dX12_sure_82 : decode cX12_sure 82 = .ok (.iload_n 3, 1) := by decide +kernel
theorem dX12_sure_83 : decode cX12_sure 83 = .ok (.invokevirtual 446, 3) := by decide +kernel
theorem dX12_sure_86 : decode cX12_sure 86 = .ok (.if_icmp .gt 35, 3) := by decide +kernel
theorem dX12_sure_89 : decode cX12_sure 89 = .ok (.aload_n 0, 1) := by decide +kernel
theorem dX12_sure_90 : decode cX12_sure 90 = .ok (.iload 4, 2) := by decide +kernel
theorem dX12_sure_92 : decode cX12_sure 92 = .ok (.invokevirtual 446, 3) := by decide +kernel
theorem dX12_sure_95 : decode cX12_sure 95 = .ok (.aload_n 0, 1) := by decide +kernel
theorem dX12_sure_96 : decode cX12_sure 96 = .ok (.iload_n 3, 1) := by decide +kernel
theorem dX12_sure_97 : decode cX12_sure 97 = .ok (.invokevirtual 446, 3) := by decide +kernel
theorem dX12_sure_100 : decode cX12_sure 100 = .ok (.if_icmp .ne 18, 3) := by decide +kernel
theorem dX12_sure_103 : decode cX12_sure 103 = .ok (.iload 4, 2) := by decide +kernel
theorem dX12_sure_105 : decode cX12_sure 105 = .ok (.invokestatic 452, 3) := by decide +kernel
theorem dX12_sure_108 : decode cX12_sure 108 = .ok (.iload_n 3, 1) := by decide +kernel
theorem dX12_sure_109 : decode cX12_sure 109 = .ok (.invokestatic 452, 3) := by decide +kernel
theorem dX12_sure_112 : decode cX12_sure 112 = .ok (.if_icmp .lt 6, 3) := by decide +kernel
theorem dX12_sure_115 : decode cX12_sure 115 = .ok (.goto 6, 3) := by decide +kernel
theorem dX12_sure_118 : decode cX12_sure 118 = .ok (.iload 4, 2) := by decide +kernel
theorem dX12_sure_120 : decode cX12_sure 120 = .ok (.istore_n 3, 1) := by decide +kernel
theorem dX12_sure_121 : decode cX12_sure 121 = .ok (.iinc 4 1, 3) := by decide +kernel
theorem dX12_sure_124 : decode cX12_sure 124 = .ok (.goto (-86), 3) := by decide +kernel
theorem dX12_sure_127 : decode cX12_sure 127 = .ok (.iload_n 3, 1) := by decide +kernel
theorem dX12_sure_128 : decode cX12_sure 128 = .ok (.iconst (-1), 1) := by decide +kernel
theorem dX12_sure_129 : decode cX12_sure 129 = .ok (.if_icmp .ne 7, 3) := by decide +kernel
theorem dX12_sure_132 : decode cX12_sure 132 = .ok (.iconst (-1), 1) := by decide +kernel
theorem dX12_sure_133 : decode cX12_sure 133 = .ok (.goto 16, 3) := by decide +kernel
theorem dX12_sure_136 : decode cX12_sure 136 = .ok (.iload_n 1, 1) := by decide +kernel
theorem dX12_sure_137 : decode cX12_sure 137 = .ok (.ifCond .ne 7, 3) := by decide +kernel
theorem dX12_sure_140 : decode cX12_sure 140 = .ok (.iload_n 3, 1) := by decide +kernel
theorem dX12_sure_141 : decode cX12_sure 141 = .ok (.goto 8, 3) := by decide +kernel
theorem dX12_sure_144 : decode cX12_sure 144 = .ok (.aload_n 0, 1) := by decide +kernel
theorem dX12_sure_145 : decode cX12_sure 145 = .ok (.iload_n 3, 1) := by decide +kernel
theorem dX12_sure_146 : decode cX12_sure 146 = .ok (.invokevirtual 446, 3) := by decide +kernel
theorem dX12_sure_149 : decode cX12_sure 149 = .ok (.ireturn, 1) := by decide +kernel
def E_X12_sure_l38 (v0 : Nat) (v1 : Int32) (v2 : Int32) : Int32 × KH → Nat → List (Nat × Value) → List Value → KH → Prop := fun (e : Int32 × KH) pc ls st hh => pc = 127 ∧ ls = [(0, .ref v0), (1, .int v1), (3, .int e.1)] ∧ st = [] ∧ e.2 = hh
def B_X12_sure_l38 (v0 : Nat) (v1 : Int32) (v2 : Int32) : ((Int32 × Int32 × KH) ⊕ (Int32 × KH)) → Nat → List (Nat × Value) → List Value → KH → Prop := Sum.elim (fun (s : Int32 × Int32 × KH) pc ls st hh => pc = 38 ∧ ls = [(0, .ref v0), (1, .int v1), (2, .int v2), (3, .int s.1), (4, .int s.2.1)] ∧ st = [] ∧ hh = s.2.2) (E_X12_sure_l38 v0 v1 v2)
def f_X12_sure_b121 (h : KH) (v0 : Nat) (v1 : Int32) (v2 : Int32) (v3 : Int32) (v4 : Int32) : Option ((Int32 × Int32 × KH) ⊕ (Int32 × KH)) :=
  kl (v4 + (1 : Int32)) fun x1 =>
  some (.inl (v3, x1, h))
set_option maxHeartbeats 4000000 in
set_option maxRecDepth 100000 in
theorem s_X12_sure_b121 {Z : Nat → (Nat → Nat) → State → Prop} (h : KH) (v0 : Nat) (v1 : Int32) (v2 : Int32) (v3 : Int32) (v4 : Int32) {t : (Int32 × Int32 × KH) ⊕ (Int32 × KH)} (hn : h.1 = 243) (H : f_X12_sure_b121 h v0 v1 v2 v3 v4 = some t) : KX Z RX12 cX12_sure 5 false 6 (B_X12_sure_l38 v0 v1 v2 t) 121 [(0, .ref v0), (1, .int v1), (2, .int v2), (3, .int v3), (4, .int v4)] [] h := by
  unfold f_X12_sure_b121 at H
  replace H := kle H; obtain ⟨x1, q2, H⟩ := H
  refine x_iinc (q := 124) (i := 4) (ls2 := [(4, .int x1), (0, .ref v0), (1, .int v1), (2, .int v2), (3, .int v3)]) dX12_sure_121 rfl rfl (by decide) (by rw [q2]; rfl) ?_
  refine x_goto dX12_sure_124 (q := 38) (by decide) ?_
  cases H
  refine x_sub (ls2 := [(0, .ref v0), (1, .int v1), (2, .int v2), (3, .int v3), (4, .int x1)]) [1, 2, 3, 4, 0] rfl ?_
  exact x_end (x_cfg rfl)
def f_X12_sure_b118 (h : KH) (v0 : Nat) (v1 : Int32) (v2 : Int32) (v4 : Int32) : Option ((Int32 × Int32 × KH) ⊕ (Int32 × KH)) :=
  f_X12_sure_b121 h v0 v1 v2 v4 v4
set_option maxHeartbeats 4000000 in
set_option maxRecDepth 100000 in
theorem s_X12_sure_b118 {Z : Nat → (Nat → Nat) → State → Prop} (h : KH) (v0 : Nat) (v1 : Int32) (v2 : Int32) (v4 : Int32) {t : (Int32 × Int32 × KH) ⊕ (Int32 × KH)} (hn : h.1 = 243) (H : f_X12_sure_b118 h v0 v1 v2 v4 = some t) : KX Z RX12 cX12_sure 5 false 6 (B_X12_sure_l38 v0 v1 v2 t) 118 [(0, .ref v0), (1, .int v1), (2, .int v2), (4, .int v4)] [] h := by
  unfold f_X12_sure_b118 at H
  refine x_iload (q := 120) dX12_sure_118 rfl rfl ?_
  refine x_istore_n (q := 121) (i := 3) (ls2 := [(3, .int v4), (0, .ref v0), (1, .int v1), (2, .int v2), (4, .int v4)]) dX12_sure_120 rfl rfl (by decide) rfl ?_
  refine x_sub (ls2 := [(0, .ref v0), (1, .int v1), (2, .int v2), (3, .int v4), (4, .int v4)]) [1, 2, 3, 0, 4] rfl ?_
  exact s_X12_sure_b121 h v0 v1 v2 v4 v4 hn H
def f_X12_sure_l38 (v0 : Nat) (v1 : Int32) (v2 : Int32) (s : Int32 × Int32 × KH) : Option ((Int32 × Int32 × KH) ⊕ (Int32 × KH)) :=
  if v2 < s.2.1 then
  some (.inr (s.1, s.2.2))
  else
  if (s.2.1 &&& (v2 ^^^ (-1 : Int32))) = 0 then
  if kkind v0 = 12 then kb (f_X12_rightBy s.2.2 v0 s.2.1) fun r4 =>
  if (lg_cmp r4.1 (kL r4.2 v0 56)) = 0 then
  if s.1 = (-1 : Int32) then
  f_X12_sure_b118 r4.2 v0 v1 v2 s.2.1
  else
  kb (f_X12_harmOf r4.2 v0 s.2.1) fun r10 =>
  kb (f_X12_harmOf r4.2 v0 s.1) fun r13 =>
  if r13 < r10 then
  f_X12_sure_b121 r4.2 v0 v1 v2 s.1 s.2.1
  else
  kb (f_X12_harmOf r4.2 v0 s.2.1) fun r17 =>
  kb (f_X12_harmOf r4.2 v0 s.1) fun r20 =>
  if r17 = r20 then
  kb (f_X12_bits r4.2 s.2.1) fun r24 =>
  kb (f_X12_bits r4.2 s.1) fun r27 =>
  if r24 < r27 then
  f_X12_sure_b118 r4.2 v0 v1 v2 s.2.1
  else
  f_X12_sure_b121 r4.2 v0 v1 v2 s.1 s.2.1
  else
  f_X12_sure_b118 r4.2 v0 v1 v2 s.2.1
  else
  f_X12_sure_b121 r4.2 v0 v1 v2 s.1 s.2.1 else none
  else
  f_X12_sure_b121 s.2.2 v0 v1 v2 s.1 s.2.1
set_option maxHeartbeats 4000000 in
set_option maxRecDepth 100000 in
theorem s_X12_sure_l38 {Z : Nat → (Nat → Nat) → State → Prop} (v0 : Nat) (v1 : Int32) (v2 : Int32) (s : Int32 × Int32 × KH) (t : (Int32 × Int32 × KH) ⊕ (Int32 × KH)) (hn : (s.2.2).1 = 243) (H : f_X12_sure_l38 v0 v1 v2 s = some t) : KX Z RX12 cX12_sure 5 false 6 (B_X12_sure_l38 v0 v1 v2 t) 38 [(0, .ref v0), (1, .int v1), (2, .int v2), (3, .int s.1), (4, .int s.2.1)] [] s.2.2 := by
  unfold f_X12_sure_l38 at H
  refine x_iload (q := 40) dX12_sure_38 rfl rfl ?_
  refine x_iload_n (q := 41) dX12_sure_40 rfl rfl ?_
  replace H := kite H; rcases H with ⟨g1, H⟩ | ⟨g1, H⟩
  · refine x_icmp_gt_t dX12_sure_41 (q := 127) (by decide) g1 ?_
    cases H
    refine x_sub (ls2 := [(0, .ref v0), (1, .int v1), (3, .int s.1)]) [0, 1, 3] rfl ?_
    exact x_end (x_cfg rfl)
  · refine x_icmp_gt_f (q := 44) dX12_sure_41 (t := 127) (by decide) rfl g1 ?_
    refine x_iload (q := 46) dX12_sure_44 rfl rfl ?_
    refine x_iload_n (q := 47) dX12_sure_46 rfl rfl ?_
    refine x_iconst (q := 48) (v := (-1 : Int32)) dX12_sure_47 rfl (by decide) ?_
    refine x_ixor (q := 49) dX12_sure_48 rfl ?_
    refine x_iand (q := 50) dX12_sure_49 rfl ?_
    replace H := kite H; rcases H with ⟨g2, H⟩ | ⟨g2, H⟩
    · refine x_if_ne_f (q := 53) dX12_sure_50 (t := 121) (by decide) rfl g2 ?_
      refine x_aload_n (q := 54) dX12_sure_53 rfl rfl ?_
      refine x_iload (q := 56) dX12_sure_54 rfl rfl ?_
      replace H := kif H; obtain ⟨g3, H⟩ := H
      replace H := kbe H; obtain ⟨r4, c5, H⟩ := H
      have m6 := s_X12_rightBy (Z := Z) s.2.2 v0 s.2.1 hn c5
      refine x_callV (q := 59) (as := [.int s.2.1]) (rest := []) dX12_sure_56 rfl kc_RX12_438 kh_X12_rightBy (by decide) (Nat.le_of_ble_eq_true rfl) m6 (ci := 12) (by exact ⟨rfl, by decide⟩) (k243 g3 (by decide) hn) ?_
      have n7 : (r4.2).1 = 243 := m6.1.full hn
      refine x_aload_n (q := 60) dX12_sure_59 rfl rfl ?_
      refine x_getL (q := 63) dX12_sure_60 rfl kl_RX12_422 rfl (k243 g3 (by decide) n7) ?_
      refine x_lcmp (q := 64) dX12_sure_63 rfl ?_
      replace H := kite H; rcases H with ⟨g8, H⟩ | ⟨g8, H⟩
      · refine x_if_eq_t dX12_sure_64 (q := 70) (by decide) g8 ?_
        refine x_iload_n (q := 71) dX12_sure_70 rfl rfl ?_
        refine x_iconst (q := 72) (v := (-1 : Int32)) dX12_sure_71 rfl (by decide) ?_
        replace H := kite H; rcases H with ⟨g9, H⟩ | ⟨g9, H⟩
        · refine x_icmp_eq_t dX12_sure_72 (q := 118) (by decide) g9 ?_
          refine x_sub (ls2 := [(0, .ref v0), (1, .int v1), (2, .int v2), (4, .int s.2.1)]) [0, 1, 2, 4] rfl ?_
          exact s_X12_sure_b118 r4.2 v0 v1 v2 s.2.1 n7 H
        · refine x_icmp_eq_f (q := 75) dX12_sure_72 (t := 118) (by decide) rfl g9 ?_
          refine x_aload_n (q := 76) dX12_sure_75 rfl rfl ?_
          refine x_iload (q := 78) dX12_sure_76 rfl rfl ?_
          replace H := kbe H; obtain ⟨r10, c11, H⟩ := H
          have m12 := s_X12_harmOf (Z := Z) r4.2 v0 s.2.1 n7 c11
          refine x_callV (q := 81) (as := [.int s.2.1]) (rest := []) dX12_sure_78 rfl kc_RX12_446 kh_X12_harmOf (by decide) (Nat.le_of_ble_eq_true rfl) m12 (ci := 12) (by exact ⟨rfl, by decide⟩) (k243 g3 (by decide) n7) ?_
          refine x_aload_n (q := 82) dX12_sure_81 rfl rfl ?_
          refine x_iload_n (q := 83) dX12_sure_82 rfl rfl ?_
          replace H := kbe H; obtain ⟨r13, c14, H⟩ := H
          have m15 := s_X12_harmOf (Z := Z) r4.2 v0 s.1 n7 c14
          refine x_callV (q := 86) (as := [.int s.1]) (rest := [.int r10]) dX12_sure_83 rfl kc_RX12_446 kh_X12_harmOf (by decide) (Nat.le_of_ble_eq_true rfl) m15 (ci := 12) (by exact ⟨rfl, by decide⟩) (k243 g3 (by decide) n7) ?_
          replace H := kite H; rcases H with ⟨g16, H⟩ | ⟨g16, H⟩
          · refine x_icmp_gt_t dX12_sure_86 (q := 121) (by decide) g16 ?_
            refine x_sub (ls2 := [(0, .ref v0), (1, .int v1), (2, .int v2), (3, .int s.1), (4, .int s.2.1)]) [0, 1, 2, 3, 4] rfl ?_
            exact s_X12_sure_b121 r4.2 v0 v1 v2 s.1 s.2.1 n7 H
          · refine x_icmp_gt_f (q := 89) dX12_sure_86 (t := 121) (by decide) rfl g16 ?_
            refine x_aload_n (q := 90) dX12_sure_89 rfl rfl ?_
            refine x_iload (q := 92) dX12_sure_90 rfl rfl ?_
            replace H := kbe H; obtain ⟨r17, c18, H⟩ := H
            have m19 := s_X12_harmOf (Z := Z) r4.2 v0 s.2.1 n7 c18
            refine x_callV (q := 95) (as := [.int s.2.1]) (rest := []) dX12_sure_92 rfl kc_RX12_446 kh_X12_harmOf (by decide) (Nat.le_of_ble_eq_true rfl) m19 (ci := 12) (by exact ⟨rfl, by decide⟩) (k243 g3 (by decide) n7) ?_
            refine x_aload_n (q := 96) dX12_sure_95 rfl rfl ?_
            refine x_iload_n (q := 97) dX12_sure_96 rfl rfl ?_
            replace H := kbe H; obtain ⟨r20, c21, H⟩ := H
            have m22 := s_X12_harmOf (Z := Z) r4.2 v0 s.1 n7 c21
            refine x_callV (q := 100) (as := [.int s.1]) (rest := [.int r17]) dX12_sure_97 rfl kc_RX12_446 kh_X12_harmOf (by decide) (Nat.le_of_ble_eq_true rfl) m22 (ci := 12) (by exact ⟨rfl, by decide⟩) (k243 g3 (by decide) n7) ?_
            replace H := kite H; rcases H with ⟨g23, H⟩ | ⟨g23, H⟩
            · refine x_icmp_ne_f (q := 103) dX12_sure_100 (t := 118) (by decide) rfl g23 ?_
              refine x_iload (q := 105) dX12_sure_103 rfl rfl ?_
              replace H := kbe H; obtain ⟨r24, c25, H⟩ := H
              have m26 := s_X12_bits (Z := Z) r4.2 s.2.1 n7 c25
              refine x_callS (q := 108) (as := [.int s.2.1]) (rest := []) dX12_sure_105 rfl kc_RX12_452 kh_X12_bits (by decide) (Nat.le_of_ble_eq_true rfl) m26 ?_
              refine x_iload_n (q := 109) dX12_sure_108 rfl rfl ?_
              replace H := kbe H; obtain ⟨r27, c28, H⟩ := H
              have m29 := s_X12_bits (Z := Z) r4.2 s.1 n7 c28
              refine x_callS (q := 112) (as := [.int s.1]) (rest := [.int r24]) dX12_sure_109 rfl kc_RX12_452 kh_X12_bits (by decide) (Nat.le_of_ble_eq_true rfl) m29 ?_
              replace H := kite H; rcases H with ⟨g30, H⟩ | ⟨g30, H⟩
              · refine x_icmp_lt_t dX12_sure_112 (q := 118) (by decide) g30 ?_
                refine x_sub (ls2 := [(0, .ref v0), (1, .int v1), (2, .int v2), (4, .int s.2.1)]) [0, 1, 2, 4] rfl ?_
                exact s_X12_sure_b118 r4.2 v0 v1 v2 s.2.1 n7 H
              · refine x_icmp_lt_f (q := 115) dX12_sure_112 (t := 118) (by decide) rfl g30 ?_
                refine x_goto dX12_sure_115 (q := 121) (by decide) ?_
                refine x_sub (ls2 := [(0, .ref v0), (1, .int v1), (2, .int v2), (3, .int s.1), (4, .int s.2.1)]) [0, 1, 2, 3, 4] rfl ?_
                exact s_X12_sure_b121 r4.2 v0 v1 v2 s.1 s.2.1 n7 H
            · refine x_icmp_ne_t dX12_sure_100 (q := 118) (by decide) g23 ?_
              refine x_sub (ls2 := [(0, .ref v0), (1, .int v1), (2, .int v2), (4, .int s.2.1)]) [0, 1, 2, 4] rfl ?_
              exact s_X12_sure_b118 r4.2 v0 v1 v2 s.2.1 n7 H
      · refine x_if_eq_f (q := 67) dX12_sure_64 (t := 70) (by decide) rfl g8 ?_
        refine x_goto dX12_sure_67 (q := 121) (by decide) ?_
        refine x_sub (ls2 := [(0, .ref v0), (1, .int v1), (2, .int v2), (3, .int s.1), (4, .int s.2.1)]) [0, 1, 2, 3, 4] rfl ?_
        exact s_X12_sure_b121 r4.2 v0 v1 v2 s.1 s.2.1 n7 H
    · refine x_if_ne_t dX12_sure_50 (q := 121) (by decide) g2 ?_
      refine x_sub (ls2 := [(0, .ref v0), (1, .int v1), (2, .int v2), (3, .int s.1), (4, .int s.2.1)]) [0, 1, 2, 3, 4] rfl ?_
      exact s_X12_sure_b121 s.2.2 v0 v1 v2 s.1 s.2.1 hn H
theorem sl_X12_sure_l38 {Z : Nat → (Nat → Nat) → State → Prop} (v0 : Nat) (v1 : Int32) (v2 : Int32) (n : Nat) (s : Int32 × Int32 × KH) (r : Int32 × KH) (hn : (s.2.2).1 = 243) (H : kloop (f_X12_sure_l38 v0 v1 v2) n s = some r) : KX Z RX12 cX12_sure 5 false 6 (E_X12_sure_l38 v0 v1 v2 r) 38 [(0, .ref v0), (1, .int v1), (2, .int v2), (3, .int s.1), (4, .int s.2.1)] [] s.2.2 :=
  k_loop (ls := (fun (s : Int32 × Int32 × KH) => ([(0, .ref v0), (1, .int v1), (2, .int v2), (3, .int s.1), (4, .int s.2.1)] : List (Nat × Value)))) (hp := (fun (s : Int32 × Int32 × KH) => (s.2.2 : KH))) (G := E_X12_sure_l38 v0 v1 v2) (fun s t hn H => s_X12_sure_l38 v0 v1 v2 s t hn H) n s r hn H
def f_X12_sure (h : KH) (v0 : Nat) (v1 : Int32) : Option (Int32 × KH) :=
  kb (f_X12_isIn h ((v1).toInt64) (0 : Int64) (1 : Int64)) fun r1 =>
  if r1 = 0 then
  some ((-1 : Int32), h)
  else
  if kkind v0 = 12 then kb (f_X12_laysWorlds h v0 (0 : Int32)) fun r6 =>
  if (lg_cmp (kL r6 v0 56) (0 : Int64)) = 0 then
  some ((-1 : Int32), r6)
  else
  kb (f_X12_freeTests r6 v0) fun r11 =>
  kb (kloop (f_X12_sure_l38 v0 v1 r11) KF ((-1 : Int32), (0 : Int32), r6)) fun e14 =>
  if e14.1 = (-1 : Int32) then
  some ((-1 : Int32), e14.2)
  else
  if v1 = 0 then
  some (e14.1, e14.2)
  else
  kb (f_X12_harmOf e14.2 v0 e14.1) fun r19 =>
  some (r19, e14.2) else none
set_option maxHeartbeats 4000000 in
set_option maxRecDepth 100000 in
theorem s0_X12_sure {Z : Nat → (Nat → Nat) → State → Prop} (h : KH) (v0 : Nat) (v1 : Int32) {t : Int32 × KH} (hn : h.1 = 243) (H : f_X12_sure h v0 v1 = some t) : KX Z RX12 cX12_sure 5 false 6 (KRi cX12_sure t.1 t.2) 0 [(0, .ref v0), (1, .int v1)] [] h := by
  unfold f_X12_sure at H
  refine x_iload_n (q := 1) dX12_sure_0 rfl rfl ?_
  refine x_i2l (q := 2) dX12_sure_1 rfl ?_
  refine x_lconst (q := 3) (v := (0 : Int64)) dX12_sure_2 rfl (by decide) ?_
  refine x_lconst (q := 4) (v := (1 : Int64)) dX12_sure_3 rfl (by decide) ?_
  replace H := kbe H; obtain ⟨r1, c2, H⟩ := H
  have m3 := s_X12_isIn (Z := Z) h ((v1).toInt64) (0 : Int64) (1 : Int64) hn c2
  refine x_callS (q := 7) (as := [.long ((v1).toInt64), .long (0 : Int64), .long (1 : Int64)]) (rest := []) dX12_sure_4 rfl kc_RX12_270 kh_X12_isIn (by decide) (Nat.le_of_ble_eq_true rfl) m3 ?_
  replace H := kite H; rcases H with ⟨g4, H⟩ | ⟨g4, H⟩
  · refine x_if_ne_f (q := 10) dX12_sure_7 (t := 12) (by decide) rfl g4 ?_
    refine x_iconst (q := 11) (v := (-1 : Int32)) dX12_sure_10 rfl (by decide) ?_
    cases H
    exact x_end ⟨dX12_sure_11, rfl, rfl⟩
  · refine x_if_ne_t dX12_sure_7 (q := 12) (by decide) g4 ?_
    refine x_aload_n (q := 13) dX12_sure_12 rfl rfl ?_
    refine x_iconst (q := 14) (v := (0 : Int32)) dX12_sure_13 rfl (by decide) ?_
    replace H := kif H; obtain ⟨g5, H⟩ := H
    replace H := kbe H; obtain ⟨r6, c7, H⟩ := H
    have m8 := s_X12_laysWorlds (Z := Z) h v0 (0 : Int32) hn c7
    refine x_callV (q := 17) (as := [.int (0 : Int32)]) (rest := []) dX12_sure_14 rfl kc_RX12_478 kh_X12_laysWorlds (by decide) (Nat.le_of_ble_eq_true rfl) m8 (ci := 12) (by exact ⟨rfl, by decide⟩) (k243 g5 (by decide) hn) ?_
    have n9 : (r6).1 = 243 := m8.1.full hn
    refine x_aload_n (q := 18) dX12_sure_17 rfl rfl ?_
    refine x_getL (q := 21) dX12_sure_18 rfl kl_RX12_422 rfl (k243 g5 (by decide) n9) ?_
    refine x_lconst (q := 22) (v := (0 : Int64)) dX12_sure_21 rfl (by decide) ?_
    refine x_lcmp (q := 23) dX12_sure_22 rfl ?_
    replace H := kite H; rcases H with ⟨g10, H⟩ | ⟨g10, H⟩
    · refine x_if_ne_f (q := 26) dX12_sure_23 (t := 28) (by decide) rfl g10 ?_
      refine x_iconst (q := 27) (v := (-1 : Int32)) dX12_sure_26 rfl (by decide) ?_
      cases H
      exact x_end ⟨dX12_sure_27, rfl, rfl⟩
    · refine x_if_ne_t dX12_sure_23 (q := 28) (by decide) g10 ?_
      refine x_aload_n (q := 29) dX12_sure_28 rfl rfl ?_
      replace H := kbe H; obtain ⟨r11, c12, H⟩ := H
      have m13 := s_X12_freeTests (Z := Z) r6 v0 n9 c12
      refine x_callV (q := 32) (as := []) (rest := []) dX12_sure_29 rfl kc_RX12_455 kh_X12_freeTests (by decide) (Nat.le_of_ble_eq_true rfl) m13 (ci := 12) (by exact ⟨rfl, by decide⟩) (k243 g5 (by decide) n9) ?_
      refine x_istore_n (q := 33) (i := 2) (ls2 := [(2, .int r11), (0, .ref v0), (1, .int v1)]) dX12_sure_32 rfl rfl (by decide) rfl ?_
      refine x_iconst (q := 34) (v := (-1 : Int32)) dX12_sure_33 rfl (by decide) ?_
      refine x_istore_n (q := 35) (i := 3) (ls2 := [(3, .int (-1 : Int32)), (2, .int r11), (0, .ref v0), (1, .int v1)]) dX12_sure_34 rfl rfl (by decide) rfl ?_
      refine x_iconst (q := 36) (v := (0 : Int32)) dX12_sure_35 rfl (by decide) ?_
      refine x_istore (q := 38) (i := 4) (ls2 := [(4, .int (0 : Int32)), (3, .int (-1 : Int32)), (2, .int r11), (0, .ref v0), (1, .int v1)]) dX12_sure_36 rfl (by decide) rfl ?_
      refine x_sub (ls2 := [(0, .ref v0), (1, .int v1), (2, .int r11), (3, .int (-1 : Int32)), (4, .int (0 : Int32))]) [3, 4, 2, 1, 0] rfl ?_
      replace H := kbe H; obtain ⟨e14, c15, H⟩ := H
      refine x_app (sl_X12_sure_l38 v0 v1 r11 KF ((-1 : Int32), (0 : Int32), r6) e14 n9 c15) fun pc2 ls2 st2 h2 hg m16 => ?_
      obtain ⟨rfl, rfl, rfl, rfl⟩ := hg
      refine x_iload_n (q := 128) dX12_sure_127 rfl rfl ?_
      refine x_iconst (q := 129) (v := (-1 : Int32)) dX12_sure_128 rfl (by decide) ?_
      replace H := kite H; rcases H with ⟨g17, H⟩ | ⟨g17, H⟩
      · refine x_icmp_ne_f (q := 132) dX12_sure_129 (t := 136) (by decide) rfl g17 ?_
        refine x_iconst (q := 133) (v := (-1 : Int32)) dX12_sure_132 rfl (by decide) ?_
        refine x_goto dX12_sure_133 (q := 149) (by decide) ?_
        cases H
        exact x_end ⟨dX12_sure_149, rfl, rfl⟩
      · refine x_icmp_ne_t dX12_sure_129 (q := 136) (by decide) g17 ?_
        refine x_iload_n (q := 137) dX12_sure_136 rfl rfl ?_
        replace H := kite H; rcases H with ⟨g18, H⟩ | ⟨g18, H⟩
        · refine x_if_ne_f (q := 140) dX12_sure_137 (t := 144) (by decide) rfl g18 ?_
          refine x_iload_n (q := 141) dX12_sure_140 rfl rfl ?_
          refine x_goto dX12_sure_141 (q := 149) (by decide) ?_
          cases H
          exact x_end ⟨dX12_sure_149, rfl, rfl⟩
        · refine x_if_ne_t dX12_sure_137 (q := 144) (by decide) g18 ?_
          refine x_aload_n (q := 145) dX12_sure_144 rfl rfl ?_
          refine x_iload_n (q := 146) dX12_sure_145 rfl rfl ?_
          replace H := kbe H; obtain ⟨r19, c20, H⟩ := H
          have m21 := s_X12_harmOf (Z := Z) e14.2 v0 e14.1 (m16.full n9) c20
          refine x_callV (q := 149) (as := [.int e14.1]) (rest := []) dX12_sure_146 rfl kc_RX12_446 kh_X12_harmOf (by decide) (Nat.le_of_ble_eq_true rfl) m21 (ci := 12) (by exact ⟨rfl, by decide⟩) (k243 g5 (by decide) (m16.full n9)) ?_
          cases H
          exact x_end ⟨dX12_sure_149, rfl, rfl⟩
theorem s_X12_sure {Z : Nat → (Nat → Nat) → State → Prop} (h : KH) (v0 : Nat) (v1 : Int32) {t : Int32 × KH} (hn : h.1 = 243) (H : f_X12_sure h v0 v1 = some t) : KM Z yX12_sure cX12_sure 5 (some .int) 6 [.ref v0, .int v1] h (some (.int t.1)) t.2 :=
  kx_i (own := RX12) (ini := false) (by decide +kernel) (by decide +kernel) rfl (Nat.le_of_ble_eq_true rfl) (s0_X12_sure h v0 v1 hn H)
theorem dX12_putsAside_0 : decode cX12_putsAside 0 = .ok (.iconst 0, 1) := by decide +kernel
theorem dX12_putsAside_1 : decode cX12_putsAside 1 = .ok (.istore_n 1, 1) := by decide +kernel
theorem dX12_putsAside_2 : decode cX12_putsAside 2 = .ok (.iload_n 1, 1) := by decide +kernel
theorem dX12_putsAside_3 : decode cX12_putsAside 3 = .ok (.bipush 24, 2) := by decide +kernel
theorem dX12_putsAside_5 : decode cX12_putsAside 5 = .ok (.if_icmp .ge 21, 3) := by decide +kernel
theorem dX12_putsAside_8 : decode cX12_putsAside 8 = .ok (.aload_n 0, 1) := by decide +kernel
theorem dX12_putsAside_9 : decode cX12_putsAside 9 = .ok (.getfield 118, 3) := by decide +kernel
theorem dX12_putsAside_12 : decode cX12_putsAside 12 = .ok (.iload_n 1, 1) := by decide +kernel
theorem dX12_putsAside_13 : decode cX12_putsAside 13 = .ok (.aload_n 0, 1) := by decide +kernel
theorem dX12_putsAside_14 : decode cX12_putsAside 14 = .ok (.getfield 115, 3) := by decide +kernel
theorem dX12_putsAside_17 : decode cX12_putsAside 17 = .ok (.iload_n 1, 1) := by decide +kernel
theorem dX12_putsAside_18 : decode cX12_putsAside 18 = .ok (.iaload, 1) := by decide +kernel
theorem dX12_putsAside_19 : decode cX12_putsAside 19 = .ok (.iastore, 1) := by decide +kernel
theorem dX12_putsAside_20 : decode cX12_putsAside 20 = .ok (.iinc 1 1, 3) := by decide +kernel
theorem dX12_putsAside_23 : decode cX12_putsAside 23 = .ok (.goto (-21), 3) := by decide +kernel
theorem dX12_putsAside_26 : decode cX12_putsAside 26 = .ok (.return_, 1) := by decide +kernel
theorem kl_RX12_118 : KLk RX12 118 12 46 := ⟨RX12, TX12, 97, rfl, by decide, Or.inl (kwm 1243 (by decide +kernel) (by decide +kernel))⟩
def E_X12_putsAside_l2 (v0 : Nat) : KH → Nat → List (Nat × Value) → List Value → KH → Prop := fun (e : KH) pc ls st hh => pc = 26 ∧ ls = [] ∧ st = [] ∧ e = hh
def B_X12_putsAside_l2 (v0 : Nat) : ((Int32 × KH) ⊕ (KH)) → Nat → List (Nat × Value) → List Value → KH → Prop := Sum.elim (fun (s : Int32 × KH) pc ls st hh => pc = 2 ∧ ls = [(0, .ref v0), (1, .int s.1)] ∧ st = [] ∧ hh = s.2) (E_X12_putsAside_l2 v0)
def f_X12_putsAside_l2 (v0 : Nat) (s : Int32 × KH) : Option ((Int32 × KH) ⊕ (KH)) :=
  if (24 : Int32) ≤ s.1 then
  some (.inr s.2)
  else
  if kkind v0 = 12 then if (kR s.2 v0 46) < 999999 then if (kR s.2 v0 45) < 999999 then if kkind (kR s.2 v0 45) = 20 then if (s.1 < 0 ∨ klen (kR s.2 v0 45) ≤ (s.1).toNatClampNeg) then none else if kkind (kR s.2 v0 46) = 20 then if (s.1 < 0 ∨ klen (kR s.2 v0 46) ≤ (s.1).toNatClampNeg) then none else kl (ksI s.2 (kR s.2 v0 46) ((s.1).toNatClampNeg) (kI s.2 (kR s.2 v0 45) ((s.1).toNatClampNeg))) fun h9 =>
  kl (s.1 + (1 : Int32)) fun x12 =>
  some (.inl (x12, h9)) else none else none else none else none else none
set_option maxHeartbeats 4000000 in
set_option maxRecDepth 100000 in
theorem s_X12_putsAside_l2 {Z : Nat → (Nat → Nat) → State → Prop} (v0 : Nat) (s : Int32 × KH) (t : (Int32 × KH) ⊕ (KH)) (hn : (s.2).1 = 243) (H : f_X12_putsAside_l2 v0 s = some t) : KX Z RX12 cX12_putsAside 2 false 1 (B_X12_putsAside_l2 v0 t) 2 [(0, .ref v0), (1, .int s.1)] [] s.2 := by
  unfold f_X12_putsAside_l2 at H
  refine x_iload_n (q := 3) dX12_putsAside_2 rfl rfl ?_
  refine x_bipush (q := 5) (v := (24 : Int32)) dX12_putsAside_3 rfl (by decide) ?_
  replace H := kite H; rcases H with ⟨g1, H⟩ | ⟨g1, H⟩
  · refine x_icmp_ge_t dX12_putsAside_5 (q := 26) (by decide) g1 ?_
    cases H
    refine x_sub (ls2 := []) [] rfl ?_
    exact x_end (x_cfg rfl)
  · refine x_icmp_ge_f (q := 8) dX12_putsAside_5 (t := 26) (by decide) rfl g1 ?_
    refine x_aload_n (q := 9) dX12_putsAside_8 rfl rfl ?_
    replace H := kif H; obtain ⟨g2, H⟩ := H
    replace H := kif H; obtain ⟨g3, H⟩ := H
    refine x_getR (q := 12) dX12_putsAside_9 rfl kl_RX12_118 rfl (k243 g2 (by decide) hn) g3 ?_
    refine x_iload_n (q := 13) dX12_putsAside_12 rfl rfl ?_
    refine x_aload_n (q := 14) dX12_putsAside_13 rfl rfl ?_
    replace H := kif H; obtain ⟨g4, H⟩ := H
    refine x_getR (q := 17) dX12_putsAside_14 rfl kl_RX12_115 rfl (k243 g2 (by decide) hn) g4 ?_
    refine x_iload_n (q := 18) dX12_putsAside_17 rfl rfl ?_
    replace H := kif H; obtain ⟨g5, H⟩ := H
    replace H := kifn H; obtain ⟨g6, H⟩ := H
    refine x_iald (q := 19) dX12_putsAside_18 rfl (k243 g5 (by decide) hn) g6 ?_
    replace H := kif H; obtain ⟨g7, H⟩ := H
    replace H := kifn H; obtain ⟨g8, H⟩ := H
    replace H := kle H; obtain ⟨h9, q10, H⟩ := H
    refine x_iast (q := 20) dX12_putsAside_19 rfl (k243 g7 (by decide) hn) g8 ?_
    refine x_nmH q10 ?_
    have n11 : h9.1 = 243 := by rw [q10]; exact hn
    replace H := kle H; obtain ⟨x12, q13, H⟩ := H
    refine x_iinc (q := 23) (i := 1) (ls2 := [(1, .int x12), (0, .ref v0)]) dX12_putsAside_20 rfl rfl (by decide) (by rw [q13]; rfl) ?_
    refine x_goto dX12_putsAside_23 (q := 2) (by decide) ?_
    cases H
    refine x_sub (ls2 := [(0, .ref v0), (1, .int x12)]) [1, 0] rfl ?_
    exact x_end (x_cfg rfl)
theorem sl_X12_putsAside_l2 {Z : Nat → (Nat → Nat) → State → Prop} (v0 : Nat) (n : Nat) (s : Int32 × KH) (r : KH) (hn : (s.2).1 = 243) (H : kloop (f_X12_putsAside_l2 v0) n s = some r) : KX Z RX12 cX12_putsAside 2 false 1 (E_X12_putsAside_l2 v0 r) 2 [(0, .ref v0), (1, .int s.1)] [] s.2 :=
  k_loop (ls := (fun (s : Int32 × KH) => ([(0, .ref v0), (1, .int s.1)] : List (Nat × Value)))) (hp := (fun (s : Int32 × KH) => (s.2 : KH))) (G := E_X12_putsAside_l2 v0) (fun s t hn H => s_X12_putsAside_l2 v0 s t hn H) n s r hn H
def f_X12_putsAside (h : KH) (v0 : Nat) : Option (KH) :=
  kb (kloop (f_X12_putsAside_l2 v0) KF ((0 : Int32), h)) fun e1 =>
  some e1
set_option maxHeartbeats 4000000 in
set_option maxRecDepth 100000 in
theorem s0_X12_putsAside {Z : Nat → (Nat → Nat) → State → Prop} (h : KH) (v0 : Nat) {t : KH} (hn : h.1 = 243) (H : f_X12_putsAside h v0 = some t) : KX Z RX12 cX12_putsAside 2 false 1 (KRv cX12_putsAside t) 0 [(0, .ref v0)] [] h := by
  unfold f_X12_putsAside at H
  refine x_iconst (q := 1) (v := (0 : Int32)) dX12_putsAside_0 rfl (by decide) ?_
  refine x_istore_n (q := 2) (i := 1) (ls2 := [(1, .int (0 : Int32)), (0, .ref v0)]) dX12_putsAside_1 rfl rfl (by decide) rfl ?_
  refine x_sub (ls2 := [(0, .ref v0), (1, .int (0 : Int32))]) [1, 0] rfl ?_
  replace H := kbe H; obtain ⟨e1, c2, H⟩ := H
  refine x_app (sl_X12_putsAside_l2 v0 KF ((0 : Int32), h) e1 hn c2) fun pc2 ls2 st2 h2 hg m3 => ?_
  obtain ⟨rfl, rfl, rfl, rfl⟩ := hg
  cases H
  exact x_end ⟨dX12_putsAside_26, rfl, rfl⟩
theorem s_X12_putsAside {Z : Nat → (Nat → Nat) → State → Prop} (h : KH) (v0 : Nat) {t : KH} (hn : h.1 = 243) (H : f_X12_putsAside h v0 = some t) : KM Z yX12_putsAside cX12_putsAside 2 none 1 [.ref v0] h none t :=
  kx_v (own := RX12) (ini := false) (by decide +kernel) (by decide +kernel) rfl (Nat.le_of_ble_eq_true rfl) (s0_X12_putsAside h v0 hn H)
theorem dX12_takesBack_0 : decode cX12_takesBack 0 = .ok (.iconst 0, 1) := by decide +kernel
theorem dX12_takesBack_1 : decode cX12_takesBack 1 = .ok (.istore_n 1, 1) := by decide +kernel
theorem dX12_takesBack_2 : decode cX12_takesBack 2 = .ok (.iload_n 1, 1) := by decide +kernel
theorem dX12_takesBack_3 : decode cX12_takesBack 3 = .ok (.bipush 24, 2) := by decide +kernel
theorem dX12_takesBack_5 : decode cX12_takesBack 5 = .ok (.if_icmp .ge 21, 3) := by decide +kernel
theorem dX12_takesBack_8 : decode cX12_takesBack 8 = .ok (.aload_n 0, 1) := by decide +kernel
theorem dX12_takesBack_9 : decode cX12_takesBack 9 = .ok (.getfield 115, 3) := by decide +kernel
theorem dX12_takesBack_12 : decode cX12_takesBack 12 = .ok (.iload_n 1, 1) := by decide +kernel
theorem dX12_takesBack_13 : decode cX12_takesBack 13 = .ok (.aload_n 0, 1) := by decide +kernel
theorem dX12_takesBack_14 : decode cX12_takesBack 14 = .ok (.getfield 118, 3) := by decide +kernel
theorem dX12_takesBack_17 : decode cX12_takesBack 17 = .ok (.iload_n 1, 1) := by decide +kernel
theorem dX12_takesBack_18 : decode cX12_takesBack 18 = .ok (.iaload, 1) := by decide +kernel
theorem dX12_takesBack_19 : decode cX12_takesBack 19 = .ok (.iastore, 1) := by decide +kernel
theorem dX12_takesBack_20 : decode cX12_takesBack 20 = .ok (.iinc 1 1, 3) := by decide +kernel
theorem dX12_takesBack_23 : decode cX12_takesBack 23 = .ok (.goto (-21), 3) := by decide +kernel
theorem dX12_takesBack_26 : decode cX12_takesBack 26 = .ok (.return_, 1) := by decide +kernel
def E_X12_takesBack_l2 (v0 : Nat) : KH → Nat → List (Nat × Value) → List Value → KH → Prop := fun (e : KH) pc ls st hh => pc = 26 ∧ ls = [] ∧ st = [] ∧ e = hh
def B_X12_takesBack_l2 (v0 : Nat) : ((Int32 × KH) ⊕ (KH)) → Nat → List (Nat × Value) → List Value → KH → Prop := Sum.elim (fun (s : Int32 × KH) pc ls st hh => pc = 2 ∧ ls = [(0, .ref v0), (1, .int s.1)] ∧ st = [] ∧ hh = s.2) (E_X12_takesBack_l2 v0)
def f_X12_takesBack_l2 (v0 : Nat) (s : Int32 × KH) : Option ((Int32 × KH) ⊕ (KH)) :=
  if (24 : Int32) ≤ s.1 then
  some (.inr s.2)
  else
  if kkind v0 = 12 then if (kR s.2 v0 45) < 999999 then if (kR s.2 v0 46) < 999999 then if kkind (kR s.2 v0 46) = 20 then if (s.1 < 0 ∨ klen (kR s.2 v0 46) ≤ (s.1).toNatClampNeg) then none else if kkind (kR s.2 v0 45) = 20 then if (s.1 < 0 ∨ klen (kR s.2 v0 45) ≤ (s.1).toNatClampNeg) then none else kl (ksI s.2 (kR s.2 v0 45) ((s.1).toNatClampNeg) (kI s.2 (kR s.2 v0 46) ((s.1).toNatClampNeg))) fun h9 =>
  kl (s.1 + (1 : Int32)) fun x12 =>
  some (.inl (x12, h9)) else none else none else none else none else none
set_option maxHeartbeats 4000000 in
set_option maxRecDepth 100000 in
theorem s_X12_takesBack_l2 {Z : Nat → (Nat → Nat) → State → Prop} (v0 : Nat) (s : Int32 × KH) (t : (Int32 × KH) ⊕ (KH)) (hn : (s.2).1 = 243) (H : f_X12_takesBack_l2 v0 s = some t) : KX Z RX12 cX12_takesBack 2 false 1 (B_X12_takesBack_l2 v0 t) 2 [(0, .ref v0), (1, .int s.1)] [] s.2 := by
  unfold f_X12_takesBack_l2 at H
  refine x_iload_n (q := 3) dX12_takesBack_2 rfl rfl ?_
  refine x_bipush (q := 5) (v := (24 : Int32)) dX12_takesBack_3 rfl (by decide) ?_
  replace H := kite H; rcases H with ⟨g1, H⟩ | ⟨g1, H⟩
  · refine x_icmp_ge_t dX12_takesBack_5 (q := 26) (by decide) g1 ?_
    cases H
    refine x_sub (ls2 := []) [] rfl ?_
    exact x_end (x_cfg rfl)
  · refine x_icmp_ge_f (q := 8) dX12_takesBack_5 (t := 26) (by decide) rfl g1 ?_
    refine x_aload_n (q := 9) dX12_takesBack_8 rfl rfl ?_
    replace H := kif H; obtain ⟨g2, H⟩ := H
    replace H := kif H; obtain ⟨g3, H⟩ := H
    refine x_getR (q := 12) dX12_takesBack_9 rfl kl_RX12_115 rfl (k243 g2 (by decide) hn) g3 ?_
    refine x_iload_n (q := 13) dX12_takesBack_12 rfl rfl ?_
    refine x_aload_n (q := 14) dX12_takesBack_13 rfl rfl ?_
    replace H := kif H; obtain ⟨g4, H⟩ := H
    refine x_getR (q := 17) dX12_takesBack_14 rfl kl_RX12_118 rfl (k243 g2 (by decide) hn) g4 ?_
    refine x_iload_n (q := 18) dX12_takesBack_17 rfl rfl ?_
    replace H := kif H; obtain ⟨g5, H⟩ := H
    replace H := kifn H; obtain ⟨g6, H⟩ := H
    refine x_iald (q := 19) dX12_takesBack_18 rfl (k243 g5 (by decide) hn) g6 ?_
    replace H := kif H; obtain ⟨g7, H⟩ := H
    replace H := kifn H; obtain ⟨g8, H⟩ := H
    replace H := kle H; obtain ⟨h9, q10, H⟩ := H
    refine x_iast (q := 20) dX12_takesBack_19 rfl (k243 g7 (by decide) hn) g8 ?_
    refine x_nmH q10 ?_
    have n11 : h9.1 = 243 := by rw [q10]; exact hn
    replace H := kle H; obtain ⟨x12, q13, H⟩ := H
    refine x_iinc (q := 23) (i := 1) (ls2 := [(1, .int x12), (0, .ref v0)]) dX12_takesBack_20 rfl rfl (by decide) (by rw [q13]; rfl) ?_
    refine x_goto dX12_takesBack_23 (q := 2) (by decide) ?_
    cases H
    refine x_sub (ls2 := [(0, .ref v0), (1, .int x12)]) [1, 0] rfl ?_
    exact x_end (x_cfg rfl)
theorem sl_X12_takesBack_l2 {Z : Nat → (Nat → Nat) → State → Prop} (v0 : Nat) (n : Nat) (s : Int32 × KH) (r : KH) (hn : (s.2).1 = 243) (H : kloop (f_X12_takesBack_l2 v0) n s = some r) : KX Z RX12 cX12_takesBack 2 false 1 (E_X12_takesBack_l2 v0 r) 2 [(0, .ref v0), (1, .int s.1)] [] s.2 :=
  k_loop (ls := (fun (s : Int32 × KH) => ([(0, .ref v0), (1, .int s.1)] : List (Nat × Value)))) (hp := (fun (s : Int32 × KH) => (s.2 : KH))) (G := E_X12_takesBack_l2 v0) (fun s t hn H => s_X12_takesBack_l2 v0 s t hn H) n s r hn H
def f_X12_takesBack (h : KH) (v0 : Nat) : Option (KH) :=
  kb (kloop (f_X12_takesBack_l2 v0) KF ((0 : Int32), h)) fun e1 =>
  some e1
set_option maxHeartbeats 4000000 in
set_option maxRecDepth 100000 in
theorem s0_X12_takesBack {Z : Nat → (Nat → Nat) → State → Prop} (h : KH) (v0 : Nat) {t : KH} (hn : h.1 = 243) (H : f_X12_takesBack h v0 = some t) : KX Z RX12 cX12_takesBack 2 false 1 (KRv cX12_takesBack t) 0 [(0, .ref v0)] [] h := by
  unfold f_X12_takesBack at H
  refine x_iconst (q := 1) (v := (0 : Int32)) dX12_takesBack_0 rfl (by decide) ?_
  refine x_istore_n (q := 2) (i := 1) (ls2 := [(1, .int (0 : Int32)), (0, .ref v0)]) dX12_takesBack_1 rfl rfl (by decide) rfl ?_
  refine x_sub (ls2 := [(0, .ref v0), (1, .int (0 : Int32))]) [1, 0] rfl ?_
  replace H := kbe H; obtain ⟨e1, c2, H⟩ := H
  refine x_app (sl_X12_takesBack_l2 v0 KF ((0 : Int32), h) e1 hn c2) fun pc2 ls2 st2 h2 hg m3 => ?_
  obtain ⟨rfl, rfl, rfl, rfl⟩ := hg
  cases H
  exact x_end ⟨dX12_takesBack_26, rfl, rfl⟩
theorem s_X12_takesBack {Z : Nat → (Nat → Nat) → State → Prop} (h : KH) (v0 : Nat) {t : KH} (hn : h.1 = 243) (H : f_X12_takesBack h v0 = some t) : KM Z yX12_takesBack cX12_takesBack 2 none 1 [.ref v0] h none t :=
  kx_v (own := RX12) (ini := false) (by decide +kernel) (by decide +kernel) rfl (Nat.le_of_ble_eq_true rfl) (s0_X12_takesBack h v0 hn H)
theorem dX12_isHeardMore_0 : decode cX12_isHeardMore 0 = .ok (.aload_n 0, 1) := by decide +kernel
theorem dX12_isHeardMore_1 : decode cX12_isHeardMore 1 = .ok (.getfield 115, 3) := by decide +kernel
theorem dX12_isHeardMore_4 : decode cX12_isHeardMore 4 = .ok (.iconst 2, 1) := by decide +kernel
theorem dX12_isHeardMore_5 : decode cX12_isHeardMore 5 = .ok (.iconst 2, 1) := by decide +kernel
theorem dX12_isHeardMore_6 : decode cX12_isHeardMore 6 = .ok (.iload_n 1, 1) := by decide +kernel
theorem dX12_isHeardMore_7 : decode cX12_isHeardMore 7 = .ok (.imul, 1) := by decide +kernel
theorem dX12_isHeardMore_8 : decode cX12_isHeardMore 8 = .ok (.iadd, 1) := by decide +kernel
theorem dX12_isHeardMore_9 : decode cX12_isHeardMore 9 = .ok (.iaload, 1) := by decide +kernel
theorem dX12_isHeardMore_10 : decode cX12_isHeardMore 10 = .ok (.bipush 99, 2) := by decide +kernel
theorem dX12_isHeardMore_12 : decode cX12_isHeardMore 12 = .ok (.if_icmp .ge 17, 3) := by decide +kernel
theorem dX12_isHeardMore_15 : decode cX12_isHeardMore 15 = .ok (.aload_n 0, 1) := by decide +kernel
theorem dX12_isHeardMore_16 : decode cX12_isHeardMore 16 = .ok (.getfield 115, 3) := by decide +kernel
theorem dX12_isHeardMore_19 : decode cX12_isHeardMore 19 = .ok (.iconst 2, 1) := by decide +kernel
theorem dX12_isHeardMore_20 : decode cX12_isHeardMore 20 = .ok (.iconst 2, 1) := by decide +kernel
theorem dX12_isHeardMore_21 : decode cX12_isHeardMore 21 = .ok (.iload_n 1, 1) := by decide +kernel
theorem dX12_isHeardMore_22 : decode cX12_isHeardMore 22 = .ok (.imul, 1) := by decide +kernel
theorem dX12_isHeardMore_23 : decode cX12_isHeardMore 23 = .ok (.iadd, 1) := by decide +kernel
theorem dX12_isHeardMore_24 : decode cX12_isHeardMore 24 = .ok (.dup2, 1) := by decide +kernel
theorem dX12_isHeardMore_25 : decode cX12_isHeardMore 25 = .ok (.iaload, 1) := by decide +kernel
theorem dX12_isHeardMore_26 : decode cX12_isHeardMore 26 = .ok (.iconst 1, 1) := by decide +kernel
theorem dX12_isHeardMore_27 : decode cX12_isHeardMore 27 = .ok (.iadd, 1) := by decide +kernel
theorem dX12_isHeardMore_28 : decode cX12_isHeardMore 28 = .ok (.iastore, 1) := by decide +kernel
theorem dX12_isHeardMore_29 : decode cX12_isHeardMore 29 = .ok (.return_, 1) := by decide +kernel
def f_X12_isHeardMore (h : KH) (v0 : Nat) (v1 : Int32) : Option (KH) :=
  if kkind v0 = 12 then if (kR h v0 45) < 999999 then if kkind (kR h v0 45) = 20 then if (((2 : Int32) + ((2 : Int32) * v1)) < 0 ∨ klen (kR h v0 45) ≤ (((2 : Int32) + ((2 : Int32) * v1))).toNatClampNeg) then none else if (99 : Int32) ≤ (kI h (kR h v0 45) ((((2 : Int32) + ((2 : Int32) * v1))).toNatClampNeg)) then
  some h
  else
  kl (ksI h (kR h v0 45) ((((2 : Int32) + ((2 : Int32) * v1))).toNatClampNeg) ((kI h (kR h v0 45) ((((2 : Int32) + ((2 : Int32) * v1))).toNatClampNeg)) + (1 : Int32))) fun h6 =>
  some h6 else none else none else none
set_option maxHeartbeats 4000000 in
set_option maxRecDepth 100000 in
theorem s0_X12_isHeardMore {Z : Nat → (Nat → Nat) → State → Prop} (h : KH) (v0 : Nat) (v1 : Int32) {t : KH} (hn : h.1 = 243) (H : f_X12_isHeardMore h v0 v1 = some t) : KX Z RX12 cX12_isHeardMore 2 false 1 (KRv cX12_isHeardMore t) 0 [(0, .ref v0), (1, .int v1)] [] h := by
  unfold f_X12_isHeardMore at H
  refine x_aload_n (q := 1) dX12_isHeardMore_0 rfl rfl ?_
  replace H := kif H; obtain ⟨g1, H⟩ := H
  replace H := kif H; obtain ⟨g2, H⟩ := H
  refine x_getR (q := 4) dX12_isHeardMore_1 rfl kl_RX12_115 rfl (k243 g1 (by decide) hn) g2 ?_
  refine x_iconst (q := 5) (v := (2 : Int32)) dX12_isHeardMore_4 rfl (by decide) ?_
  refine x_iconst (q := 6) (v := (2 : Int32)) dX12_isHeardMore_5 rfl (by decide) ?_
  refine x_iload_n (q := 7) dX12_isHeardMore_6 rfl rfl ?_
  refine x_imul (q := 8) dX12_isHeardMore_7 rfl ?_
  refine x_iadd (q := 9) dX12_isHeardMore_8 rfl ?_
  replace H := kif H; obtain ⟨g3, H⟩ := H
  replace H := kifn H; obtain ⟨g4, H⟩ := H
  refine x_iald (q := 10) dX12_isHeardMore_9 rfl (k243 g3 (by decide) hn) g4 ?_
  refine x_bipush (q := 12) (v := (99 : Int32)) dX12_isHeardMore_10 rfl (by decide) ?_
  replace H := kite H; rcases H with ⟨g5, H⟩ | ⟨g5, H⟩
  · refine x_icmp_ge_t dX12_isHeardMore_12 (q := 29) (by decide) g5 ?_
    cases H
    exact x_end ⟨dX12_isHeardMore_29, rfl, rfl⟩
  · refine x_icmp_ge_f (q := 15) dX12_isHeardMore_12 (t := 29) (by decide) rfl g5 ?_
    refine x_aload_n (q := 16) dX12_isHeardMore_15 rfl rfl ?_
    refine x_getR (q := 19) dX12_isHeardMore_16 rfl kl_RX12_115 rfl (k243 g1 (by decide) hn) g2 ?_
    refine x_iconst (q := 20) (v := (2 : Int32)) dX12_isHeardMore_19 rfl (by decide) ?_
    refine x_iconst (q := 21) (v := (2 : Int32)) dX12_isHeardMore_20 rfl (by decide) ?_
    refine x_iload_n (q := 22) dX12_isHeardMore_21 rfl rfl ?_
    refine x_imul (q := 23) dX12_isHeardMore_22 rfl ?_
    refine x_iadd (q := 24) dX12_isHeardMore_23 rfl ?_
    refine x_dup2 (q := 25) dX12_isHeardMore_24 rfl ⟨rfl, rfl⟩ ?_
    refine x_iald (q := 26) dX12_isHeardMore_25 rfl (k243 g3 (by decide) hn) g4 ?_
    refine x_iconst (q := 27) (v := (1 : Int32)) dX12_isHeardMore_26 rfl (by decide) ?_
    refine x_iadd (q := 28) dX12_isHeardMore_27 rfl ?_
    replace H := kle H; obtain ⟨h6, q7, H⟩ := H
    refine x_iast (q := 29) dX12_isHeardMore_28 rfl (k243 g3 (by decide) hn) g4 ?_
    refine x_nmH q7 ?_
    have n8 : h6.1 = 243 := by rw [q7]; exact hn
    cases H
    exact x_end ⟨dX12_isHeardMore_29, rfl, rfl⟩
theorem s_X12_isHeardMore {Z : Nat → (Nat → Nat) → State → Prop} (h : KH) (v0 : Nat) (v1 : Int32) {t : KH} (hn : h.1 = 243) (H : f_X12_isHeardMore h v0 v1 = some t) : KM Z yX12_isHeardMore cX12_isHeardMore 2 none 1 [.ref v0, .int v1] h none t :=
  kx_v (own := RX12) (ini := false) (by decide +kernel) (by decide +kernel) rfl (Nat.le_of_ble_eq_true rfl) (s0_X12_isHeardMore h v0 v1 hn H)
theorem dX12_begins_0 : decode cX12_begins 0 = .ok (.iconst 0, 1) := by decide +kernel
theorem dX12_begins_1 : decode cX12_begins 1 = .ok (.istore_n 1, 1) := by decide +kernel
theorem dX12_begins_2 : decode cX12_begins 2 = .ok (.iload_n 1, 1) := by decide +kernel
theorem dX12_begins_3 : decode cX12_begins 3 = .ok (.bipush 6, 2) := by decide +kernel
theorem dX12_begins_5 : decode cX12_begins 5 = .ok (.if_icmp .ge 22, 3) := by decide +kernel
theorem dX12_begins_8 : decode cX12_begins 8 = .ok (.aload_n 0, 1) := by decide +kernel
theorem dX12_begins_9 : decode cX12_begins 9 = .ok (.getfield 115, 3) := by decide +kernel
theorem dX12_begins_12 : decode cX12_begins 12 = .ok (.iconst 2, 1) := by decide +kernel
theorem dX12_begins_13 : decode cX12_begins 13 = .ok (.iconst 2, 1) := by decide +kernel
theorem dX12_begins_14 : decode cX12_begins 14 = .ok (.iload_n 1, 1) := by decide +kernel
theorem dX12_begins_15 : decode cX12_begins 15 = .ok (.imul, 1) := by decide +kernel
theorem dX12_begins_16 : decode cX12_begins 16 = .ok (.iadd, 1) := by decide +kernel
theorem dX12_begins_17 : decode cX12_begins 17 = .ok (.iconst 1, 1) := by decide +kernel
theorem dX12_begins_18 : decode cX12_begins 18 = .ok (.iadd, 1) := by decide +kernel
theorem dX12_begins_19 : decode cX12_begins 19 = .ok (.iconst 0, 1) := by decide +kernel
theorem dX12_begins_20 : decode cX12_begins 20 = .ok (.iastore, 1) := by decide +kernel
theorem dX12_begins_21 : decode cX12_begins 21 = .ok (.iinc 1 1, 3) := by decide +kernel
theorem dX12_begins_24 : decode cX12_begins 24 = .ok (.goto (-22), 3) := by decide +kernel
theorem dX12_begins_27 : decode cX12_begins 27 = .ok (.iconst 0, 1) := by decide +kernel
theorem dX12_begins_28 : decode cX12_begins 28 = .ok (.istore_n 1, 1) := by decide +kernel
theorem dX12_begins_29 : decode cX12_begins 29 = .ok (.iload_n 1, 1) := by decide +kernel
theorem dX12_begins_30 : decode cX12_begins 30 = .ok (.bipush 10, 2) := by decide +kernel
theorem dX12_begins_32 : decode cX12_begins 32 = .ok (.if_icmp .ge 19, 3) := by decide +kernel
theorem dX12_begins_35 : decode cX12_begins 35 = .ok (.aload_n 0, 1) := by decide +kernel
theorem dX12_begins_36 : decode cX12_begins 36 = .ok (.getfield 115, 3) := by decide +kernel
theorem dX12_begins_39 : decode cX12_begins 39 = .ok (.bipush 14, 2) := by decide +kernel
theorem dX12_begins_41 : decode cX12_begins 41 = .ok (.iload_n 1, 1) := by decide +kernel
theorem dX12_begins_42 : decode cX12_begins 42 = .ok (.iadd, 1) := by decide +kernel
theorem dX12_begins_43 : decode cX12_begins 43 = .ok (.iconst 0, 1) := by decide +kernel
theorem dX12_begins_44 : decode cX12_begins 44 = .ok (.iastore, 1) := by decide +kernel
theorem dX12_begins_45 : decode cX12_begins 45 = .ok (.iinc 1 1, 3) := by decide +kernel
theorem dX12_begins_48 : decode cX12_begins 48 = .ok (.goto (-19), 3) := by decide +kernel
theorem dX12_begins_51 : decode cX12_begins 51 = .ok (.return_, 1) := by decide +kernel
def E_X12_begins_l2 (v0 : Nat) : KH → Nat → List (Nat × Value) → List Value → KH → Prop := fun (e : KH) pc ls st hh => pc = 27 ∧ ls = [(0, .ref v0)] ∧ st = [] ∧ e = hh
def B_X12_begins_l2 (v0 : Nat) : ((Int32 × KH) ⊕ (KH)) → Nat → List (Nat × Value) → List Value → KH → Prop := Sum.elim (fun (s : Int32 × KH) pc ls st hh => pc = 2 ∧ ls = [(0, .ref v0), (1, .int s.1)] ∧ st = [] ∧ hh = s.2) (E_X12_begins_l2 v0)
def f_X12_begins_l2 (v0 : Nat) (s : Int32 × KH) : Option ((Int32 × KH) ⊕ (KH)) :=
  if (6 : Int32) ≤ s.1 then
  some (.inr s.2)
  else
  if kkind v0 = 12 then if (kR s.2 v0 45) < 999999 then if kkind (kR s.2 v0 45) = 20 then if ((((2 : Int32) + ((2 : Int32) * s.1)) + (1 : Int32)) < 0 ∨ klen (kR s.2 v0 45) ≤ ((((2 : Int32) + ((2 : Int32) * s.1)) + (1 : Int32))).toNatClampNeg) then none else kl (ksI s.2 (kR s.2 v0 45) (((((2 : Int32) + ((2 : Int32) * s.1)) + (1 : Int32))).toNatClampNeg) (0 : Int32)) fun h6 =>
  kl (s.1 + (1 : Int32)) fun x9 =>
  some (.inl (x9, h6)) else none else none else none
set_option maxHeartbeats 4000000 in
set_option maxRecDepth 100000 in
theorem s_X12_begins_l2 {Z : Nat → (Nat → Nat) → State → Prop} (v0 : Nat) (s : Int32 × KH) (t : (Int32 × KH) ⊕ (KH)) (hn : (s.2).1 = 243) (H : f_X12_begins_l2 v0 s = some t) : KX Z RX12 cX12_begins 2 false 1 (B_X12_begins_l2 v0 t) 2 [(0, .ref v0), (1, .int s.1)] [] s.2 := by
  unfold f_X12_begins_l2 at H
  refine x_iload_n (q := 3) dX12_begins_2 rfl rfl ?_
  refine x_bipush (q := 5) (v := (6 : Int32)) dX12_begins_3 rfl (by decide) ?_
  replace H := kite H; rcases H with ⟨g1, H⟩ | ⟨g1, H⟩
  · refine x_icmp_ge_t dX12_begins_5 (q := 27) (by decide) g1 ?_
    cases H
    refine x_sub (ls2 := [(0, .ref v0)]) [0] rfl ?_
    exact x_end (x_cfg rfl)
  · refine x_icmp_ge_f (q := 8) dX12_begins_5 (t := 27) (by decide) rfl g1 ?_
    refine x_aload_n (q := 9) dX12_begins_8 rfl rfl ?_
    replace H := kif H; obtain ⟨g2, H⟩ := H
    replace H := kif H; obtain ⟨g3, H⟩ := H
    refine x_getR (q := 12) dX12_begins_9 rfl kl_RX12_115 rfl (k243 g2 (by decide) hn) g3 ?_
    refine x_iconst (q := 13) (v := (2 : Int32)) dX12_begins_12 rfl (by decide) ?_
    refine x_iconst (q := 14) (v := (2 : Int32)) dX12_begins_13 rfl (by decide) ?_
    refine x_iload_n (q := 15) dX12_begins_14 rfl rfl ?_
    refine x_imul (q := 16) dX12_begins_15 rfl ?_
    refine x_iadd (q := 17) dX12_begins_16 rfl ?_
    refine x_iconst (q := 18) (v := (1 : Int32)) dX12_begins_17 rfl (by decide) ?_
    refine x_iadd (q := 19) dX12_begins_18 rfl ?_
    refine x_iconst (q := 20) (v := (0 : Int32)) dX12_begins_19 rfl (by decide) ?_
    replace H := kif H; obtain ⟨g4, H⟩ := H
    replace H := kifn H; obtain ⟨g5, H⟩ := H
    replace H := kle H; obtain ⟨h6, q7, H⟩ := H
    refine x_iast (q := 21) dX12_begins_20 rfl (k243 g4 (by decide) hn) g5 ?_
    refine x_nmH q7 ?_
    have n8 : h6.1 = 243 := by rw [q7]; exact hn
    replace H := kle H; obtain ⟨x9, q10, H⟩ := H
    refine x_iinc (q := 24) (i := 1) (ls2 := [(1, .int x9), (0, .ref v0)]) dX12_begins_21 rfl rfl (by decide) (by rw [q10]; rfl) ?_
    refine x_goto dX12_begins_24 (q := 2) (by decide) ?_
    cases H
    refine x_sub (ls2 := [(0, .ref v0), (1, .int x9)]) [1, 0] rfl ?_
    exact x_end (x_cfg rfl)
theorem sl_X12_begins_l2 {Z : Nat → (Nat → Nat) → State → Prop} (v0 : Nat) (n : Nat) (s : Int32 × KH) (r : KH) (hn : (s.2).1 = 243) (H : kloop (f_X12_begins_l2 v0) n s = some r) : KX Z RX12 cX12_begins 2 false 1 (E_X12_begins_l2 v0 r) 2 [(0, .ref v0), (1, .int s.1)] [] s.2 :=
  k_loop (ls := (fun (s : Int32 × KH) => ([(0, .ref v0), (1, .int s.1)] : List (Nat × Value)))) (hp := (fun (s : Int32 × KH) => (s.2 : KH))) (G := E_X12_begins_l2 v0) (fun s t hn H => s_X12_begins_l2 v0 s t hn H) n s r hn H
def E_X12_begins_l29 (v0 : Nat) : KH → Nat → List (Nat × Value) → List Value → KH → Prop := fun (e : KH) pc ls st hh => pc = 51 ∧ ls = [] ∧ st = [] ∧ e = hh
def B_X12_begins_l29 (v0 : Nat) : ((Int32 × KH) ⊕ (KH)) → Nat → List (Nat × Value) → List Value → KH → Prop := Sum.elim (fun (s : Int32 × KH) pc ls st hh => pc = 29 ∧ ls = [(0, .ref v0), (1, .int s.1)] ∧ st = [] ∧ hh = s.2) (E_X12_begins_l29 v0)
def f_X12_begins_l29 (v0 : Nat) (s : Int32 × KH) : Option ((Int32 × KH) ⊕ (KH)) :=
  if (10 : Int32) ≤ s.1 then
  some (.inr s.2)
  else
  if kkind v0 = 12 then if (kR s.2 v0 45) < 999999 then if kkind (kR s.2 v0 45) = 20 then if (((14 : Int32) + s.1) < 0 ∨ klen (kR s.2 v0 45) ≤ (((14 : Int32) + s.1)).toNatClampNeg) then none else kl (ksI s.2 (kR s.2 v0 45) ((((14 : Int32) + s.1)).toNatClampNeg) (0 : Int32)) fun h6 =>
  kl (s.1 + (1 : Int32)) fun x9 =>
  some (.inl (x9, h6)) else none else none else none
set_option maxHeartbeats 4000000 in
set_option maxRecDepth 100000 in
theorem s_X12_begins_l29 {Z : Nat → (Nat → Nat) → State → Prop} (v0 : Nat) (s : Int32 × KH) (t : (Int32 × KH) ⊕ (KH)) (hn : (s.2).1 = 243) (H : f_X12_begins_l29 v0 s = some t) : KX Z RX12 cX12_begins 2 false 1 (B_X12_begins_l29 v0 t) 29 [(0, .ref v0), (1, .int s.1)] [] s.2 := by
  unfold f_X12_begins_l29 at H
  refine x_iload_n (q := 30) dX12_begins_29 rfl rfl ?_
  refine x_bipush (q := 32) (v := (10 : Int32)) dX12_begins_30 rfl (by decide) ?_
  replace H := kite H; rcases H with ⟨g1, H⟩ | ⟨g1, H⟩
  · refine x_icmp_ge_t dX12_begins_32 (q := 51) (by decide) g1 ?_
    cases H
    refine x_sub (ls2 := []) [] rfl ?_
    exact x_end (x_cfg rfl)
  · refine x_icmp_ge_f (q := 35) dX12_begins_32 (t := 51) (by decide) rfl g1 ?_
    refine x_aload_n (q := 36) dX12_begins_35 rfl rfl ?_
    replace H := kif H; obtain ⟨g2, H⟩ := H
    replace H := kif H; obtain ⟨g3, H⟩ := H
    refine x_getR (q := 39) dX12_begins_36 rfl kl_RX12_115 rfl (k243 g2 (by decide) hn) g3 ?_
    refine x_bipush (q := 41) (v := (14 : Int32)) dX12_begins_39 rfl (by decide) ?_
    refine x_iload_n (q := 42) dX12_begins_41 rfl rfl ?_
    refine x_iadd (q := 43) dX12_begins_42 rfl ?_
    refine x_iconst (q := 44) (v := (0 : Int32)) dX12_begins_43 rfl (by decide) ?_
    replace H := kif H; obtain ⟨g4, H⟩ := H
    replace H := kifn H; obtain ⟨g5, H⟩ := H
    replace H := kle H; obtain ⟨h6, q7, H⟩ := H
    refine x_iast (q := 45) dX12_begins_44 rfl (k243 g4 (by decide) hn) g5 ?_
    refine x_nmH q7 ?_
    have n8 : h6.1 = 243 := by rw [q7]; exact hn
    replace H := kle H; obtain ⟨x9, q10, H⟩ := H
    refine x_iinc (q := 48) (i := 1) (ls2 := [(1, .int x9), (0, .ref v0)]) dX12_begins_45 rfl rfl (by decide) (by rw [q10]; rfl) ?_
    refine x_goto dX12_begins_48 (q := 29) (by decide) ?_
    cases H
    refine x_sub (ls2 := [(0, .ref v0), (1, .int x9)]) [1, 0] rfl ?_
    exact x_end (x_cfg rfl)
theorem sl_X12_begins_l29 {Z : Nat → (Nat → Nat) → State → Prop} (v0 : Nat) (n : Nat) (s : Int32 × KH) (r : KH) (hn : (s.2).1 = 243) (H : kloop (f_X12_begins_l29 v0) n s = some r) : KX Z RX12 cX12_begins 2 false 1 (E_X12_begins_l29 v0 r) 29 [(0, .ref v0), (1, .int s.1)] [] s.2 :=
  k_loop (ls := (fun (s : Int32 × KH) => ([(0, .ref v0), (1, .int s.1)] : List (Nat × Value)))) (hp := (fun (s : Int32 × KH) => (s.2 : KH))) (G := E_X12_begins_l29 v0) (fun s t hn H => s_X12_begins_l29 v0 s t hn H) n s r hn H
def f_X12_begins (h : KH) (v0 : Nat) : Option (KH) :=
  kb (kloop (f_X12_begins_l2 v0) KF ((0 : Int32), h)) fun e1 =>
  kb (kloop (f_X12_begins_l29 v0) KF ((0 : Int32), e1)) fun e4 =>
  some e4
set_option maxHeartbeats 4000000 in
set_option maxRecDepth 100000 in
theorem s0_X12_begins {Z : Nat → (Nat → Nat) → State → Prop} (h : KH) (v0 : Nat) {t : KH} (hn : h.1 = 243) (H : f_X12_begins h v0 = some t) : KX Z RX12 cX12_begins 2 false 1 (KRv cX12_begins t) 0 [(0, .ref v0)] [] h := by
  unfold f_X12_begins at H
  refine x_iconst (q := 1) (v := (0 : Int32)) dX12_begins_0 rfl (by decide) ?_
  refine x_istore_n (q := 2) (i := 1) (ls2 := [(1, .int (0 : Int32)), (0, .ref v0)]) dX12_begins_1 rfl rfl (by decide) rfl ?_
  refine x_sub (ls2 := [(0, .ref v0), (1, .int (0 : Int32))]) [1, 0] rfl ?_
  replace H := kbe H; obtain ⟨e1, c2, H⟩ := H
  refine x_app (sl_X12_begins_l2 v0 KF ((0 : Int32), h) e1 hn c2) fun pc2 ls2 st2 h2 hg m3 => ?_
  obtain ⟨rfl, rfl, rfl, rfl⟩ := hg
  refine x_iconst (q := 28) (v := (0 : Int32)) dX12_begins_27 rfl (by decide) ?_
  refine x_istore_n (q := 29) (i := 1) (ls2 := [(1, .int (0 : Int32)), (0, .ref v0)]) dX12_begins_28 rfl rfl (by decide) rfl ?_
  refine x_sub (ls2 := [(0, .ref v0), (1, .int (0 : Int32))]) [1, 0] rfl ?_
  replace H := kbe H; obtain ⟨e4, c5, H⟩ := H
  refine x_app (sl_X12_begins_l29 v0 KF ((0 : Int32), e1) e4 (m3.full hn) c5) fun pc2 ls2 st2 h2 hg m6 => ?_
  obtain ⟨rfl, rfl, rfl, rfl⟩ := hg
  cases H
  exact x_end ⟨dX12_begins_51, rfl, rfl⟩
theorem s_X12_begins {Z : Nat → (Nat → Nat) → State → Prop} (h : KH) (v0 : Nat) {t : KH} (hn : h.1 = 243) (H : f_X12_begins h v0 = some t) : KM Z yX12_begins cX12_begins 2 none 1 [.ref v0] h none t :=
  kx_v (own := RX12) (ini := false) (by decide +kernel) (by decide +kernel) rfl (Nat.le_of_ble_eq_true rfl) (s0_X12_begins h v0 hn H)
theorem dX12_ahead_0 : decode cX12_ahead 0 = .ok (.iload_n 1, 1) := by decide +kernel
theorem dX12_ahead_1 : decode cX12_ahead 1 = .ok (.i2l, 1) := by decide +kernel
theorem dX12_ahead_2 : decode cX12_ahead 2 = .ok (.lconst 0, 1) := by decide +kernel
theorem dX12_ahead_3 : decode cX12_ahead 3 = .ok (.ldc2_w 492, 3) := by decide +kernel
theorem dX12_ahead_6 : decode cX12_ahead 6 = .ok (.invokestatic 270, 3) := by decide +kernel
theorem dX12_ahead_9 : decode cX12_ahead 9 = .ok (.ifCond .eq 15, 3) := by decide +kernel
theorem dX12_ahead_12 : decode cX12_ahead 12 = .ok (.iload_n 2, 1) := by decide +kernel
theorem dX12_ahead_13 : decode cX12_ahead 13 = .ok (.i2l, 1) := by decide +kernel
theorem dX12_ahead_14 : decode cX12_ahead 14 = .ok (.lconst 0, 1) := by decide +kernel
theorem dX12_ahead_15 : decode cX12_ahead 15 = .ok (.ldc2_w 464, 3) := by decide +kernel
theorem dX12_ahead_18 : decode cX12_ahead 18 = .ok (.invokestatic 270, 3) := by decide +kernel
theorem dX12_ahead_21 : decode cX12_ahead 21 = .ok (.ifCond .ne 5, 3) := by decide +kernel
theorem dX12_ahead_24 : decode cX12_ahead 24 = .ok (.iconst (-1), 1) := by decide +kernel
theorem dX12_ahead_25 : decode cX12_ahead 25 = .ok (.ireturn, 1) := by decide +kernel
theorem dX12_ahead_26 : decode cX12_ahead 26 = .ok (.aload_n 0, 1) := by decide +kernel
theorem dX12_ahead_27 : decode cX12_ahead 27 = .ok (.invokevirtual 494, 3) := by decide +kernel
theorem dX12_ahead_30 : decode cX12_ahead 30 = .ok (.iconst 0, 1) := by decide +kernel
theorem dX12_ahead_31 : decode cX12_ahead 31 = .ok (.istore_n 3, 1) := by decide +kernel
theorem dX12_ahead_32 : decode cX12_ahead 32 = .ok (.iload_n 3, 1) := by decide +kernel
theorem dX12_ahead_33 : decode cX12_ahead 33 = .ok (.aload_n 0, 1) := by decide +kernel
theorem dX12_ahead_34 : decode cX12_ahead 34 = .ok (.invokevirtual 367, 3) := by decide +kernel
theorem dX12_ahead_37 : decode cX12_ahead 37 = .ok (.if_icmp .ge 22, 3) := by decide +kernel
theorem dX12_ahead_40 : decode cX12_ahead 40 = .ok (.aload_n 0, 1) := by decide +kernel
theorem dX12_ahead_41 : decode cX12_ahead 41 = .ok (.iload_n 3, 1) := by decide +kernel
theorem dX12_ahead_42 : decode cX12_ahead 42 = .ok (.invokevirtual 400, 3) := by decide +kernel
theorem dX12_ahead_45 : decode cX12_ahead 45 = .ok (.ifCond .eq 8, 3) := by decide +kernel
theorem dX12_ahead_48 : decode cX12_ahead 48 = .ok (.aload_n 0, 1) := by decide +kernel
theorem dX12_ahead_49 : decode cX12_ahead 49 = .ok (.iload_n 3, 1) := by decide +kernel
theorem dX12_ahead_50 : decode cX12_ahead 50 = .ok (.invokevirtual 497, 3) := by decide +kernel
theorem dX12_ahead_53 : decode cX12_ahead 53 = .ok (.iinc 3 1, 3) := by decide +kernel
theorem dX12_ahead_56 : decode cX12_ahead 56 = .ok (.goto (-24), 3) := by decide +kernel
theorem dX12_ahead_59 : decode cX12_ahead 59 = .ok (.aload_n 0, 1) := by decide +kernel
theorem dX12_ahead_60 : decode cX12_ahead 60 = .ok (.invokevirtual 500, 3) := by decide +kernel
theorem dX12_ahead_63 : decode cX12_ahead 63 = .ok (.aload_n 0, 1) := by decide +kernel
theorem dX12_ahead_64 : decode cX12_ahead 64 = .ok (.iconst 1, 1) := by decide +kernel
theorem dX12_ahead_65 : decode cX12_ahead 65 = .ok (.invokevirtual 478, 3) := by decide +kernel
theorem dX12_ahead_68 : decode cX12_ahead 68 = .ok (.iconst (-1), 1) := by decide +kernel
theorem dX12_ahead_69 : decode cX12_ahead 69 = .ok (.istore_n 3, 1) := by decide +kernel
theorem dX12_ahead_70 : decode cX12_ahead 70 = .ok (.iconst 0, 1) := by decide +kernel
theorem dX12_ahead_71 : decode cX12_ahead 71 = .ok (.istore 4, 2) := by decide +kernel
theorem dX12_ahead_73 : decode cX12_ahead 73 = .ok (.iload 4, 2) := by decide +kernel
theorem dX12_ahead_75 : decode cX12_ahead 75 = .ok (.iload_n 1, 1) := by decide +kernel
theorem dX12_ahead_76 : decode cX12_ahead 76 = .ok (.if_icmp .gt 102, 3) := by decide +kernel
theorem dX12_ahead_79 : decode cX12_ahead 79 = .ok (.aload_n 0, 1) := by decide +kernel
theorem dX12_ahead_80 : decode cX12_ahead 80 = .ok (.getfield 422, 3) := by decide +kernel
theorem dX12_ahead_83 : decode cX12_ahead 83 = .ok (.lconst 0, 1) := by decide +kernel
theorem dX12_ahead_84 : decode cX12_ahead 84 = .ok (.lcmp, 1) := by decide +kernel
theorem dX12_ahead_85 : decode cX12_ahead 85 = .ok (.ifCond .le 93, 3) := by decide +kernel
theorem dX12_ahead_88 : decode cX12_ahead 88 = .ok (.aload_n 0, 1) := by decide +kernel
theorem dX12_ahead_89 : decode cX12_ahead 89 = .ok (.iconst 1, 1) := by decide +kernel
theorem dX12_ahead_90 : decode cX12_ahead 90 = .ok (.invokevirtual 478, 3) := by decide +kernel
theorem dX12_ahead_93 : decode cX12_ahead 93 = .ok (.aload_n 0, 1) := by decide +kernel
theorem dX12_ahead_94 : decode cX12_ahead 94 = .ok (.aload_n 0, 1) := by decide +kernel
theorem dX12_ahead_95 : decode cX12_ahead 95 = .ok (.invokevirtual 482, 3) := by decide +kernel
theorem dX12_ahead_98 : decode cX12_ahead 98 = .ok (.invokevirtual 485, 3) := by decide +kernel
theorem dX12_ahead_101 : decode cX12_ahead 101 = .ok (.istore 5, 2) := by decide +kernel
theorem dX12_ahead_103 : decode cX12_ahead 103 = .ok (.iload_n 2, 1) := by decide +kernel
theorem dX12_ahead_104 : decode cX12_ahead 104 = .ok (.ifCond .ne 8, 3) := by decide +kernel
theorem dX12_ahead_107 : decode cX12_ahead 107 = .ok (.iload 5, 2) := by decide +kernel
theorem dX12_ahead_109 : decode cX12_ahead 109 = .ok (.goto 27, 3) := by decide +kernel
theorem dX12_ahead_112 : decode cX12_ahead 112 = .ok (.iload_n 2, 1) := by decide +kernel
theorem dX12_ahead_113 : decode cX12_ahead 113 = .ok (.iconst 1, 1) := by decide +kernel
theorem dX12_ahead_114 : decode cX12_ahead 114 = .ok (.if_icmp .ne 16, 3) := by decide +kernel
theorem dX12_ahead_117 : decode cX12_ahead 117 = .ok (.aload_n 0, 1) := by decide +kernel
theorem dX12_ahead_118 : decode cX12_ahead 118 = .ok (.aload_n 0, 1) := by decide +kernel
theorem dX12_ahead_119 : decode cX12_ahead 119 = .ok (.iload 5, 2) := by decide +kernel
theorem dX12_ahead_121 : decode cX12_ahead 121 = .ok (.invokevirtual 438, 3) := by decide +kernel
theorem dX12_ahead_124 : decode cX12_ahead 124 = .ok (.invokevirtual 442, 3) := by decide +kernel
theorem dX12_ahead_127 : decode cX12_ahead 127 = .ok (.goto 9, 3) := by decide +kernel
theorem dX12_ahead_130 : decode cX12_ahead 130 = .ok (.aload_n 0, 1) := by decide +kernel
theorem dX12_ahead_131 : decode cX12_ahead 131 = .ok (.iload 5, 2) := by decide +kernel
theorem dX12_ahead_133 : decode cX12_ahead 133 = .ok (.invokevirtual 446, 3) := by decide +kernel
theorem dX12_ahead_136 : decode cX12_ahead 136 = .ok (.istore_n 3, 1) := by decide +kernel
theorem dX12_ahead_137 : decode cX12_ahead 137 = .ok (.iconst 0, 1) := by decide +kernel
theorem dX12_ahead_138 : decode cX12_ahead 138 = .ok (.istore 6, 2) := by decide +kernel
theorem dX12_ahead_140 : decode cX12_ahead 140 = .ok (.iload 6, 2) := by decide +kernel
theorem dX12_ahead_142 : decode cX12_ahead 142 = .ok (.aload_n 0, 1) := by decide +kernel
theorem dX12_ahead_143 : decode cX12_ahead 143 = .ok (.invokevirtual 367, 3) := by decide +kernel
theorem dX12_ahead_146 : decode cX12_ahead 146 = .ok (.if_icmp .ge 26, 3) := by decide +kernel
theorem dX12_ahead_149 : decode cX12_ahead 149 = .ok (.iload 5, 2) := by decide +kernel
theorem dX12_ahead_151 : decode cX12_ahead 151 = .ok (.iload 6, 2) := by decide +kernel
theorem dX12_ahead_153 : decode cX12_ahead 153 = .ok (.ishr, 1) := by decide +kernel
theorem dX12_ahead_154 : decode cX12_ahead 154 = .ok (.iconst 1, 1) := by decide +kernel
theorem dX12_ahead_155 : decode cX12_ahead 155 = .ok (.iand, 1) := by decide +kernel
theorem dX12_ahead_156 : decode cX12_ahead 156 = .ok (.iconst 1, 1) := by decide +kernel
theorem dX12_ahead_157 : decode cX12_ahead 157 = .ok (.if_icmp .ne 9, 3) := by decide +kernel
theorem dX12_ahead_160 : decode cX12_ahead 160 = .ok (.aload_n 0, 1) := by decide +kernel
theorem dX12_ahead_161 : decode cX12_ahead 161 = .ok (.iload 6, 2) := by decide +kernel
theorem dX12_ahead_163 : decode cX12_ahead 163 = .ok (.invokevirtual 497, 3) := by decide +kernel
theorem dX12_ahead_166 : decode cX12_ahead 166 = .ok (.iinc 6 1, 3) := by decide +kernel
theorem dX12_ahead_169 : decode cX12_ahead 169 = .ok (.goto (-29), 3) := by decide +kernel
theorem dX12_ahead_172 : decode cX12_ahead 172 = .ok (.iinc 4 1, 3) := by decide +kernel
theorem dX12_ahead_175 : decode cX12_ahead 175 = .ok (.goto (-102), 3) := by decide +kernel
theorem dX12_ahead_178 : decode cX12_ahead 178 = .ok (.aload_n 0, 1) := by decide +kernel
theorem dX12_ahead_179 : decode cX12_ahead 179 = .ok (.invokevirtual 503, 3) := by decide +kernel
theorem dX12_ahead_182 : decode cX12_ahead 182 = .ok (.iload_n 3, 1) := by decide +kernel
theorem dX12_ahead_183 : decode cX12_ahead 183 = .ok (.ireturn, 1) := by decide +kernel
theorem kk_RX12_492 : Jvm.Cond.constantLong RX12 492 (29 : Int64) ∈ ktG := kwm 1869 (by decide +kernel) (by decide +kernel)
theorem kc_RX12_494 : Cond.methodLink RX12 494 yX12_putsAside ∈ ktG ∧ (Cond.instanceMethod yX12_putsAside ∈ ktG ∧ Cond.selects yX12_putsAside.cls yX12_putsAside yX12_putsAside ∈ ktG) ∧ Cond.initialized yX12_putsAside.cls ∈ ktG ∧ Cond.code yX12_putsAside cX12_putsAside 2 none ∈ ktG := ⟨(kwm 1870 (by decide +kernel) (by decide +kernel)), ⟨(kwm 1872 (by decide +kernel) (by decide +kernel)), (kwm 101 (by decide +kernel) (by decide +kernel))⟩, (kwm 139 (by decide +kernel) (by decide +kernel)), kwm 1873 (by decide +kernel) (by decide +kernel)⟩
theorem kh_X12_putsAside : yX12_putsAside.cls ≠ "java/lang/invoke/MethodHandle" ∧ yX12_putsAside.cls ≠ "java/lang/invoke/VarHandle" ∧ (parseMethodDescriptor yX12_putsAside.desc).map (fun d => d.parameters.length) = some 0 := by decide +kernel
theorem kc_RX12_497 : Cond.methodLink RX12 497 yX12_isHeardMore ∈ ktG ∧ (Cond.instanceMethod yX12_isHeardMore ∈ ktG ∧ Cond.selects yX12_isHeardMore.cls yX12_isHeardMore yX12_isHeardMore ∈ ktG) ∧ Cond.initialized yX12_isHeardMore.cls ∈ ktG ∧ Cond.code yX12_isHeardMore cX12_isHeardMore 2 none ∈ ktG := ⟨(kwm 1874 (by decide +kernel) (by decide +kernel)), ⟨(kwm 1876 (by decide +kernel) (by decide +kernel)), (kwm 102 (by decide +kernel) (by decide +kernel))⟩, (kwm 139 (by decide +kernel) (by decide +kernel)), kwm 1877 (by decide +kernel) (by decide +kernel)⟩
theorem kh_X12_isHeardMore : yX12_isHeardMore.cls ≠ "java/lang/invoke/MethodHandle" ∧ yX12_isHeardMore.cls ≠ "java/lang/invoke/VarHandle" ∧ (parseMethodDescriptor yX12_isHeardMore.desc).map (fun d => d.parameters.length) = some 1 := by decide +kernel
theorem kc_RX12_500 : Cond.methodLink RX12 500 yX12_begins ∈ ktG ∧ (Cond.instanceMethod yX12_begins ∈ ktG ∧ Cond.selects yX12_begins.cls yX12_begins yX12_begins ∈ ktG) ∧ Cond.initialized yX12_begins.cls ∈ ktG ∧ Cond.code yX12_begins cX12_begins 2 none ∈ ktG := ⟨(kwm 1878 (by decide +kernel) (by decide +kernel)), ⟨(kwm 1880 (by decide +kernel) (by decide +kernel)), (kwm 103 (by decide +kernel) (by decide +kernel))⟩, (kwm 139 (by decide +kernel) (by decide +kernel)), kwm 1881 (by decide +kernel) (by decide +kernel)⟩
theorem kh_X12_begins : yX12_begins.cls ≠ "java/lang/invoke/MethodHandle" ∧ yX12_begins.cls ≠ "java/lang/invoke/VarHandle" ∧ (parseMethodDescriptor yX12_begins.desc).map (fun d => d.parameters.length) = some 0 := by decide +kernel
theorem kc_RX12_503 : Cond.methodLink RX12 503 yX12_takesBack ∈ ktG ∧ (Cond.instanceMethod yX12_takesBack ∈ ktG ∧ Cond.selects yX12_takesBack.cls yX12_takesBack yX12_takesBack ∈ ktG) ∧ Cond.initialized yX12_takesBack.cls ∈ ktG ∧ Cond.code yX12_takesBack cX12_takesBack 2 none ∈ ktG := ⟨(kwm 1882 (by decide +kernel) (by decide +kernel)), ⟨(kwm 1884 (by decide +kernel) (by decide +kernel)), (kwm 104 (by decide +kernel) (by decide +kernel))⟩, (kwm 139 (by decide +kernel) (by decide +kernel)), kwm 1885 (by decide +kernel) (by decide +kernel)⟩
theorem kh_X12_takesBack : yX12_takesBack.cls ≠ "java/lang/invoke/MethodHandle" ∧ yX12_takesBack.cls ≠ "java/lang/invoke/VarHandle" ∧ (parseMethodDescriptor yX12_takesBack.desc).map (fun d => d.parameters.length) = some 0 := by decide +kernel
def E_X12_ahead_l32 (v0 : Nat) (v1 : Int32) (v2 : Int32) : KH → Nat → List (Nat × Value) → List Value → KH → Prop := fun (e : KH) pc ls st hh => pc = 59 ∧ ls = [(0, .ref v0), (1, .int v1), (2, .int v2)] ∧ st = [] ∧ e = hh
def B_X12_ahead_l32 (v0 : Nat) (v1 : Int32) (v2 : Int32) : ((Int32 × KH) ⊕ (KH)) → Nat → List (Nat × Value) → List Value → KH → Prop := Sum.elim (fun (s : Int32 × KH) pc ls st hh => pc = 32 ∧ ls = [(0, .ref v0), (1, .int v1), (2, .int v2), (3, .int s.1)] ∧ st = [] ∧ hh = s.2) (E_X12_ahead_l32 v0 v1 v2)
def f_X12_ahead_b53 (h : KH) (v0 : Nat) (v1 : Int32) (v2 : Int32) (v3 : Int32) : Option ((Int32 × KH) ⊕ (KH)) :=
  kl (v3 + (1 : Int32)) fun x1 =>
  some (.inl (x1, h))
set_option maxHeartbeats 4000000 in
set_option maxRecDepth 100000 in
theorem s_X12_ahead_b53 {Z : Nat → (Nat → Nat) → State → Prop} (h : KH) (v0 : Nat) (v1 : Int32) (v2 : Int32) (v3 : Int32) {t : (Int32 × KH) ⊕ (KH)} (hn : h.1 = 243) (H : f_X12_ahead_b53 h v0 v1 v2 v3 = some t) : KX Z RX12 cX12_ahead 7 false 6 (B_X12_ahead_l32 v0 v1 v2 t) 53 [(0, .ref v0), (1, .int v1), (2, .int v2), (3, .int v3)] [] h := by
  unfold f_X12_ahead_b53 at H
  replace H := kle H; obtain ⟨x1, q2, H⟩ := H
  refine x_iinc (q := 56) (i := 3) (ls2 := [(3, .int x1), (0, .ref v0), (1, .int v1), (2, .int v2)]) dX12_ahead_53 rfl rfl (by decide) (by rw [q2]; rfl) ?_
  refine x_goto dX12_ahead_56 (q := 32) (by decide) ?_
  cases H
  refine x_sub (ls2 := [(0, .ref v0), (1, .int v1), (2, .int v2), (3, .int x1)]) [1, 2, 3, 0] rfl ?_
  exact x_end (x_cfg rfl)
def f_X12_ahead_l32 (v0 : Nat) (v1 : Int32) (v2 : Int32) (s : Int32 × KH) : Option ((Int32 × KH) ⊕ (KH)) :=
  if kkind v0 = 12 then kb (f_X12_testMany s.2 v0) fun r2 =>
  if r2 ≤ s.1 then
  some (.inr s.2)
  else
  kb (f_X12_stateOf s.2 v0 s.1) fun r6 =>
  if r6 = 0 then
  f_X12_ahead_b53 s.2 v0 v1 v2 s.1
  else
  kb (f_X12_isHeardMore s.2 v0 s.1) fun r10 =>
  f_X12_ahead_b53 r10 v0 v1 v2 s.1 else none
set_option maxHeartbeats 4000000 in
set_option maxRecDepth 100000 in
theorem s_X12_ahead_l32 {Z : Nat → (Nat → Nat) → State → Prop} (v0 : Nat) (v1 : Int32) (v2 : Int32) (s : Int32 × KH) (t : (Int32 × KH) ⊕ (KH)) (hn : (s.2).1 = 243) (H : f_X12_ahead_l32 v0 v1 v2 s = some t) : KX Z RX12 cX12_ahead 7 false 6 (B_X12_ahead_l32 v0 v1 v2 t) 32 [(0, .ref v0), (1, .int v1), (2, .int v2), (3, .int s.1)] [] s.2 := by
  unfold f_X12_ahead_l32 at H
  refine x_iload_n (q := 33) dX12_ahead_32 rfl rfl ?_
  refine x_aload_n (q := 34) dX12_ahead_33 rfl rfl ?_
  replace H := kif H; obtain ⟨g1, H⟩ := H
  replace H := kbe H; obtain ⟨r2, c3, H⟩ := H
  have m4 := s_X12_testMany (Z := Z) s.2 v0 hn c3
  refine x_callV (q := 37) (as := []) (rest := [.int s.1]) dX12_ahead_34 rfl kc_RX12_367 kh_X12_testMany (by decide) (Nat.le_of_ble_eq_true rfl) m4 (ci := 12) (by exact ⟨rfl, by decide⟩) (k243 g1 (by decide) hn) ?_
  replace H := kite H; rcases H with ⟨g5, H⟩ | ⟨g5, H⟩
  · refine x_icmp_ge_t dX12_ahead_37 (q := 59) (by decide) g5 ?_
    cases H
    refine x_sub (ls2 := [(0, .ref v0), (1, .int v1), (2, .int v2)]) [0, 1, 2] rfl ?_
    exact x_end (x_cfg rfl)
  · refine x_icmp_ge_f (q := 40) dX12_ahead_37 (t := 59) (by decide) rfl g5 ?_
    refine x_aload_n (q := 41) dX12_ahead_40 rfl rfl ?_
    refine x_iload_n (q := 42) dX12_ahead_41 rfl rfl ?_
    replace H := kbe H; obtain ⟨r6, c7, H⟩ := H
    have m8 := s_X12_stateOf (Z := Z) s.2 v0 s.1 hn c7
    refine x_callV (q := 45) (as := [.int s.1]) (rest := []) dX12_ahead_42 rfl kc_RX12_400 kh_X12_stateOf (by decide) (Nat.le_of_ble_eq_true rfl) m8 (ci := 12) (by exact ⟨rfl, by decide⟩) (k243 g1 (by decide) hn) ?_
    replace H := kite H; rcases H with ⟨g9, H⟩ | ⟨g9, H⟩
    · refine x_if_eq_t dX12_ahead_45 (q := 53) (by decide) g9 ?_
      refine x_sub (ls2 := [(0, .ref v0), (1, .int v1), (2, .int v2), (3, .int s.1)]) [0, 1, 2, 3] rfl ?_
      exact s_X12_ahead_b53 s.2 v0 v1 v2 s.1 hn H
    · refine x_if_eq_f (q := 48) dX12_ahead_45 (t := 53) (by decide) rfl g9 ?_
      refine x_aload_n (q := 49) dX12_ahead_48 rfl rfl ?_
      refine x_iload_n (q := 50) dX12_ahead_49 rfl rfl ?_
      replace H := kbe H; obtain ⟨r10, c11, H⟩ := H
      have m12 := s_X12_isHeardMore (Z := Z) s.2 v0 s.1 hn c11
      refine x_callV (q := 53) (as := [.int s.1]) (rest := []) dX12_ahead_50 rfl kc_RX12_497 kh_X12_isHeardMore (by decide) (Nat.le_of_ble_eq_true rfl) m12 (ci := 12) (by exact ⟨rfl, by decide⟩) (k243 g1 (by decide) hn) ?_
      have n13 : (r10).1 = 243 := m12.1.full hn
      refine x_sub (ls2 := [(0, .ref v0), (1, .int v1), (2, .int v2), (3, .int s.1)]) [0, 1, 2, 3] rfl ?_
      exact s_X12_ahead_b53 r10 v0 v1 v2 s.1 n13 H
theorem sl_X12_ahead_l32 {Z : Nat → (Nat → Nat) → State → Prop} (v0 : Nat) (v1 : Int32) (v2 : Int32) (n : Nat) (s : Int32 × KH) (r : KH) (hn : (s.2).1 = 243) (H : kloop (f_X12_ahead_l32 v0 v1 v2) n s = some r) : KX Z RX12 cX12_ahead 7 false 6 (E_X12_ahead_l32 v0 v1 v2 r) 32 [(0, .ref v0), (1, .int v1), (2, .int v2), (3, .int s.1)] [] s.2 :=
  k_loop (ls := (fun (s : Int32 × KH) => ([(0, .ref v0), (1, .int v1), (2, .int v2), (3, .int s.1)] : List (Nat × Value)))) (hp := (fun (s : Int32 × KH) => (s.2 : KH))) (G := E_X12_ahead_l32 v0 v1 v2) (fun s t hn H => s_X12_ahead_l32 v0 v1 v2 s t hn H) n s r hn H
def E_X12_ahead_l73 (v0 : Nat) (v1 : Int32) (v2 : Int32) : Int32 × KH → Nat → List (Nat × Value) → List Value → KH → Prop := fun (e : Int32 × KH) pc ls st hh => pc = 178 ∧ ls = [(0, .ref v0), (3, .int e.1)] ∧ st = [] ∧ e.2 = hh
def B_X12_ahead_l73 (v0 : Nat) (v1 : Int32) (v2 : Int32) : ((Int32 × Int32 × KH) ⊕ (Int32 × KH)) → Nat → List (Nat × Value) → List Value → KH → Prop := Sum.elim (fun (s : Int32 × Int32 × KH) pc ls st hh => pc = 73 ∧ ls = [(0, .ref v0), (1, .int v1), (2, .int v2), (3, .int s.1), (4, .int s.2.1)] ∧ st = [] ∧ hh = s.2.2) (E_X12_ahead_l73 v0 v1 v2)
def E_X12_ahead_l140 (v0 : Nat) (v1 : Int32) (v2 : Int32) (v3 : Int32) (v4 : Int32) (v5 : Int32) : KH → Nat → List (Nat × Value) → List Value → KH → Prop := fun (e : KH) pc ls st hh => pc = 172 ∧ ls = [(0, .ref v0), (1, .int v1), (2, .int v2), (3, .int v3), (4, .int v4)] ∧ st = [] ∧ e = hh
def B_X12_ahead_l140 (v0 : Nat) (v1 : Int32) (v2 : Int32) (v3 : Int32) (v4 : Int32) (v5 : Int32) : ((Int32 × KH) ⊕ (KH)) → Nat → List (Nat × Value) → List Value → KH → Prop := Sum.elim (fun (s : Int32 × KH) pc ls st hh => pc = 140 ∧ ls = [(0, .ref v0), (1, .int v1), (2, .int v2), (3, .int v3), (4, .int v4), (5, .int v5), (6, .int s.1)] ∧ st = [] ∧ hh = s.2) (E_X12_ahead_l140 v0 v1 v2 v3 v4 v5)
def f_X12_ahead_b166 (h : KH) (v0 : Nat) (v1 : Int32) (v2 : Int32) (v3 : Int32) (v4 : Int32) (v5 : Int32) (v6 : Int32) : Option ((Int32 × KH) ⊕ (KH)) :=
  kl (v6 + (1 : Int32)) fun x1 =>
  some (.inl (x1, h))
set_option maxHeartbeats 4000000 in
set_option maxRecDepth 100000 in
theorem s_X12_ahead_b166 {Z : Nat → (Nat → Nat) → State → Prop} (h : KH) (v0 : Nat) (v1 : Int32) (v2 : Int32) (v3 : Int32) (v4 : Int32) (v5 : Int32) (v6 : Int32) {t : (Int32 × KH) ⊕ (KH)} (hn : h.1 = 243) (H : f_X12_ahead_b166 h v0 v1 v2 v3 v4 v5 v6 = some t) : KX Z RX12 cX12_ahead 7 false 6 (B_X12_ahead_l140 v0 v1 v2 v3 v4 v5 t) 166 [(0, .ref v0), (1, .int v1), (2, .int v2), (3, .int v3), (4, .int v4), (5, .int v5), (6, .int v6)] [] h := by
  unfold f_X12_ahead_b166 at H
  replace H := kle H; obtain ⟨x1, q2, H⟩ := H
  refine x_iinc (q := 169) (i := 6) (ls2 := [(6, .int x1), (0, .ref v0), (1, .int v1), (2, .int v2), (3, .int v3), (4, .int v4), (5, .int v5)]) dX12_ahead_166 rfl rfl (by decide) (by rw [q2]; rfl) ?_
  refine x_goto dX12_ahead_169 (q := 140) (by decide) ?_
  cases H
  refine x_sub (ls2 := [(0, .ref v0), (1, .int v1), (2, .int v2), (3, .int v3), (4, .int v4), (5, .int v5), (6, .int x1)]) [1, 2, 3, 4, 5, 6, 0] rfl ?_
  exact x_end (x_cfg rfl)
def f_X12_ahead_l140 (v0 : Nat) (v1 : Int32) (v2 : Int32) (v3 : Int32) (v4 : Int32) (v5 : Int32) (s : Int32 × KH) : Option ((Int32 × KH) ⊕ (KH)) :=
  if kkind v0 = 12 then kb (f_X12_testMany s.2 v0) fun r2 =>
  if r2 ≤ s.1 then
  some (.inr s.2)
  else
  if ((v5 >>> (s.1 &&& 31)) &&& (1 : Int32)) = (1 : Int32) then
  kb (f_X12_isHeardMore s.2 v0 s.1) fun r7 =>
  f_X12_ahead_b166 r7 v0 v1 v2 v3 v4 v5 s.1
  else
  f_X12_ahead_b166 s.2 v0 v1 v2 v3 v4 v5 s.1 else none
set_option maxHeartbeats 4000000 in
set_option maxRecDepth 100000 in
theorem s_X12_ahead_l140 {Z : Nat → (Nat → Nat) → State → Prop} (v0 : Nat) (v1 : Int32) (v2 : Int32) (v3 : Int32) (v4 : Int32) (v5 : Int32) (s : Int32 × KH) (t : (Int32 × KH) ⊕ (KH)) (hn : (s.2).1 = 243) (H : f_X12_ahead_l140 v0 v1 v2 v3 v4 v5 s = some t) : KX Z RX12 cX12_ahead 7 false 6 (B_X12_ahead_l140 v0 v1 v2 v3 v4 v5 t) 140 [(0, .ref v0), (1, .int v1), (2, .int v2), (3, .int v3), (4, .int v4), (5, .int v5), (6, .int s.1)] [] s.2 := by
  unfold f_X12_ahead_l140 at H
  refine x_iload (q := 142) dX12_ahead_140 rfl rfl ?_
  refine x_aload_n (q := 143) dX12_ahead_142 rfl rfl ?_
  replace H := kif H; obtain ⟨g1, H⟩ := H
  replace H := kbe H; obtain ⟨r2, c3, H⟩ := H
  have m4 := s_X12_testMany (Z := Z) s.2 v0 hn c3
  refine x_callV (q := 146) (as := []) (rest := [.int s.1]) dX12_ahead_143 rfl kc_RX12_367 kh_X12_testMany (by decide) (Nat.le_of_ble_eq_true rfl) m4 (ci := 12) (by exact ⟨rfl, by decide⟩) (k243 g1 (by decide) hn) ?_
  replace H := kite H; rcases H with ⟨g5, H⟩ | ⟨g5, H⟩
  · refine x_icmp_ge_t dX12_ahead_146 (q := 172) (by decide) g5 ?_
    cases H
    refine x_sub (ls2 := [(0, .ref v0), (1, .int v1), (2, .int v2), (3, .int v3), (4, .int v4)]) [0, 1, 2, 3, 4] rfl ?_
    exact x_end (x_cfg rfl)
  · refine x_icmp_ge_f (q := 149) dX12_ahead_146 (t := 172) (by decide) rfl g5 ?_
    refine x_iload (q := 151) dX12_ahead_149 rfl rfl ?_
    refine x_iload (q := 153) dX12_ahead_151 rfl rfl ?_
    refine x_ishr (q := 154) dX12_ahead_153 rfl ?_
    refine x_iconst (q := 155) (v := (1 : Int32)) dX12_ahead_154 rfl (by decide) ?_
    refine x_iand (q := 156) dX12_ahead_155 rfl ?_
    refine x_iconst (q := 157) (v := (1 : Int32)) dX12_ahead_156 rfl (by decide) ?_
    replace H := kite H; rcases H with ⟨g6, H⟩ | ⟨g6, H⟩
    · refine x_icmp_ne_f (q := 160) dX12_ahead_157 (t := 166) (by decide) rfl g6 ?_
      refine x_aload_n (q := 161) dX12_ahead_160 rfl rfl ?_
      refine x_iload (q := 163) dX12_ahead_161 rfl rfl ?_
      replace H := kbe H; obtain ⟨r7, c8, H⟩ := H
      have m9 := s_X12_isHeardMore (Z := Z) s.2 v0 s.1 hn c8
      refine x_callV (q := 166) (as := [.int s.1]) (rest := []) dX12_ahead_163 rfl kc_RX12_497 kh_X12_isHeardMore (by decide) (Nat.le_of_ble_eq_true rfl) m9 (ci := 12) (by exact ⟨rfl, by decide⟩) (k243 g1 (by decide) hn) ?_
      have n10 : (r7).1 = 243 := m9.1.full hn
      refine x_sub (ls2 := [(0, .ref v0), (1, .int v1), (2, .int v2), (3, .int v3), (4, .int v4), (5, .int v5), (6, .int s.1)]) [0, 1, 2, 3, 4, 5, 6] rfl ?_
      exact s_X12_ahead_b166 r7 v0 v1 v2 v3 v4 v5 s.1 n10 H
    · refine x_icmp_ne_t dX12_ahead_157 (q := 166) (by decide) g6 ?_
      refine x_sub (ls2 := [(0, .ref v0), (1, .int v1), (2, .int v2), (3, .int v3), (4, .int v4), (5, .int v5), (6, .int s.1)]) [0, 1, 2, 3, 4, 5, 6] rfl ?_
      exact s_X12_ahead_b166 s.2 v0 v1 v2 v3 v4 v5 s.1 hn H
theorem sl_X12_ahead_l140 {Z : Nat → (Nat → Nat) → State → Prop} (v0 : Nat) (v1 : Int32) (v2 : Int32) (v3 : Int32) (v4 : Int32) (v5 : Int32) (n : Nat) (s : Int32 × KH) (r : KH) (hn : (s.2).1 = 243) (H : kloop (f_X12_ahead_l140 v0 v1 v2 v3 v4 v5) n s = some r) : KX Z RX12 cX12_ahead 7 false 6 (E_X12_ahead_l140 v0 v1 v2 v3 v4 v5 r) 140 [(0, .ref v0), (1, .int v1), (2, .int v2), (3, .int v3), (4, .int v4), (5, .int v5), (6, .int s.1)] [] s.2 :=
  k_loop (ls := (fun (s : Int32 × KH) => ([(0, .ref v0), (1, .int v1), (2, .int v2), (3, .int v3), (4, .int v4), (5, .int v5), (6, .int s.1)] : List (Nat × Value)))) (hp := (fun (s : Int32 × KH) => (s.2 : KH))) (G := E_X12_ahead_l140 v0 v1 v2 v3 v4 v5) (fun s t hn H => s_X12_ahead_l140 v0 v1 v2 v3 v4 v5 s t hn H) n s r hn H
def f_X12_ahead_b136 (h : KH) (v0 : Nat) (v1 : Int32) (v2 : Int32) (v4 : Int32) (v5 : Int32) (w0 : Int32) : Option ((Int32 × Int32 × KH) ⊕ (Int32 × KH)) :=
  kb (kloop (f_X12_ahead_l140 v0 v1 v2 w0 v4 v5) KF ((0 : Int32), h)) fun e1 =>
  kl (v4 + (1 : Int32)) fun x4 =>
  some (.inl (w0, x4, e1))
set_option maxHeartbeats 4000000 in
set_option maxRecDepth 100000 in
theorem s_X12_ahead_b136 {Z : Nat → (Nat → Nat) → State → Prop} (h : KH) (v0 : Nat) (v1 : Int32) (v2 : Int32) (v4 : Int32) (v5 : Int32) (w0 : Int32) {t : (Int32 × Int32 × KH) ⊕ (Int32 × KH)} (hn : h.1 = 243) (H : f_X12_ahead_b136 h v0 v1 v2 v4 v5 w0 = some t) : KX Z RX12 cX12_ahead 7 false 6 (B_X12_ahead_l73 v0 v1 v2 t) 136 [(0, .ref v0), (1, .int v1), (2, .int v2), (4, .int v4), (5, .int v5)] [.int w0] h := by
  unfold f_X12_ahead_b136 at H
  refine x_istore_n (q := 137) (i := 3) (ls2 := [(3, .int w0), (0, .ref v0), (1, .int v1), (2, .int v2), (4, .int v4), (5, .int v5)]) dX12_ahead_136 rfl rfl (by decide) rfl ?_
  refine x_iconst (q := 138) (v := (0 : Int32)) dX12_ahead_137 rfl (by decide) ?_
  refine x_istore (q := 140) (i := 6) (ls2 := [(6, .int (0 : Int32)), (3, .int w0), (0, .ref v0), (1, .int v1), (2, .int v2), (4, .int v4), (5, .int v5)]) dX12_ahead_138 rfl (by decide) rfl ?_
  refine x_sub (ls2 := [(0, .ref v0), (1, .int v1), (2, .int v2), (3, .int w0), (4, .int v4), (5, .int v5), (6, .int (0 : Int32))]) [2, 3, 4, 1, 5, 6, 0] rfl ?_
  replace H := kbe H; obtain ⟨e1, c2, H⟩ := H
  refine x_app (sl_X12_ahead_l140 v0 v1 v2 w0 v4 v5 KF ((0 : Int32), h) e1 hn c2) fun pc2 ls2 st2 h2 hg m3 => ?_
  obtain ⟨rfl, rfl, rfl, rfl⟩ := hg
  replace H := kle H; obtain ⟨x4, q5, H⟩ := H
  refine x_iinc (q := 175) (i := 4) (ls2 := [(4, .int x4), (0, .ref v0), (1, .int v1), (2, .int v2), (3, .int w0)]) dX12_ahead_172 rfl rfl (by decide) (by rw [q5]; rfl) ?_
  refine x_goto dX12_ahead_175 (q := 73) (by decide) ?_
  cases H
  refine x_sub (ls2 := [(0, .ref v0), (1, .int v1), (2, .int v2), (3, .int w0), (4, .int x4)]) [1, 2, 3, 4, 0] rfl ?_
  exact x_end (x_cfg rfl)
def f_X12_ahead_l73 (v0 : Nat) (v1 : Int32) (v2 : Int32) (s : Int32 × Int32 × KH) : Option ((Int32 × Int32 × KH) ⊕ (Int32 × KH)) :=
  if v1 < s.2.1 then
  some (.inr (s.1, s.2.2))
  else
  if kkind v0 = 12 then if (lg_cmp (kL s.2.2 v0 56) (0 : Int64)) ≤ 0 then
  some (.inr (s.1, s.2.2))
  else
  kb (f_X12_laysWorlds s.2.2 v0 (1 : Int32)) fun r4 =>
  kb (f_X12_allTests r4 v0) fun r8 =>
  kb (f_X12_bestSet r4 v0 r8) fun r11 =>
  if v2 = 0 then
  f_X12_ahead_b136 r11.2 v0 v1 v2 s.2.1 r11.1 r11.1
  else
  if v2 = (1 : Int32) then
  kb (f_X12_rightBy r11.2 v0 r11.1) fun r20 =>
  kb (f_X12_millionths r20.2 v0 r20.1) fun r24 =>
  f_X12_ahead_b136 r20.2 v0 v1 v2 s.2.1 r11.1 r24
  else
  kb (f_X12_harmOf r11.2 v0 r11.1) fun r17 =>
  f_X12_ahead_b136 r11.2 v0 v1 v2 s.2.1 r11.1 r17 else none
set_option maxHeartbeats 4000000 in
set_option maxRecDepth 100000 in
theorem s_X12_ahead_l73 {Z : Nat → (Nat → Nat) → State → Prop} (v0 : Nat) (v1 : Int32) (v2 : Int32) (s : Int32 × Int32 × KH) (t : (Int32 × Int32 × KH) ⊕ (Int32 × KH)) (hn : (s.2.2).1 = 243) (H : f_X12_ahead_l73 v0 v1 v2 s = some t) : KX Z RX12 cX12_ahead 7 false 6 (B_X12_ahead_l73 v0 v1 v2 t) 73 [(0, .ref v0), (1, .int v1), (2, .int v2), (3, .int s.1), (4, .int s.2.1)] [] s.2.2 := by
  unfold f_X12_ahead_l73 at H
  refine x_iload (q := 75) dX12_ahead_73 rfl rfl ?_
  refine x_iload_n (q := 76) dX12_ahead_75 rfl rfl ?_
  replace H := kite H; rcases H with ⟨g1, H⟩ | ⟨g1, H⟩
  · refine x_icmp_gt_t dX12_ahead_76 (q := 178) (by decide) g1 ?_
    cases H
    refine x_sub (ls2 := [(0, .ref v0), (3, .int s.1)]) [0, 3] rfl ?_
    exact x_end (x_cfg rfl)
  · refine x_icmp_gt_f (q := 79) dX12_ahead_76 (t := 178) (by decide) rfl g1 ?_
    refine x_aload_n (q := 80) dX12_ahead_79 rfl rfl ?_
    replace H := kif H; obtain ⟨g2, H⟩ := H
    refine x_getL (q := 83) dX12_ahead_80 rfl kl_RX12_422 rfl (k243 g2 (by decide) hn) ?_
    refine x_lconst (q := 84) (v := (0 : Int64)) dX12_ahead_83 rfl (by decide) ?_
    refine x_lcmp (q := 85) dX12_ahead_84 rfl ?_
    replace H := kite H; rcases H with ⟨g3, H⟩ | ⟨g3, H⟩
    · refine x_if_le_t dX12_ahead_85 (q := 178) (by decide) g3 ?_
      cases H
      refine x_sub (ls2 := [(0, .ref v0), (3, .int s.1)]) [0, 3] rfl ?_
      exact x_end (x_cfg rfl)
    · refine x_if_le_f (q := 88) dX12_ahead_85 (t := 178) (by decide) rfl g3 ?_
      refine x_aload_n (q := 89) dX12_ahead_88 rfl rfl ?_
      refine x_iconst (q := 90) (v := (1 : Int32)) dX12_ahead_89 rfl (by decide) ?_
      replace H := kbe H; obtain ⟨r4, c5, H⟩ := H
      have m6 := s_X12_laysWorlds (Z := Z) s.2.2 v0 (1 : Int32) hn c5
      refine x_callV (q := 93) (as := [.int (1 : Int32)]) (rest := []) dX12_ahead_90 rfl kc_RX12_478 kh_X12_laysWorlds (by decide) (Nat.le_of_ble_eq_true rfl) m6 (ci := 12) (by exact ⟨rfl, by decide⟩) (k243 g2 (by decide) hn) ?_
      have n7 : (r4).1 = 243 := m6.1.full hn
      refine x_aload_n (q := 94) dX12_ahead_93 rfl rfl ?_
      refine x_aload_n (q := 95) dX12_ahead_94 rfl rfl ?_
      replace H := kbe H; obtain ⟨r8, c9, H⟩ := H
      have m10 := s_X12_allTests (Z := Z) r4 v0 n7 c9
      refine x_callV (q := 98) (as := []) (rest := [.ref v0]) dX12_ahead_95 rfl kc_RX12_482 kh_X12_allTests (by decide) (Nat.le_of_ble_eq_true rfl) m10 (ci := 12) (by exact ⟨rfl, by decide⟩) (k243 g2 (by decide) n7) ?_
      replace H := kbe H; obtain ⟨r11, c12, H⟩ := H
      have m13 := s_X12_bestSet (Z := Z) r4 v0 r8 n7 c12
      refine x_callV (q := 101) (as := [.int r8]) (rest := []) dX12_ahead_98 rfl kc_RX12_485 kh_X12_bestSet (by decide) (Nat.le_of_ble_eq_true rfl) m13 (ci := 12) (by exact ⟨rfl, by decide⟩) (k243 g2 (by decide) n7) ?_
      have n14 : (r11.2).1 = 243 := m13.1.full n7
      refine x_istore (q := 103) (i := 5) (ls2 := [(5, .int r11.1), (0, .ref v0), (1, .int v1), (2, .int v2), (3, .int s.1), (4, .int s.2.1)]) dX12_ahead_101 rfl (by decide) rfl ?_
      refine x_iload_n (q := 104) dX12_ahead_103 rfl rfl ?_
      replace H := kite H; rcases H with ⟨g15, H⟩ | ⟨g15, H⟩
      · refine x_if_ne_f (q := 107) dX12_ahead_104 (t := 112) (by decide) rfl g15 ?_
        refine x_iload (q := 109) dX12_ahead_107 rfl rfl ?_
        refine x_goto dX12_ahead_109 (q := 136) (by decide) ?_
        refine x_sub (ls2 := [(0, .ref v0), (1, .int v1), (2, .int v2), (4, .int s.2.1), (5, .int r11.1)]) [1, 2, 3, 5, 0] rfl ?_
        exact s_X12_ahead_b136 r11.2 v0 v1 v2 s.2.1 r11.1 r11.1 n14 H
      · refine x_if_ne_t dX12_ahead_104 (q := 112) (by decide) g15 ?_
        refine x_iload_n (q := 113) dX12_ahead_112 rfl rfl ?_
        refine x_iconst (q := 114) (v := (1 : Int32)) dX12_ahead_113 rfl (by decide) ?_
        replace H := kite H; rcases H with ⟨g16, H⟩ | ⟨g16, H⟩
        · refine x_icmp_ne_f (q := 117) dX12_ahead_114 (t := 130) (by decide) rfl g16 ?_
          refine x_aload_n (q := 118) dX12_ahead_117 rfl rfl ?_
          refine x_aload_n (q := 119) dX12_ahead_118 rfl rfl ?_
          refine x_iload (q := 121) dX12_ahead_119 rfl rfl ?_
          replace H := kbe H; obtain ⟨r20, c21, H⟩ := H
          have m22 := s_X12_rightBy (Z := Z) r11.2 v0 r11.1 n14 c21
          refine x_callV (q := 124) (as := [.int r11.1]) (rest := [.ref v0]) dX12_ahead_121 rfl kc_RX12_438 kh_X12_rightBy (by decide) (Nat.le_of_ble_eq_true rfl) m22 (ci := 12) (by exact ⟨rfl, by decide⟩) (k243 g2 (by decide) n14) ?_
          have n23 : (r20.2).1 = 243 := m22.1.full n14
          replace H := kbe H; obtain ⟨r24, c25, H⟩ := H
          have m26 := s_X12_millionths (Z := Z) r20.2 v0 r20.1 n23 c25
          refine x_callV (q := 127) (as := [.long r20.1]) (rest := []) dX12_ahead_124 rfl kc_RX12_442 kh_X12_millionths (by decide) (Nat.le_of_ble_eq_true rfl) m26 (ci := 12) (by exact ⟨rfl, by decide⟩) (k243 g2 (by decide) n23) ?_
          refine x_goto dX12_ahead_127 (q := 136) (by decide) ?_
          refine x_sub (ls2 := [(0, .ref v0), (1, .int v1), (2, .int v2), (4, .int s.2.1), (5, .int r11.1)]) [1, 2, 3, 5, 0] rfl ?_
          exact s_X12_ahead_b136 r20.2 v0 v1 v2 s.2.1 r11.1 r24 n23 H
        · refine x_icmp_ne_t dX12_ahead_114 (q := 130) (by decide) g16 ?_
          refine x_aload_n (q := 131) dX12_ahead_130 rfl rfl ?_
          refine x_iload (q := 133) dX12_ahead_131 rfl rfl ?_
          replace H := kbe H; obtain ⟨r17, c18, H⟩ := H
          have m19 := s_X12_harmOf (Z := Z) r11.2 v0 r11.1 n14 c18
          refine x_callV (q := 136) (as := [.int r11.1]) (rest := []) dX12_ahead_133 rfl kc_RX12_446 kh_X12_harmOf (by decide) (Nat.le_of_ble_eq_true rfl) m19 (ci := 12) (by exact ⟨rfl, by decide⟩) (k243 g2 (by decide) n14) ?_
          refine x_sub (ls2 := [(0, .ref v0), (1, .int v1), (2, .int v2), (4, .int s.2.1), (5, .int r11.1)]) [1, 2, 3, 5, 0] rfl ?_
          exact s_X12_ahead_b136 r11.2 v0 v1 v2 s.2.1 r11.1 r17 n14 H
theorem sl_X12_ahead_l73 {Z : Nat → (Nat → Nat) → State → Prop} (v0 : Nat) (v1 : Int32) (v2 : Int32) (n : Nat) (s : Int32 × Int32 × KH) (r : Int32 × KH) (hn : (s.2.2).1 = 243) (H : kloop (f_X12_ahead_l73 v0 v1 v2) n s = some r) : KX Z RX12 cX12_ahead 7 false 6 (E_X12_ahead_l73 v0 v1 v2 r) 73 [(0, .ref v0), (1, .int v1), (2, .int v2), (3, .int s.1), (4, .int s.2.1)] [] s.2.2 :=
  k_loop (ls := (fun (s : Int32 × Int32 × KH) => ([(0, .ref v0), (1, .int v1), (2, .int v2), (3, .int s.1), (4, .int s.2.1)] : List (Nat × Value)))) (hp := (fun (s : Int32 × Int32 × KH) => (s.2.2 : KH))) (G := E_X12_ahead_l73 v0 v1 v2) (fun s t hn H => s_X12_ahead_l73 v0 v1 v2 s t hn H) n s r hn H
def f_X12_ahead_b178 (h : KH) (v0 : Nat) (v3 : Int32) : Option (Int32 × KH) :=
  if kkind v0 = 12 then kb (f_X12_takesBack h v0) fun r2 =>
  some (v3, r2) else none
set_option maxHeartbeats 4000000 in
set_option maxRecDepth 100000 in
theorem s_X12_ahead_b178 {Z : Nat → (Nat → Nat) → State → Prop} (h : KH) (v0 : Nat) (v3 : Int32) {t : Int32 × KH} (hn : h.1 = 243) (H : f_X12_ahead_b178 h v0 v3 = some t) : KX Z RX12 cX12_ahead 7 false 6 (KRi cX12_ahead t.1 t.2) 178 [(0, .ref v0), (3, .int v3)] [] h := by
  unfold f_X12_ahead_b178 at H
  refine x_aload_n (q := 179) dX12_ahead_178 rfl rfl ?_
  replace H := kif H; obtain ⟨g1, H⟩ := H
  replace H := kbe H; obtain ⟨r2, c3, H⟩ := H
  have m4 := s_X12_takesBack (Z := Z) h v0 hn c3
  refine x_callV (q := 182) (as := []) (rest := []) dX12_ahead_179 rfl kc_RX12_503 kh_X12_takesBack (by decide) (Nat.le_of_ble_eq_true rfl) m4 (ci := 12) (by exact ⟨rfl, by decide⟩) (k243 g1 (by decide) hn) ?_
  have n5 : (r2).1 = 243 := m4.1.full hn
  refine x_iload_n (q := 183) dX12_ahead_182 rfl rfl ?_
  cases H
  exact x_end ⟨dX12_ahead_183, rfl, rfl⟩
def f_X12_ahead (h : KH) (v0 : Nat) (v1 : Int32) (v2 : Int32) : Option (Int32 × KH) :=
  kb (f_X12_isIn h ((v1).toInt64) (0 : Int64) (29 : Int64)) fun r1 =>
  if r1 = 0 then
  some ((-1 : Int32), h)
  else
  kb (f_X12_isIn h ((v2).toInt64) (0 : Int64) (2 : Int64)) fun r5 =>
  if r5 = 0 then
  some ((-1 : Int32), h)
  else
  if kkind v0 = 12 then kb (f_X12_putsAside h v0) fun r10 =>
  kb (kloop (f_X12_ahead_l32 v0 v1 v2) KF ((0 : Int32), r10)) fun e14 =>
  kb (f_X12_begins e14 v0) fun r17 =>
  kb (f_X12_laysWorlds r17 v0 (1 : Int32)) fun r21 =>
  kb (kloop (f_X12_ahead_l73 v0 v1 v2) KF ((-1 : Int32), (0 : Int32), r21)) fun e25 =>
  f_X12_ahead_b178 e25.2 v0 e25.1 else none
set_option maxHeartbeats 4000000 in
set_option maxRecDepth 100000 in
theorem s0_X12_ahead {Z : Nat → (Nat → Nat) → State → Prop} (h : KH) (v0 : Nat) (v1 : Int32) (v2 : Int32) {t : Int32 × KH} (hn : h.1 = 243) (H : f_X12_ahead h v0 v1 v2 = some t) : KX Z RX12 cX12_ahead 7 false 6 (KRi cX12_ahead t.1 t.2) 0 [(0, .ref v0), (1, .int v1), (2, .int v2)] [] h := by
  unfold f_X12_ahead at H
  refine x_iload_n (q := 1) dX12_ahead_0 rfl rfl ?_
  refine x_i2l (q := 2) dX12_ahead_1 rfl ?_
  refine x_lconst (q := 3) (v := (0 : Int64)) dX12_ahead_2 rfl (by decide) ?_
  refine x_ldc2 (q := 6) (v := (29 : Int64)) dX12_ahead_3 rfl kk_RX12_492 ?_
  replace H := kbe H; obtain ⟨r1, c2, H⟩ := H
  have m3 := s_X12_isIn (Z := Z) h ((v1).toInt64) (0 : Int64) (29 : Int64) hn c2
  refine x_callS (q := 9) (as := [.long ((v1).toInt64), .long (0 : Int64), .long (29 : Int64)]) (rest := []) dX12_ahead_6 rfl kc_RX12_270 kh_X12_isIn (by decide) (Nat.le_of_ble_eq_true rfl) m3 ?_
  replace H := kite H; rcases H with ⟨g4, H⟩ | ⟨g4, H⟩
  · refine x_if_eq_t dX12_ahead_9 (q := 24) (by decide) g4 ?_
    refine x_iconst (q := 25) (v := (-1 : Int32)) dX12_ahead_24 rfl (by decide) ?_
    cases H
    exact x_end ⟨dX12_ahead_25, rfl, rfl⟩
  · refine x_if_eq_f (q := 12) dX12_ahead_9 (t := 24) (by decide) rfl g4 ?_
    refine x_iload_n (q := 13) dX12_ahead_12 rfl rfl ?_
    refine x_i2l (q := 14) dX12_ahead_13 rfl ?_
    refine x_lconst (q := 15) (v := (0 : Int64)) dX12_ahead_14 rfl (by decide) ?_
    refine x_ldc2 (q := 18) (v := (2 : Int64)) dX12_ahead_15 rfl kk_RX12_464 ?_
    replace H := kbe H; obtain ⟨r5, c6, H⟩ := H
    have m7 := s_X12_isIn (Z := Z) h ((v2).toInt64) (0 : Int64) (2 : Int64) hn c6
    refine x_callS (q := 21) (as := [.long ((v2).toInt64), .long (0 : Int64), .long (2 : Int64)]) (rest := []) dX12_ahead_18 rfl kc_RX12_270 kh_X12_isIn (by decide) (Nat.le_of_ble_eq_true rfl) m7 ?_
    replace H := kite H; rcases H with ⟨g8, H⟩ | ⟨g8, H⟩
    · refine x_if_ne_f (q := 24) dX12_ahead_21 (t := 26) (by decide) rfl g8 ?_
      refine x_iconst (q := 25) (v := (-1 : Int32)) dX12_ahead_24 rfl (by decide) ?_
      cases H
      exact x_end ⟨dX12_ahead_25, rfl, rfl⟩
    · refine x_if_ne_t dX12_ahead_21 (q := 26) (by decide) g8 ?_
      refine x_aload_n (q := 27) dX12_ahead_26 rfl rfl ?_
      replace H := kif H; obtain ⟨g9, H⟩ := H
      replace H := kbe H; obtain ⟨r10, c11, H⟩ := H
      have m12 := s_X12_putsAside (Z := Z) h v0 hn c11
      refine x_callV (q := 30) (as := []) (rest := []) dX12_ahead_27 rfl kc_RX12_494 kh_X12_putsAside (by decide) (Nat.le_of_ble_eq_true rfl) m12 (ci := 12) (by exact ⟨rfl, by decide⟩) (k243 g9 (by decide) hn) ?_
      have n13 : (r10).1 = 243 := m12.1.full hn
      refine x_iconst (q := 31) (v := (0 : Int32)) dX12_ahead_30 rfl (by decide) ?_
      refine x_istore_n (q := 32) (i := 3) (ls2 := [(3, .int (0 : Int32)), (0, .ref v0), (1, .int v1), (2, .int v2)]) dX12_ahead_31 rfl rfl (by decide) rfl ?_
      refine x_sub (ls2 := [(0, .ref v0), (1, .int v1), (2, .int v2), (3, .int (0 : Int32))]) [1, 2, 3, 0] rfl ?_
      replace H := kbe H; obtain ⟨e14, c15, H⟩ := H
      refine x_app (sl_X12_ahead_l32 v0 v1 v2 KF ((0 : Int32), r10) e14 n13 c15) fun pc2 ls2 st2 h2 hg m16 => ?_
      obtain ⟨rfl, rfl, rfl, rfl⟩ := hg
      refine x_aload_n (q := 60) dX12_ahead_59 rfl rfl ?_
      replace H := kbe H; obtain ⟨r17, c18, H⟩ := H
      have m19 := s_X12_begins (Z := Z) e14 v0 (m16.full n13) c18
      refine x_callV (q := 63) (as := []) (rest := []) dX12_ahead_60 rfl kc_RX12_500 kh_X12_begins (by decide) (Nat.le_of_ble_eq_true rfl) m19 (ci := 12) (by exact ⟨rfl, by decide⟩) (k243 g9 (by decide) (m16.full n13)) ?_
      have n20 : (r17).1 = 243 := m19.1.full (m16.full n13)
      refine x_aload_n (q := 64) dX12_ahead_63 rfl rfl ?_
      refine x_iconst (q := 65) (v := (1 : Int32)) dX12_ahead_64 rfl (by decide) ?_
      replace H := kbe H; obtain ⟨r21, c22, H⟩ := H
      have m23 := s_X12_laysWorlds (Z := Z) r17 v0 (1 : Int32) n20 c22
      refine x_callV (q := 68) (as := [.int (1 : Int32)]) (rest := []) dX12_ahead_65 rfl kc_RX12_478 kh_X12_laysWorlds (by decide) (Nat.le_of_ble_eq_true rfl) m23 (ci := 12) (by exact ⟨rfl, by decide⟩) (k243 g9 (by decide) n20) ?_
      have n24 : (r21).1 = 243 := m23.1.full n20
      refine x_iconst (q := 69) (v := (-1 : Int32)) dX12_ahead_68 rfl (by decide) ?_
      refine x_istore_n (q := 70) (i := 3) (ls2 := [(3, .int (-1 : Int32)), (0, .ref v0), (1, .int v1), (2, .int v2)]) dX12_ahead_69 rfl rfl (by decide) rfl ?_
      refine x_iconst (q := 71) (v := (0 : Int32)) dX12_ahead_70 rfl (by decide) ?_
      refine x_istore (q := 73) (i := 4) (ls2 := [(4, .int (0 : Int32)), (3, .int (-1 : Int32)), (0, .ref v0), (1, .int v1), (2, .int v2)]) dX12_ahead_71 rfl (by decide) rfl ?_
      refine x_sub (ls2 := [(0, .ref v0), (1, .int v1), (2, .int v2), (3, .int (-1 : Int32)), (4, .int (0 : Int32))]) [2, 3, 4, 1, 0] rfl ?_
      replace H := kbe H; obtain ⟨e25, c26, H⟩ := H
      refine x_app (sl_X12_ahead_l73 v0 v1 v2 KF ((-1 : Int32), (0 : Int32), r21) e25 n24 c26) fun pc2 ls2 st2 h2 hg m27 => ?_
      obtain ⟨rfl, rfl, rfl, rfl⟩ := hg
      refine x_sub (ls2 := [(0, .ref v0), (3, .int e25.1)]) [0, 1] rfl ?_
      exact s_X12_ahead_b178 e25.2 v0 e25.1 (m27.full n24) H
theorem s_X12_ahead {Z : Nat → (Nat → Nat) → State → Prop} (h : KH) (v0 : Nat) (v1 : Int32) (v2 : Int32) {t : Int32 × KH} (hn : h.1 = 243) (H : f_X12_ahead h v0 v1 v2 = some t) : KM Z yX12_ahead cX12_ahead 7 (some .int) 6 [.ref v0, .int v1, .int v2] h (some (.int t.1)) t.2 :=
  kx_i (own := RX12) (ini := false) (by decide +kernel) (by decide +kernel) rfl (Nat.le_of_ble_eq_true rfl) (s0_X12_ahead h v0 v1 v2 hn H)
theorem dX12_known_0 : decode cX12_known 0 = .ok (.aload_n 0, 1) := by decide +kernel
theorem dX12_known_1 : decode cX12_known 1 = .ok (.iload_n 1, 1) := by decide +kernel
theorem dX12_known_2 : decode cX12_known 2 = .ok (.invokevirtual 473, 3) := by decide +kernel
theorem dX12_known_5 : decode cX12_known 5 = .ok (.ifCond .eq 15, 3) := by decide +kernel
theorem dX12_known_8 : decode cX12_known 8 = .ok (.iload_n 2, 1) := by decide +kernel
theorem dX12_known_9 : decode cX12_known 9 = .ok (.i2l, 1) := by decide +kernel
theorem dX12_known_10 : decode cX12_known 10 = .ok (.lconst 0, 1) := by decide +kernel
theorem dX12_known_11 : decode cX12_known 11 = .ok (.ldc2_w 506, 3) := by decide +kernel
theorem dX12_known_14 : decode cX12_known 14 = .ok (.invokestatic 270, 3) := by decide +kernel
theorem dX12_known_17 : decode cX12_known 17 = .ok (.ifCond .ne 5, 3) := by decide +kernel
theorem dX12_known_20 : decode cX12_known 20 = .ok (.iconst (-1), 1) := by decide +kernel
theorem dX12_known_21 : decode cX12_known 21 = .ok (.ireturn, 1) := by decide +kernel
theorem dX12_known_22 : decode cX12_known 22 = .ok (.aload_n 0, 1) := by decide +kernel
theorem dX12_known_23 : decode cX12_known 23 = .ok (.invokevirtual 494, 3) := by decide +kernel
theorem dX12_known_26 : decode cX12_known 26 = .ok (.aload_n 0, 1) := by decide +kernel
theorem dX12_known_27 : decode cX12_known 27 = .ok (.getfield 115, 3) := by decide +kernel
theorem dX12_known_30 : decode cX12_known 30 = .ok (.iconst 2, 1) := by decide +kernel
theorem dX12_known_31 : decode cX12_known 31 = .ok (.iconst 2, 1) := by decide +kernel
theorem dX12_known_32 : decode cX12_known 32 = .ok (.iload_n 1, 1) := by decide +kernel
theorem dX12_known_33 : decode cX12_known 33 = .ok (.imul, 1) := by decide +kernel
theorem dX12_known_34 : decode cX12_known 34 = .ok (.iadd, 1) := by decide +kernel
theorem dX12_known_35 : decode cX12_known 35 = .ok (.iload_n 2, 1) := by decide +kernel
theorem dX12_known_36 : decode cX12_known 36 = .ok (.iastore, 1) := by decide +kernel
theorem dX12_known_37 : decode cX12_known 37 = .ok (.aload_n 0, 1) := by decide +kernel
theorem dX12_known_38 : decode cX12_known 38 = .ok (.invokevirtual 500, 3) := by decide +kernel
theorem dX12_known_41 : decode cX12_known 41 = .ok (.aload_n 0, 1) := by decide +kernel
theorem dX12_known_42 : decode cX12_known 42 = .ok (.iconst 1, 1) := by decide +kernel
theorem dX12_known_43 : decode cX12_known 43 = .ok (.invokevirtual 478, 3) := by decide +kernel
theorem dX12_known_46 : decode cX12_known 46 = .ok (.aload_n 0, 1) := by decide +kernel
theorem dX12_known_47 : decode cX12_known 47 = .ok (.invokevirtual 503, 3) := by decide +kernel
theorem dX12_known_50 : decode cX12_known 50 = .ok (.aload_n 0, 1) := by decide +kernel
theorem dX12_known_51 : decode cX12_known 51 = .ok (.getfield 422, 3) := by decide +kernel
theorem dX12_known_54 : decode cX12_known 54 = .ok (.lconst 0, 1) := by decide +kernel
theorem dX12_known_55 : decode cX12_known 55 = .ok (.lcmp, 1) := by decide +kernel
theorem dX12_known_56 : decode cX12_known 56 = .ok (.ifCond .ne 7, 3) := by decide +kernel
theorem dX12_known_59 : decode cX12_known 59 = .ok (.iconst (-1), 1) := by decide +kernel
theorem dX12_known_60 : decode cX12_known 60 = .ok (.goto 14, 3) := by decide +kernel
theorem dX12_known_63 : decode cX12_known 63 = .ok (.aload_n 0, 1) := by decide +kernel
theorem dX12_known_64 : decode cX12_known 64 = .ok (.aload_n 0, 1) := by decide +kernel
theorem dX12_known_65 : decode cX12_known 65 = .ok (.iconst 1, 1) := by decide +kernel
theorem dX12_known_66 : decode cX12_known 66 = .ok (.iload_n 1, 1) := by decide +kernel
theorem dX12_known_67 : decode cX12_known 67 = .ok (.ishl, 1) := by decide +kernel
theorem dX12_known_68 : decode cX12_known 68 = .ok (.invokevirtual 438, 3) := by decide +kernel
theorem dX12_known_71 : decode cX12_known 71 = .ok (.invokevirtual 442, 3) := by decide +kernel
theorem dX12_known_74 : decode cX12_known 74 = .ok (.ireturn, 1) := by decide +kernel
theorem kk_RX12_506 : Jvm.Cond.constantLong RX12 506 (99 : Int64) ∈ ktG := kwm 1890 (by decide +kernel) (by decide +kernel)
def f_X12_known (h : KH) (v0 : Nat) (v1 : Int32) (v2 : Int32) : Option (Int32 × KH) :=
  if kkind v0 = 12 then kb (f_X12_isTest h v0 v1) fun r2 =>
  if r2 = 0 then
  some ((-1 : Int32), h)
  else
  kb (f_X12_isIn h ((v2).toInt64) (0 : Int64) (99 : Int64)) fun r6 =>
  if r6 = 0 then
  some ((-1 : Int32), h)
  else
  kb (f_X12_putsAside h v0) fun r10 =>
  if (kR r10 v0 45) < 999999 then if kkind (kR r10 v0 45) = 20 then if (((2 : Int32) + ((2 : Int32) * v1)) < 0 ∨ klen (kR r10 v0 45) ≤ (((2 : Int32) + ((2 : Int32) * v1))).toNatClampNeg) then none else kl (ksI r10 (kR r10 v0 45) ((((2 : Int32) + ((2 : Int32) * v1))).toNatClampNeg) v2) fun h17 =>
  kb (f_X12_begins h17 v0) fun r20 =>
  kb (f_X12_laysWorlds r20 v0 (1 : Int32)) fun r24 =>
  kb (f_X12_takesBack r24 v0) fun r28 =>
  if (lg_cmp (kL r28 v0 56) (0 : Int64)) = 0 then
  some ((-1 : Int32), r28)
  else
  kb (f_X12_rightBy r28 v0 ((1 : Int32) <<< (v1 &&& 31))) fun r33 =>
  kb (f_X12_millionths r33.2 v0 r33.1) fun r37 =>
  some (r37, r33.2) else none else none else none
set_option maxHeartbeats 4000000 in
set_option maxRecDepth 100000 in
theorem s0_X12_known {Z : Nat → (Nat → Nat) → State → Prop} (h : KH) (v0 : Nat) (v1 : Int32) (v2 : Int32) {t : Int32 × KH} (hn : h.1 = 243) (H : f_X12_known h v0 v1 v2 = some t) : KX Z RX12 cX12_known 3 false 6 (KRi cX12_known t.1 t.2) 0 [(0, .ref v0), (1, .int v1), (2, .int v2)] [] h := by
  unfold f_X12_known at H
  refine x_aload_n (q := 1) dX12_known_0 rfl rfl ?_
  refine x_iload_n (q := 2) dX12_known_1 rfl rfl ?_
  replace H := kif H; obtain ⟨g1, H⟩ := H
  replace H := kbe H; obtain ⟨r2, c3, H⟩ := H
  have m4 := s_X12_isTest (Z := Z) h v0 v1 hn c3
  refine x_callV (q := 5) (as := [.int v1]) (rest := []) dX12_known_2 rfl kc_RX12_473 kh_X12_isTest (by decide) (Nat.le_of_ble_eq_true rfl) m4 (ci := 12) (by exact ⟨rfl, by decide⟩) (k243 g1 (by decide) hn) ?_
  replace H := kite H; rcases H with ⟨g5, H⟩ | ⟨g5, H⟩
  · refine x_if_eq_t dX12_known_5 (q := 20) (by decide) g5 ?_
    refine x_iconst (q := 21) (v := (-1 : Int32)) dX12_known_20 rfl (by decide) ?_
    cases H
    exact x_end ⟨dX12_known_21, rfl, rfl⟩
  · refine x_if_eq_f (q := 8) dX12_known_5 (t := 20) (by decide) rfl g5 ?_
    refine x_iload_n (q := 9) dX12_known_8 rfl rfl ?_
    refine x_i2l (q := 10) dX12_known_9 rfl ?_
    refine x_lconst (q := 11) (v := (0 : Int64)) dX12_known_10 rfl (by decide) ?_
    refine x_ldc2 (q := 14) (v := (99 : Int64)) dX12_known_11 rfl kk_RX12_506 ?_
    replace H := kbe H; obtain ⟨r6, c7, H⟩ := H
    have m8 := s_X12_isIn (Z := Z) h ((v2).toInt64) (0 : Int64) (99 : Int64) hn c7
    refine x_callS (q := 17) (as := [.long ((v2).toInt64), .long (0 : Int64), .long (99 : Int64)]) (rest := []) dX12_known_14 rfl kc_RX12_270 kh_X12_isIn (by decide) (Nat.le_of_ble_eq_true rfl) m8 ?_
    replace H := kite H; rcases H with ⟨g9, H⟩ | ⟨g9, H⟩
    · refine x_if_ne_f (q := 20) dX12_known_17 (t := 22) (by decide) rfl g9 ?_
      refine x_iconst (q := 21) (v := (-1 : Int32)) dX12_known_20 rfl (by decide) ?_
      cases H
      exact x_end ⟨dX12_known_21, rfl, rfl⟩
    · refine x_if_ne_t dX12_known_17 (q := 22) (by decide) g9 ?_
      refine x_aload_n (q := 23) dX12_known_22 rfl rfl ?_
      replace H := kbe H; obtain ⟨r10, c11, H⟩ := H
      have m12 := s_X12_putsAside (Z := Z) h v0 hn c11
      refine x_callV (q := 26) (as := []) (rest := []) dX12_known_23 rfl kc_RX12_494 kh_X12_putsAside (by decide) (Nat.le_of_ble_eq_true rfl) m12 (ci := 12) (by exact ⟨rfl, by decide⟩) (k243 g1 (by decide) hn) ?_
      have n13 : (r10).1 = 243 := m12.1.full hn
      refine x_aload_n (q := 27) dX12_known_26 rfl rfl ?_
      replace H := kif H; obtain ⟨g14, H⟩ := H
      refine x_getR (q := 30) dX12_known_27 rfl kl_RX12_115 rfl (k243 g1 (by decide) n13) g14 ?_
      refine x_iconst (q := 31) (v := (2 : Int32)) dX12_known_30 rfl (by decide) ?_
      refine x_iconst (q := 32) (v := (2 : Int32)) dX12_known_31 rfl (by decide) ?_
      refine x_iload_n (q := 33) dX12_known_32 rfl rfl ?_
      refine x_imul (q := 34) dX12_known_33 rfl ?_
      refine x_iadd (q := 35) dX12_known_34 rfl ?_
      refine x_iload_n (q := 36) dX12_known_35 rfl rfl ?_
      replace H := kif H; obtain ⟨g15, H⟩ := H
      replace H := kifn H; obtain ⟨g16, H⟩ := H
      replace H := kle H; obtain ⟨h17, q18, H⟩ := H
      refine x_iast (q := 37) dX12_known_36 rfl (k243 g15 (by decide) n13) g16 ?_
      refine x_nmH q18 ?_
      have n19 : h17.1 = 243 := by rw [q18]; exact n13
      refine x_aload_n (q := 38) dX12_known_37 rfl rfl ?_
      replace H := kbe H; obtain ⟨r20, c21, H⟩ := H
      have m22 := s_X12_begins (Z := Z) h17 v0 n19 c21
      refine x_callV (q := 41) (as := []) (rest := []) dX12_known_38 rfl kc_RX12_500 kh_X12_begins (by decide) (Nat.le_of_ble_eq_true rfl) m22 (ci := 12) (by exact ⟨rfl, by decide⟩) (k243 g1 (by decide) n19) ?_
      have n23 : (r20).1 = 243 := m22.1.full n19
      refine x_aload_n (q := 42) dX12_known_41 rfl rfl ?_
      refine x_iconst (q := 43) (v := (1 : Int32)) dX12_known_42 rfl (by decide) ?_
      replace H := kbe H; obtain ⟨r24, c25, H⟩ := H
      have m26 := s_X12_laysWorlds (Z := Z) r20 v0 (1 : Int32) n23 c25
      refine x_callV (q := 46) (as := [.int (1 : Int32)]) (rest := []) dX12_known_43 rfl kc_RX12_478 kh_X12_laysWorlds (by decide) (Nat.le_of_ble_eq_true rfl) m26 (ci := 12) (by exact ⟨rfl, by decide⟩) (k243 g1 (by decide) n23) ?_
      have n27 : (r24).1 = 243 := m26.1.full n23
      refine x_aload_n (q := 47) dX12_known_46 rfl rfl ?_
      replace H := kbe H; obtain ⟨r28, c29, H⟩ := H
      have m30 := s_X12_takesBack (Z := Z) r24 v0 n27 c29
      refine x_callV (q := 50) (as := []) (rest := []) dX12_known_47 rfl kc_RX12_503 kh_X12_takesBack (by decide) (Nat.le_of_ble_eq_true rfl) m30 (ci := 12) (by exact ⟨rfl, by decide⟩) (k243 g1 (by decide) n27) ?_
      have n31 : (r28).1 = 243 := m30.1.full n27
      refine x_aload_n (q := 51) dX12_known_50 rfl rfl ?_
      refine x_getL (q := 54) dX12_known_51 rfl kl_RX12_422 rfl (k243 g1 (by decide) n31) ?_
      refine x_lconst (q := 55) (v := (0 : Int64)) dX12_known_54 rfl (by decide) ?_
      refine x_lcmp (q := 56) dX12_known_55 rfl ?_
      replace H := kite H; rcases H with ⟨g32, H⟩ | ⟨g32, H⟩
      · refine x_if_ne_f (q := 59) dX12_known_56 (t := 63) (by decide) rfl g32 ?_
        refine x_iconst (q := 60) (v := (-1 : Int32)) dX12_known_59 rfl (by decide) ?_
        refine x_goto dX12_known_60 (q := 74) (by decide) ?_
        cases H
        exact x_end ⟨dX12_known_74, rfl, rfl⟩
      · refine x_if_ne_t dX12_known_56 (q := 63) (by decide) g32 ?_
        refine x_aload_n (q := 64) dX12_known_63 rfl rfl ?_
        refine x_aload_n (q := 65) dX12_known_64 rfl rfl ?_
        refine x_iconst (q := 66) (v := (1 : Int32)) dX12_known_65 rfl (by decide) ?_
        refine x_iload_n (q := 67) dX12_known_66 rfl rfl ?_
        refine x_ishl (q := 68) dX12_known_67 rfl ?_
        replace H := kbe H; obtain ⟨r33, c34, H⟩ := H
        have m35 := s_X12_rightBy (Z := Z) r28 v0 ((1 : Int32) <<< (v1 &&& 31)) n31 c34
        refine x_callV (q := 71) (as := [.int ((1 : Int32) <<< (v1 &&& 31))]) (rest := [.ref v0]) dX12_known_68 rfl kc_RX12_438 kh_X12_rightBy (by decide) (Nat.le_of_ble_eq_true rfl) m35 (ci := 12) (by exact ⟨rfl, by decide⟩) (k243 g1 (by decide) n31) ?_
        have n36 : (r33.2).1 = 243 := m35.1.full n31
        replace H := kbe H; obtain ⟨r37, c38, H⟩ := H
        have m39 := s_X12_millionths (Z := Z) r33.2 v0 r33.1 n36 c38
        refine x_callV (q := 74) (as := [.long r33.1]) (rest := []) dX12_known_71 rfl kc_RX12_442 kh_X12_millionths (by decide) (Nat.le_of_ble_eq_true rfl) m39 (ci := 12) (by exact ⟨rfl, by decide⟩) (k243 g1 (by decide) n36) ?_
        cases H
        exact x_end ⟨dX12_known_74, rfl, rfl⟩
theorem s_X12_known {Z : Nat → (Nat → Nat) → State → Prop} (h : KH) (v0 : Nat) (v1 : Int32) (v2 : Int32) {t : Int32 × KH} (hn : h.1 = 243) (H : f_X12_known h v0 v1 v2 = some t) : KM Z yX12_known cX12_known 3 (some .int) 6 [.ref v0, .int v1, .int v2] h (some (.int t.1)) t.2 :=
  kx_i (own := RX12) (ini := false) (by decide +kernel) (by decide +kernel) rfl (Nat.le_of_ble_eq_true rfl) (s0_X12_known h v0 v1 v2 hn H)
theorem dX12_refuses_0 : decode cX12_refuses 0 = .ok (.aload_n 0, 1) := by decide +kernel
theorem dX12_refuses_1 : decode cX12_refuses 1 = .ok (.getfield 17, 3) := by decide +kernel
theorem dX12_refuses_4 : decode cX12_refuses 4 = .ok (.iload_n 1, 1) := by decide +kernel
theorem dX12_refuses_5 : decode cX12_refuses 5 = .ok (.dup2, 1) := by decide +kernel
theorem dX12_refuses_6 : decode cX12_refuses 6 = .ok (.iaload, 1) := by decide +kernel
theorem dX12_refuses_7 : decode cX12_refuses 7 = .ok (.iconst 1, 1) := by decide +kernel
theorem dX12_refuses_8 : decode cX12_refuses 8 = .ok (.iadd, 1) := by decide +kernel
theorem dX12_refuses_9 : decode cX12_refuses 9 = .ok (.iastore, 1) := by decide +kernel
theorem dX12_refuses_10 : decode cX12_refuses 10 = .ok (.iconst (-1), 1) := by decide +kernel
theorem dX12_refuses_11 : decode cX12_refuses 11 = .ok (.ireturn, 1) := by decide +kernel
def f_X12_refuses (h : KH) (v0 : Nat) (v1 : Int32) : Option (Int32 × KH) :=
  if kkind v0 = 12 then if (kR h v0 9) < 999999 then if kkind (kR h v0 9) = 20 then if (v1 < 0 ∨ klen (kR h v0 9) ≤ (v1).toNatClampNeg) then none else kl (ksI h (kR h v0 9) ((v1).toNatClampNeg) ((kI h (kR h v0 9) ((v1).toNatClampNeg)) + (1 : Int32))) fun h5 =>
  some ((-1 : Int32), h5) else none else none else none
set_option maxHeartbeats 4000000 in
set_option maxRecDepth 100000 in
theorem s0_X12_refuses {Z : Nat → (Nat → Nat) → State → Prop} (h : KH) (v0 : Nat) (v1 : Int32) {t : Int32 × KH} (hn : h.1 = 243) (H : f_X12_refuses h v0 v1 = some t) : KX Z RX12 cX12_refuses 2 false 1 (KRi cX12_refuses t.1 t.2) 0 [(0, .ref v0), (1, .int v1)] [] h := by
  unfold f_X12_refuses at H
  refine x_aload_n (q := 1) dX12_refuses_0 rfl rfl ?_
  replace H := kif H; obtain ⟨g1, H⟩ := H
  replace H := kif H; obtain ⟨g2, H⟩ := H
  refine x_getR (q := 4) dX12_refuses_1 rfl kl_RX12_17 rfl (k243 g1 (by decide) hn) g2 ?_
  refine x_iload_n (q := 5) dX12_refuses_4 rfl rfl ?_
  refine x_dup2 (q := 6) dX12_refuses_5 rfl ⟨rfl, rfl⟩ ?_
  replace H := kif H; obtain ⟨g3, H⟩ := H
  replace H := kifn H; obtain ⟨g4, H⟩ := H
  refine x_iald (q := 7) dX12_refuses_6 rfl (k243 g3 (by decide) hn) g4 ?_
  refine x_iconst (q := 8) (v := (1 : Int32)) dX12_refuses_7 rfl (by decide) ?_
  refine x_iadd (q := 9) dX12_refuses_8 rfl ?_
  replace H := kle H; obtain ⟨h5, q6, H⟩ := H
  refine x_iast (q := 10) dX12_refuses_9 rfl (k243 g3 (by decide) hn) g4 ?_
  refine x_nmH q6 ?_
  have n7 : h5.1 = 243 := by rw [q6]; exact hn
  refine x_iconst (q := 11) (v := (-1 : Int32)) dX12_refuses_10 rfl (by decide) ?_
  cases H
  exact x_end ⟨dX12_refuses_11, rfl, rfl⟩
theorem s_X12_refuses {Z : Nat → (Nat → Nat) → State → Prop} (h : KH) (v0 : Nat) (v1 : Int32) {t : Int32 × KH} (hn : h.1 = 243) (H : f_X12_refuses h v0 v1 = some t) : KM Z yX12_refuses cX12_refuses 2 (some .int) 1 [.ref v0, .int v1] h (some (.int t.1)) t.2 :=
  kx_i (own := RX12) (ini := false) (by decide +kernel) (by decide +kernel) rfl (Nat.le_of_ble_eq_true rfl) (s0_X12_refuses h v0 v1 hn H)
theorem dX12_tell_0 : decode cX12_tell 0 = .ok (.aload_n 0, 1) := by decide +kernel
theorem dX12_tell_1 : decode cX12_tell 1 = .ok (.getfield 227, 3) := by decide +kernel
theorem dX12_tell_4 : decode cX12_tell 4 = .ok (.istore_n 1, 1) := by decide +kernel
theorem dX12_tell_5 : decode cX12_tell 5 = .ok (.aload_n 0, 1) := by decide +kernel
theorem dX12_tell_6 : decode cX12_tell 6 = .ok (.iconst 0, 1) := by decide +kernel
theorem dX12_tell_7 : decode cX12_tell 7 = .ok (.putfield 227, 3) := by decide +kernel
theorem dX12_tell_10 : decode cX12_tell 10 = .ok (.iload_n 1, 1) := by decide +kernel
theorem dX12_tell_11 : decode cX12_tell 11 = .ok (.ifCond .le 21, 3) := by decide +kernel
theorem dX12_tell_14 : decode cX12_tell 14 = .ok (.iload_n 1, 1) := by decide +kernel
theorem dX12_tell_15 : decode cX12_tell 15 = .ok (.iconst 4, 1) := by decide +kernel
theorem dX12_tell_16 : decode cX12_tell 16 = .ok (.irem, 1) := by decide +kernel
theorem dX12_tell_17 : decode cX12_tell 17 = .ok (.ifCond .ne 15, 3) := by decide +kernel
theorem dX12_tell_20 : decode cX12_tell 20 = .ok (.iload_n 1, 1) := by decide +kernel
theorem dX12_tell_21 : decode cX12_tell 21 = .ok (.iconst 4, 1) := by decide +kernel
theorem dX12_tell_22 : decode cX12_tell 22 = .ok (.idiv, 1) := by decide +kernel
theorem dX12_tell_23 : decode cX12_tell 23 = .ok (.bipush 16, 2) := by decide +kernel
theorem dX12_tell_25 : decode cX12_tell 25 = .ok (.if_icmp .gt 7, 3) := by decide +kernel
theorem dX12_tell_28 : decode cX12_tell 28 = .ok (.iconst 1, 1) := by decide +kernel
theorem dX12_tell_29 : decode cX12_tell 29 = .ok (.goto 4, 3) := by decide +kernel
theorem dX12_tell_32 : decode cX12_tell 32 = .ok (.iconst 0, 1) := by decide +kernel
theorem dX12_tell_33 : decode cX12_tell 33 = .ok (.istore_n 2, 1) := by decide +kernel
theorem dX12_tell_34 : decode cX12_tell 34 = .ok (.iconst 0, 1) := by decide +kernel
theorem dX12_tell_35 : decode cX12_tell 35 = .ok (.istore_n 3, 1) := by decide +kernel
theorem dX12_tell_36 : decode cX12_tell 36 = .ok (.iload_n 3, 1) := by decide +kernel
theorem dX12_tell_37 : decode cX12_tell 37 = .ok (.iload_n 1, 1) := by decide +kernel
theorem dX12_tell_38 : decode cX12_tell 38 = .ok (.if_icmp .ge 71, 3) := by decide +kernel
theorem dX12_tell_41 : decode cX12_tell 41 = .ok (.iload_n 2, 1) := by decide +kernel
theorem dX12_tell_42 : decode cX12_tell 42 = .ok (.ifCond .eq 67, 3) := by decide +kernel
theorem dX12_tell_45 : decode cX12_tell 45 = .ok (.aload_n 0, 1) := by decide +kernel
theorem dX12_tell_46 : decode cX12_tell 46 = .ok (.aload_n 0, 1) := by decide +kernel
theorem dX12_tell_47 : decode cX12_tell 47 = .ok (.getfield 7, 3) := by decide +kernel
theorem dX12_tell_50 : decode cX12_tell 50 = .ok (.iload_n 3, 1) := by decide +kernel
theorem dX12_tell_51 : decode cX12_tell 51 = .ok (.iaload, 1) := by decide +kernel
theorem dX12_tell_52 : decode cX12_tell 52 = .ok (.invokevirtual 468, 3) := by decide +kernel
theorem dX12_tell_55 : decode cX12_tell 55 = .ok (.ifCond .eq 46, 3) := by decide +kernel
theorem dX12_tell_58 : decode cX12_tell 58 = .ok (.aload_n 0, 1) := by decide +kernel
theorem dX12_tell_59 : decode cX12_tell 59 = .ok (.aload_n 0, 1) := by decide +kernel
theorem dX12_tell_60 : decode cX12_tell 60 = .ok (.getfield 7, 3) := by decide +kernel
theorem dX12_tell_63 : decode cX12_tell 63 = .ok (.iload_n 3, 1) := by decide +kernel
theorem dX12_tell_64 : decode cX12_tell 64 = .ok (.iconst 1, 1) := by decide +kernel
theorem dX12_tell_65 : decode cX12_tell 65 = .ok (.iadd, 1) := by decide +kernel
theorem dX12_tell_66 : decode cX12_tell 66 = .ok (.iaload, 1) := by decide +kernel
theorem dX12_tell_67 : decode cX12_tell 67 = .ok (.invokevirtual 468, 3) := by decide +kernel
theorem dX12_tell_70 : decode cX12_tell 70 = .ok (.ifCond .eq 31, 3) := by decide +kernel
theorem dX12_tell_73 : decode cX12_tell 73 = .ok (.aload_n 0, 1) := by decide +kernel
theorem dX12_tell_74 : decode cX12_tell 74 = .ok (.getfield 7, 3) := by decide +kernel
theorem dX12_tell_77 : decode cX12_tell 77 = .ok (.iload_n 3, 1) := by decide +kernel
theorem dX12_tell_78 : decode cX12_tell 78 = .ok (.iconst 2, 1) := by decide +kernel
theorem dX12_tell_79 : decode cX12_tell 79 = .ok (.iadd, 1) := by decide +kernel
theorem dX12_tell_80 : decode cX12_tell 80 = .ok (.iaload, 1) := by decide +kernel
theorem dX12_tell_81 : decode cX12_tell 81 = .ok (.iconst 2, 1) := by decide +kernel
theorem dX12_tell_82 : decode cX12_tell 82 = .ok (.if_icmp .ge 19, 3) := by decide +kernel
theorem dX12_tell_85 : decode cX12_tell 85 = .ok (.aload_n 0, 1) := by decide +kernel
theorem dX12_tell_86 : decode cX12_tell 86 = .ok (.getfield 7, 3) := by decide +kernel
theorem dX12_tell_89 : decode cX12_tell 89 = .ok (.iload_n 3, 1) := by decide +kernel
theorem dX12_tell_90 : decode cX12_tell 90 = .ok (.iconst 3, 1) := by decide +kernel
theorem dX12_tell_91 : decode cX12_tell 91 = .ok (.iadd, 1) := by decide +kernel
theorem dX12_tell_92 : decode cX12_tell 92 = .ok (.iaload, 1) := by decide +kernel
theorem dX12_tell_93 : decode cX12_tell 93 = .ok (.iconst 2, 1) := by decide +kernel
theorem dX12_tell_94 : decode cX12_tell 94 = .ok (.if_icmp .ge 7, 3) := by decide +kernel
theorem dX12_tell_97 : decode cX12_tell 97 = .ok (.iconst 1, 1) := by decide +kernel
theorem dX12_tell_98 : decode cX12_tell 98 = .ok (.goto 4, 3) := by decide +kernel
theorem dX12_tell_101 : decode cX12_tell 101 = .ok (.iconst 0, 1) := by decide +kernel
theorem dX12_tell_102 : decode cX12_tell 102 = .ok (.istore_n 2, 1) := by decide +kernel
theorem dX12_tell_103 : decode cX12_tell 103 = .ok (.iinc 3 4, 3) := by decide +kernel
theorem dX12_tell_106 : decode cX12_tell 106 = .ok (.goto (-70), 3) := by decide +kernel
theorem dX12_tell_109 : decode cX12_tell 109 = .ok (.iload_n 2, 1) := by decide +kernel
theorem dX12_tell_110 : decode cX12_tell 110 = .ok (.ifCond .ne 9, 3) := by decide +kernel
theorem dX12_tell_113 : decode cX12_tell 113 = .ok (.aload_n 0, 1) := by decide +kernel
theorem dX12_tell_114 : decode cX12_tell 114 = .ok (.iconst 1, 1) := by decide +kernel
theorem dX12_tell_115 : decode cX12_tell 115 = .ok (.invokevirtual 508, 3) := by decide +kernel
theorem dX12_tell_118 : decode cX12_tell 118 = .ok (.ireturn, 1) := by decide +kernel
theorem dX12_tell_119 : decode cX12_tell 119 = .ok (.iconst 0, 1) := by decide +kernel
theorem dX12_tell_120 : decode cX12_tell 120 = .ok (.istore_n 3, 1) := by decide +kernel
theorem dX12_tell_121 : decode cX12_tell 121 = .ok (.iload_n 3, 1) := by decide +kernel
theorem dX12_tell_122 : decode cX12_tell 122 = .ok (.iload_n 1, 1) := by decide +kernel
theorem dX12_tell_123 : decode cX12_tell 123 = .ok (.if_icmp .ge 21, 3) := by decide +kernel
theorem dX12_tell_126 : decode cX12_tell 126 = .ok (.aload_n 0, 1) := by decide +kernel
theorem dX12_tell_127 : decode cX12_tell 127 = .ok (.getfield 142, 3) := by decide +kernel
theorem dX12_tell_130 : decode cX12_tell 130 = .ok (.iload_n 3, 1) := by decide +kernel
theorem dX12_tell_131 : decode cX12_tell 131 = .ok (.aload_n 0, 1) := by decide +kernel
theorem dX12_tell_132 : decode cX12_tell 132 = .ok (.getfield 7, 3) := by decide +kernel
theorem dX12_tell_135 : decode cX12_tell 135 = .ok (.iload_n 3, 1) := by decide +kernel
theorem dX12_tell_136 : decode cX12_tell 136 = .ok (.iaload, 1) := by decide +kernel
theorem dX12_tell_137 : decode cX12_tell 137 = .ok (.iastore, 1) := by decide +kernel
theorem dX12_tell_138 : decode cX12_tell 138 = .ok (.iinc 3 1, 3) := by decide +kernel
theorem dX12_tell_141 : decode cX12_tell 141 = .ok (.goto (-20), 3) := by decide +kernel
theorem dX12_tell_144 : decode cX12_tell 144 = .ok (.aload_n 0, 1) := by decide +kernel
theorem dX12_tell_145 : decode cX12_tell 145 = .ok (.iload_n 1, 1) := by decide +kernel
theorem dX12_tell_146 : decode cX12_tell 146 = .ok (.iconst 4, 1) := by decide +kernel
theorem dX12_tell_147 : decode cX12_tell 147 = .ok (.idiv, 1) := by decide +kernel
theorem dX12_tell_148 : decode cX12_tell 148 = .ok (.putfield 361, 3) := by decide +kernel
theorem dX12_tell_151 : decode cX12_tell 151 = .ok (.aload_n 0, 1) := by decide +kernel
theorem dX12_tell_152 : decode cX12_tell 152 = .ok (.getfield 361, 3) := by decide +kernel
theorem dX12_tell_155 : decode cX12_tell 155 = .ok (.ireturn, 1) := by decide +kernel
theorem kl_RX12_142 : KLk RX12 142 12 59 := ⟨RX12, TX12, 97, rfl, by decide, Or.inl (kwm 1256 (by decide +kernel) (by decide +kernel))⟩
theorem kc_RX12_508 : Cond.methodLink RX12 508 yX12_refuses ∈ ktG ∧ (Cond.instanceMethod yX12_refuses ∈ ktG ∧ Cond.selects yX12_refuses.cls yX12_refuses yX12_refuses ∈ ktG) ∧ Cond.initialized yX12_refuses.cls ∈ ktG ∧ Cond.code yX12_refuses cX12_refuses 2 (some .int) ∈ ktG := ⟨(kwm 1895 (by decide +kernel) (by decide +kernel)), ⟨(kwm 1897 (by decide +kernel) (by decide +kernel)), (kwm 105 (by decide +kernel) (by decide +kernel))⟩, (kwm 139 (by decide +kernel) (by decide +kernel)), kwm 1898 (by decide +kernel) (by decide +kernel)⟩
theorem kh_X12_refuses : yX12_refuses.cls ≠ "java/lang/invoke/MethodHandle" ∧ yX12_refuses.cls ≠ "java/lang/invoke/VarHandle" ∧ (parseMethodDescriptor yX12_refuses.desc).map (fun d => d.parameters.length) = some 1 := by decide +kernel
def E_X12_tell_l36 (h : KH) (v0 : Nat) (v1 : Int32) : Int32 → Nat → List (Nat × Value) → List Value → KH → Prop := fun (e : Int32) pc ls st hh => pc = 109 ∧ ls = [(0, .ref v0), (1, .int v1), (2, .int e)] ∧ st = [] ∧ h = hh
def B_X12_tell_l36 (h : KH) (v0 : Nat) (v1 : Int32) : ((Int32 × Int32) ⊕ (Int32)) → Nat → List (Nat × Value) → List Value → KH → Prop := Sum.elim (fun (s : Int32 × Int32) pc ls st hh => pc = 36 ∧ ls = [(0, .ref v0), (1, .int v1), (2, .int s.1), (3, .int s.2)] ∧ st = [] ∧ hh = h) (E_X12_tell_l36 h v0 v1)
def f_X12_tell_b102 (h : KH) (v0 : Nat) (v1 : Int32) (v3 : Int32) (w0 : Int32) : Option ((Int32 × Int32) ⊕ (Int32)) :=
  kl (v3 + (4 : Int32)) fun x1 =>
  some (.inl (w0, x1))
set_option maxHeartbeats 4000000 in
set_option maxRecDepth 100000 in
theorem s_X12_tell_b102 {Z : Nat → (Nat → Nat) → State → Prop} (h : KH) (v0 : Nat) (v1 : Int32) (v3 : Int32) (w0 : Int32) {t : (Int32 × Int32) ⊕ (Int32)} (hn : h.1 = 243) (H : f_X12_tell_b102 h v0 v1 v3 w0 = some t) : KX Z RX12 cX12_tell 4 false 3 (B_X12_tell_l36 h v0 v1 t) 102 [(0, .ref v0), (1, .int v1), (3, .int v3)] [.int w0] h := by
  unfold f_X12_tell_b102 at H
  refine x_istore_n (q := 103) (i := 2) (ls2 := [(2, .int w0), (0, .ref v0), (1, .int v1), (3, .int v3)]) dX12_tell_102 rfl rfl (by decide) rfl ?_
  replace H := kle H; obtain ⟨x1, q2, H⟩ := H
  refine x_iinc (q := 106) (i := 3) (ls2 := [(3, .int x1), (2, .int w0), (0, .ref v0), (1, .int v1)]) dX12_tell_103 rfl rfl (by decide) (by rw [q2]; rfl) ?_
  refine x_goto dX12_tell_106 (q := 36) (by decide) ?_
  cases H
  refine x_sub (ls2 := [(0, .ref v0), (1, .int v1), (2, .int w0), (3, .int x1)]) [2, 3, 1, 0] rfl ?_
  exact x_end (x_cfg rfl)
def f_X12_tell_b101 (h : KH) (v0 : Nat) (v1 : Int32) (v3 : Int32) : Option ((Int32 × Int32) ⊕ (Int32)) :=
  f_X12_tell_b102 h v0 v1 v3 (0 : Int32)
set_option maxHeartbeats 4000000 in
set_option maxRecDepth 100000 in
theorem s_X12_tell_b101 {Z : Nat → (Nat → Nat) → State → Prop} (h : KH) (v0 : Nat) (v1 : Int32) (v3 : Int32) {t : (Int32 × Int32) ⊕ (Int32)} (hn : h.1 = 243) (H : f_X12_tell_b101 h v0 v1 v3 = some t) : KX Z RX12 cX12_tell 4 false 3 (B_X12_tell_l36 h v0 v1 t) 101 [(0, .ref v0), (1, .int v1), (3, .int v3)] [] h := by
  unfold f_X12_tell_b101 at H
  refine x_iconst (q := 102) (v := (0 : Int32)) dX12_tell_101 rfl (by decide) ?_
  refine x_sub (ls2 := [(0, .ref v0), (1, .int v1), (3, .int v3)]) [0, 1, 2] rfl ?_
  exact s_X12_tell_b102 h v0 v1 v3 (0 : Int32) hn H
def f_X12_tell_l36 (h : KH) (v0 : Nat) (v1 : Int32) (s : Int32 × Int32) : Option ((Int32 × Int32) ⊕ (Int32)) :=
  if v1 ≤ s.2 then
  some (.inr s.1)
  else
  if s.1 = 0 then
  some (.inr s.1)
  else
  if kkind v0 = 12 then if (kR h v0 0) < 999999 then if kkind (kR h v0 0) = 20 then if (s.2 < 0 ∨ klen (kR h v0 0) ≤ (s.2).toNatClampNeg) then none else kb (f_X12_isKind h v0 (kI h (kR h v0 0) ((s.2).toNatClampNeg))) fun r7 =>
  if r7 = 0 then
  f_X12_tell_b101 h v0 v1 s.2
  else
  if ((s.2 + (1 : Int32)) < 0 ∨ klen (kR h v0 0) ≤ ((s.2 + (1 : Int32))).toNatClampNeg) then none else kb (f_X12_isKind h v0 (kI h (kR h v0 0) (((s.2 + (1 : Int32))).toNatClampNeg))) fun r12 =>
  if r12 = 0 then
  f_X12_tell_b101 h v0 v1 s.2
  else
  if ((s.2 + (2 : Int32)) < 0 ∨ klen (kR h v0 0) ≤ ((s.2 + (2 : Int32))).toNatClampNeg) then none else if (2 : Int32) ≤ (kI h (kR h v0 0) (((s.2 + (2 : Int32))).toNatClampNeg)) then
  f_X12_tell_b101 h v0 v1 s.2
  else
  if ((s.2 + (3 : Int32)) < 0 ∨ klen (kR h v0 0) ≤ ((s.2 + (3 : Int32))).toNatClampNeg) then none else if (2 : Int32) ≤ (kI h (kR h v0 0) (((s.2 + (3 : Int32))).toNatClampNeg)) then
  f_X12_tell_b101 h v0 v1 s.2
  else
  f_X12_tell_b102 h v0 v1 s.2 (1 : Int32) else none else none else none
set_option maxHeartbeats 4000000 in
set_option maxRecDepth 100000 in
theorem s_X12_tell_l36 {Z : Nat → (Nat → Nat) → State → Prop} (h : KH) (v0 : Nat) (v1 : Int32) (s : Int32 × Int32) (t : (Int32 × Int32) ⊕ (Int32)) (hn : (h).1 = 243) (H : f_X12_tell_l36 h v0 v1 s = some t) : KX Z RX12 cX12_tell 4 false 3 (B_X12_tell_l36 h v0 v1 t) 36 [(0, .ref v0), (1, .int v1), (2, .int s.1), (3, .int s.2)] [] h := by
  unfold f_X12_tell_l36 at H
  refine x_iload_n (q := 37) dX12_tell_36 rfl rfl ?_
  refine x_iload_n (q := 38) dX12_tell_37 rfl rfl ?_
  replace H := kite H; rcases H with ⟨g1, H⟩ | ⟨g1, H⟩
  · refine x_icmp_ge_t dX12_tell_38 (q := 109) (by decide) g1 ?_
    cases H
    refine x_sub (ls2 := [(0, .ref v0), (1, .int v1), (2, .int s.1)]) [0, 1, 2] rfl ?_
    exact x_end (x_cfg rfl)
  · refine x_icmp_ge_f (q := 41) dX12_tell_38 (t := 109) (by decide) rfl g1 ?_
    refine x_iload_n (q := 42) dX12_tell_41 rfl rfl ?_
    replace H := kite H; rcases H with ⟨g2, H⟩ | ⟨g2, H⟩
    · refine x_if_eq_t dX12_tell_42 (q := 109) (by decide) g2 ?_
      cases H
      refine x_sub (ls2 := [(0, .ref v0), (1, .int v1), (2, .int s.1)]) [0, 1, 2] rfl ?_
      exact x_end (x_cfg rfl)
    · refine x_if_eq_f (q := 45) dX12_tell_42 (t := 109) (by decide) rfl g2 ?_
      refine x_aload_n (q := 46) dX12_tell_45 rfl rfl ?_
      refine x_aload_n (q := 47) dX12_tell_46 rfl rfl ?_
      replace H := kif H; obtain ⟨g3, H⟩ := H
      replace H := kif H; obtain ⟨g4, H⟩ := H
      refine x_getR (q := 50) dX12_tell_47 rfl kl_RX12_7 rfl (k243 g3 (by decide) hn) g4 ?_
      refine x_iload_n (q := 51) dX12_tell_50 rfl rfl ?_
      replace H := kif H; obtain ⟨g5, H⟩ := H
      replace H := kifn H; obtain ⟨g6, H⟩ := H
      refine x_iald (q := 52) dX12_tell_51 rfl (k243 g5 (by decide) hn) g6 ?_
      replace H := kbe H; obtain ⟨r7, c8, H⟩ := H
      have m9 := s_X12_isKind (Z := Z) h v0 (kI h (kR h v0 0) ((s.2).toNatClampNeg)) hn c8
      refine x_callV (q := 55) (as := [.int (kI h (kR h v0 0) ((s.2).toNatClampNeg))]) (rest := []) dX12_tell_52 rfl kc_RX12_468 kh_X12_isKind (by decide) (Nat.le_of_ble_eq_true rfl) m9 (ci := 12) (by exact ⟨rfl, by decide⟩) (k243 g3 (by decide) hn) ?_
      replace H := kite H; rcases H with ⟨g10, H⟩ | ⟨g10, H⟩
      · refine x_if_eq_t dX12_tell_55 (q := 101) (by decide) g10 ?_
        refine x_sub (ls2 := [(0, .ref v0), (1, .int v1), (3, .int s.2)]) [0, 1, 3] rfl ?_
        exact s_X12_tell_b101 h v0 v1 s.2 hn H
      · refine x_if_eq_f (q := 58) dX12_tell_55 (t := 101) (by decide) rfl g10 ?_
        refine x_aload_n (q := 59) dX12_tell_58 rfl rfl ?_
        refine x_aload_n (q := 60) dX12_tell_59 rfl rfl ?_
        refine x_getR (q := 63) dX12_tell_60 rfl kl_RX12_7 rfl (k243 g3 (by decide) hn) g4 ?_
        refine x_iload_n (q := 64) dX12_tell_63 rfl rfl ?_
        refine x_iconst (q := 65) (v := (1 : Int32)) dX12_tell_64 rfl (by decide) ?_
        refine x_iadd (q := 66) dX12_tell_65 rfl ?_
        replace H := kifn H; obtain ⟨g11, H⟩ := H
        refine x_iald (q := 67) dX12_tell_66 rfl (k243 g5 (by decide) hn) g11 ?_
        replace H := kbe H; obtain ⟨r12, c13, H⟩ := H
        have m14 := s_X12_isKind (Z := Z) h v0 (kI h (kR h v0 0) (((s.2 + (1 : Int32))).toNatClampNeg)) hn c13
        refine x_callV (q := 70) (as := [.int (kI h (kR h v0 0) (((s.2 + (1 : Int32))).toNatClampNeg))]) (rest := []) dX12_tell_67 rfl kc_RX12_468 kh_X12_isKind (by decide) (Nat.le_of_ble_eq_true rfl) m14 (ci := 12) (by exact ⟨rfl, by decide⟩) (k243 g3 (by decide) hn) ?_
        replace H := kite H; rcases H with ⟨g15, H⟩ | ⟨g15, H⟩
        · refine x_if_eq_t dX12_tell_70 (q := 101) (by decide) g15 ?_
          refine x_sub (ls2 := [(0, .ref v0), (1, .int v1), (3, .int s.2)]) [0, 1, 3] rfl ?_
          exact s_X12_tell_b101 h v0 v1 s.2 hn H
        · refine x_if_eq_f (q := 73) dX12_tell_70 (t := 101) (by decide) rfl g15 ?_
          refine x_aload_n (q := 74) dX12_tell_73 rfl rfl ?_
          refine x_getR (q := 77) dX12_tell_74 rfl kl_RX12_7 rfl (k243 g3 (by decide) hn) g4 ?_
          refine x_iload_n (q := 78) dX12_tell_77 rfl rfl ?_
          refine x_iconst (q := 79) (v := (2 : Int32)) dX12_tell_78 rfl (by decide) ?_
          refine x_iadd (q := 80) dX12_tell_79 rfl ?_
          replace H := kifn H; obtain ⟨g16, H⟩ := H
          refine x_iald (q := 81) dX12_tell_80 rfl (k243 g5 (by decide) hn) g16 ?_
          refine x_iconst (q := 82) (v := (2 : Int32)) dX12_tell_81 rfl (by decide) ?_
          replace H := kite H; rcases H with ⟨g17, H⟩ | ⟨g17, H⟩
          · refine x_icmp_ge_t dX12_tell_82 (q := 101) (by decide) g17 ?_
            refine x_sub (ls2 := [(0, .ref v0), (1, .int v1), (3, .int s.2)]) [0, 1, 3] rfl ?_
            exact s_X12_tell_b101 h v0 v1 s.2 hn H
          · refine x_icmp_ge_f (q := 85) dX12_tell_82 (t := 101) (by decide) rfl g17 ?_
            refine x_aload_n (q := 86) dX12_tell_85 rfl rfl ?_
            refine x_getR (q := 89) dX12_tell_86 rfl kl_RX12_7 rfl (k243 g3 (by decide) hn) g4 ?_
            refine x_iload_n (q := 90) dX12_tell_89 rfl rfl ?_
            refine x_iconst (q := 91) (v := (3 : Int32)) dX12_tell_90 rfl (by decide) ?_
            refine x_iadd (q := 92) dX12_tell_91 rfl ?_
            replace H := kifn H; obtain ⟨g18, H⟩ := H
            refine x_iald (q := 93) dX12_tell_92 rfl (k243 g5 (by decide) hn) g18 ?_
            refine x_iconst (q := 94) (v := (2 : Int32)) dX12_tell_93 rfl (by decide) ?_
            replace H := kite H; rcases H with ⟨g19, H⟩ | ⟨g19, H⟩
            · refine x_icmp_ge_t dX12_tell_94 (q := 101) (by decide) g19 ?_
              refine x_sub (ls2 := [(0, .ref v0), (1, .int v1), (3, .int s.2)]) [0, 1, 3] rfl ?_
              exact s_X12_tell_b101 h v0 v1 s.2 hn H
            · refine x_icmp_ge_f (q := 97) dX12_tell_94 (t := 101) (by decide) rfl g19 ?_
              refine x_iconst (q := 98) (v := (1 : Int32)) dX12_tell_97 rfl (by decide) ?_
              refine x_goto dX12_tell_98 (q := 102) (by decide) ?_
              refine x_sub (ls2 := [(0, .ref v0), (1, .int v1), (3, .int s.2)]) [0, 1, 3] rfl ?_
              exact s_X12_tell_b102 h v0 v1 s.2 (1 : Int32) hn H
theorem sl_X12_tell_l36 {Z : Nat → (Nat → Nat) → State → Prop} (h : KH) (v0 : Nat) (v1 : Int32) (n : Nat) (s : Int32 × Int32) (r : Int32) (hn : (h).1 = 243) (H : kloop (f_X12_tell_l36 h v0 v1) n s = some r) : KX Z RX12 cX12_tell 4 false 3 (E_X12_tell_l36 h v0 v1 r) 36 [(0, .ref v0), (1, .int v1), (2, .int s.1), (3, .int s.2)] [] h :=
  k_loop (ls := (fun (s : Int32 × Int32) => ([(0, .ref v0), (1, .int v1), (2, .int s.1), (3, .int s.2)] : List (Nat × Value)))) (hp := (fun (s : Int32 × Int32) => (h : KH))) (G := E_X12_tell_l36 h v0 v1) (fun s t hn H => s_X12_tell_l36 h v0 v1 s t hn H) n s r hn H
def E_X12_tell_l121 (v0 : Nat) (v1 : Int32) : KH → Nat → List (Nat × Value) → List Value → KH → Prop := fun (e : KH) pc ls st hh => pc = 144 ∧ ls = [(0, .ref v0), (1, .int v1)] ∧ st = [] ∧ e = hh
def B_X12_tell_l121 (v0 : Nat) (v1 : Int32) : ((Int32 × KH) ⊕ (KH)) → Nat → List (Nat × Value) → List Value → KH → Prop := Sum.elim (fun (s : Int32 × KH) pc ls st hh => pc = 121 ∧ ls = [(0, .ref v0), (1, .int v1), (3, .int s.1)] ∧ st = [] ∧ hh = s.2) (E_X12_tell_l121 v0 v1)
def f_X12_tell_l121 (v0 : Nat) (v1 : Int32) (s : Int32 × KH) : Option ((Int32 × KH) ⊕ (KH)) :=
  if v1 ≤ s.1 then
  some (.inr s.2)
  else
  if kkind v0 = 12 then if (kR s.2 v0 59) < 999999 then if (kR s.2 v0 0) < 999999 then if kkind (kR s.2 v0 0) = 20 then if (s.1 < 0 ∨ klen (kR s.2 v0 0) ≤ (s.1).toNatClampNeg) then none else if kkind (kR s.2 v0 59) = 20 then if (s.1 < 0 ∨ klen (kR s.2 v0 59) ≤ (s.1).toNatClampNeg) then none else kl (ksI s.2 (kR s.2 v0 59) ((s.1).toNatClampNeg) (kI s.2 (kR s.2 v0 0) ((s.1).toNatClampNeg))) fun h9 =>
  kl (s.1 + (1 : Int32)) fun x12 =>
  some (.inl (x12, h9)) else none else none else none else none else none
set_option maxHeartbeats 4000000 in
set_option maxRecDepth 100000 in
theorem s_X12_tell_l121 {Z : Nat → (Nat → Nat) → State → Prop} (v0 : Nat) (v1 : Int32) (s : Int32 × KH) (t : (Int32 × KH) ⊕ (KH)) (hn : (s.2).1 = 243) (H : f_X12_tell_l121 v0 v1 s = some t) : KX Z RX12 cX12_tell 4 false 3 (B_X12_tell_l121 v0 v1 t) 121 [(0, .ref v0), (1, .int v1), (3, .int s.1)] [] s.2 := by
  unfold f_X12_tell_l121 at H
  refine x_iload_n (q := 122) dX12_tell_121 rfl rfl ?_
  refine x_iload_n (q := 123) dX12_tell_122 rfl rfl ?_
  replace H := kite H; rcases H with ⟨g1, H⟩ | ⟨g1, H⟩
  · refine x_icmp_ge_t dX12_tell_123 (q := 144) (by decide) g1 ?_
    cases H
    refine x_sub (ls2 := [(0, .ref v0), (1, .int v1)]) [0, 1] rfl ?_
    exact x_end (x_cfg rfl)
  · refine x_icmp_ge_f (q := 126) dX12_tell_123 (t := 144) (by decide) rfl g1 ?_
    refine x_aload_n (q := 127) dX12_tell_126 rfl rfl ?_
    replace H := kif H; obtain ⟨g2, H⟩ := H
    replace H := kif H; obtain ⟨g3, H⟩ := H
    refine x_getR (q := 130) dX12_tell_127 rfl kl_RX12_142 rfl (k243 g2 (by decide) hn) g3 ?_
    refine x_iload_n (q := 131) dX12_tell_130 rfl rfl ?_
    refine x_aload_n (q := 132) dX12_tell_131 rfl rfl ?_
    replace H := kif H; obtain ⟨g4, H⟩ := H
    refine x_getR (q := 135) dX12_tell_132 rfl kl_RX12_7 rfl (k243 g2 (by decide) hn) g4 ?_
    refine x_iload_n (q := 136) dX12_tell_135 rfl rfl ?_
    replace H := kif H; obtain ⟨g5, H⟩ := H
    replace H := kifn H; obtain ⟨g6, H⟩ := H
    refine x_iald (q := 137) dX12_tell_136 rfl (k243 g5 (by decide) hn) g6 ?_
    replace H := kif H; obtain ⟨g7, H⟩ := H
    replace H := kifn H; obtain ⟨g8, H⟩ := H
    replace H := kle H; obtain ⟨h9, q10, H⟩ := H
    refine x_iast (q := 138) dX12_tell_137 rfl (k243 g7 (by decide) hn) g8 ?_
    refine x_nmH q10 ?_
    have n11 : h9.1 = 243 := by rw [q10]; exact hn
    replace H := kle H; obtain ⟨x12, q13, H⟩ := H
    refine x_iinc (q := 141) (i := 3) (ls2 := [(3, .int x12), (0, .ref v0), (1, .int v1)]) dX12_tell_138 rfl rfl (by decide) (by rw [q13]; rfl) ?_
    refine x_goto dX12_tell_141 (q := 121) (by decide) ?_
    cases H
    refine x_sub (ls2 := [(0, .ref v0), (1, .int v1), (3, .int x12)]) [1, 2, 0] rfl ?_
    exact x_end (x_cfg rfl)
theorem sl_X12_tell_l121 {Z : Nat → (Nat → Nat) → State → Prop} (v0 : Nat) (v1 : Int32) (n : Nat) (s : Int32 × KH) (r : KH) (hn : (s.2).1 = 243) (H : kloop (f_X12_tell_l121 v0 v1) n s = some r) : KX Z RX12 cX12_tell 4 false 3 (E_X12_tell_l121 v0 v1 r) 121 [(0, .ref v0), (1, .int v1), (3, .int s.1)] [] s.2 :=
  k_loop (ls := (fun (s : Int32 × KH) => ([(0, .ref v0), (1, .int v1), (3, .int s.1)] : List (Nat × Value)))) (hp := (fun (s : Int32 × KH) => (s.2 : KH))) (G := E_X12_tell_l121 v0 v1) (fun s t hn H => s_X12_tell_l121 v0 v1 s t hn H) n s r hn H
def f_X12_tell_b109 (h : KH) (v0 : Nat) (v1 : Int32) (v2 : Int32) : Option (Int32 × KH) :=
  if v2 = 0 then
  if kkind v0 = 12 then kb (f_X12_refuses h v0 (1 : Int32)) fun r10 =>
  some (r10.1, r10.2) else none
  else
  kb (kloop (f_X12_tell_l121 v0 v1) KF ((0 : Int32), h)) fun e2 =>
  if kkind v0 = 12 then kl (ksI e2 v0 58 (v1 / (4 : Int32))) fun h6 =>
  some ((kI h6 v0 58), h6) else none
set_option maxHeartbeats 4000000 in
set_option maxRecDepth 100000 in
theorem s_X12_tell_b109 {Z : Nat → (Nat → Nat) → State → Prop} (h : KH) (v0 : Nat) (v1 : Int32) (v2 : Int32) {t : Int32 × KH} (hn : h.1 = 243) (H : f_X12_tell_b109 h v0 v1 v2 = some t) : KX Z RX12 cX12_tell 4 false 3 (KRi cX12_tell t.1 t.2) 109 [(0, .ref v0), (1, .int v1), (2, .int v2)] [] h := by
  unfold f_X12_tell_b109 at H
  refine x_iload_n (q := 110) dX12_tell_109 rfl rfl ?_
  replace H := kite H; rcases H with ⟨g1, H⟩ | ⟨g1, H⟩
  · refine x_if_ne_f (q := 113) dX12_tell_110 (t := 119) (by decide) rfl g1 ?_
    refine x_aload_n (q := 114) dX12_tell_113 rfl rfl ?_
    refine x_iconst (q := 115) (v := (1 : Int32)) dX12_tell_114 rfl (by decide) ?_
    replace H := kif H; obtain ⟨g9, H⟩ := H
    replace H := kbe H; obtain ⟨r10, c11, H⟩ := H
    have m12 := s_X12_refuses (Z := Z) h v0 (1 : Int32) hn c11
    refine x_callV (q := 118) (as := [.int (1 : Int32)]) (rest := []) dX12_tell_115 rfl kc_RX12_508 kh_X12_refuses (by decide) (Nat.le_of_ble_eq_true rfl) m12 (ci := 12) (by exact ⟨rfl, by decide⟩) (k243 g9 (by decide) hn) ?_
    have n13 : (r10.2).1 = 243 := m12.1.full hn
    cases H
    exact x_end ⟨dX12_tell_118, rfl, rfl⟩
  · refine x_if_ne_t dX12_tell_110 (q := 119) (by decide) g1 ?_
    refine x_iconst (q := 120) (v := (0 : Int32)) dX12_tell_119 rfl (by decide) ?_
    refine x_istore_n (q := 121) (i := 3) (ls2 := [(3, .int (0 : Int32)), (0, .ref v0), (1, .int v1), (2, .int v2)]) dX12_tell_120 rfl rfl (by decide) rfl ?_
    refine x_sub (ls2 := [(0, .ref v0), (1, .int v1), (3, .int (0 : Int32))]) [1, 2, 0] rfl ?_
    replace H := kbe H; obtain ⟨e2, c3, H⟩ := H
    refine x_app (sl_X12_tell_l121 v0 v1 KF ((0 : Int32), h) e2 hn c3) fun pc2 ls2 st2 h2 hg m4 => ?_
    obtain ⟨rfl, rfl, rfl, rfl⟩ := hg
    refine x_aload_n (q := 145) dX12_tell_144 rfl rfl ?_
    refine x_iload_n (q := 146) dX12_tell_145 rfl rfl ?_
    refine x_iconst (q := 147) (v := (4 : Int32)) dX12_tell_146 rfl (by decide) ?_
    refine x_idiv (q := 148) dX12_tell_147 rfl (by decide) ?_
    replace H := kif H; obtain ⟨g5, H⟩ := H
    replace H := kle H; obtain ⟨h6, q7, H⟩ := H
    refine x_putI (q := 151) dX12_tell_148 rfl kl_RX12_361 (Or.inl rfl) rfl (k243 g5 (by decide) (m4.full hn)) ?_
    refine x_nmH q7 ?_
    have n8 : h6.1 = 243 := by rw [q7]; exact (m4.full hn)
    refine x_aload_n (q := 152) dX12_tell_151 rfl rfl ?_
    refine x_getI (q := 155) dX12_tell_152 rfl kl_RX12_361 (Or.inl rfl) (k243 g5 (by decide) n8) ?_
    cases H
    exact x_end ⟨dX12_tell_155, rfl, rfl⟩
def f_X12_tell_b33 (h : KH) (v0 : Nat) (v1 : Int32) (w0 : Int32) : Option (Int32 × KH) :=
  kb (kloop (f_X12_tell_l36 h v0 v1) KF (w0, (0 : Int32))) fun e1 =>
  f_X12_tell_b109 h v0 v1 e1
set_option maxHeartbeats 4000000 in
set_option maxRecDepth 100000 in
theorem s_X12_tell_b33 {Z : Nat → (Nat → Nat) → State → Prop} (h : KH) (v0 : Nat) (v1 : Int32) (w0 : Int32) {t : Int32 × KH} (hn : h.1 = 243) (H : f_X12_tell_b33 h v0 v1 w0 = some t) : KX Z RX12 cX12_tell 4 false 3 (KRi cX12_tell t.1 t.2) 33 [(0, .ref v0), (1, .int v1)] [.int w0] h := by
  unfold f_X12_tell_b33 at H
  refine x_istore_n (q := 34) (i := 2) (ls2 := [(2, .int w0), (0, .ref v0), (1, .int v1)]) dX12_tell_33 rfl rfl (by decide) rfl ?_
  refine x_iconst (q := 35) (v := (0 : Int32)) dX12_tell_34 rfl (by decide) ?_
  refine x_istore_n (q := 36) (i := 3) (ls2 := [(3, .int (0 : Int32)), (2, .int w0), (0, .ref v0), (1, .int v1)]) dX12_tell_35 rfl rfl (by decide) rfl ?_
  refine x_sub (ls2 := [(0, .ref v0), (1, .int v1), (2, .int w0), (3, .int (0 : Int32))]) [2, 3, 1, 0] rfl ?_
  replace H := kbe H; obtain ⟨e1, c2, H⟩ := H
  refine x_app (sl_X12_tell_l36 h v0 v1 KF (w0, (0 : Int32)) e1 hn c2) fun pc2 ls2 st2 h2 hg m3 => ?_
  obtain ⟨rfl, rfl, rfl, rfl⟩ := hg
  refine x_sub (ls2 := [(0, .ref v0), (1, .int v1), (2, .int e1)]) [0, 1, 2] rfl ?_
  exact s_X12_tell_b109 h v0 v1 e1 hn H
def f_X12_tell_b32 (h : KH) (v0 : Nat) (v1 : Int32) : Option (Int32 × KH) :=
  f_X12_tell_b33 h v0 v1 (0 : Int32)
set_option maxHeartbeats 4000000 in
set_option maxRecDepth 100000 in
theorem s_X12_tell_b32 {Z : Nat → (Nat → Nat) → State → Prop} (h : KH) (v0 : Nat) (v1 : Int32) {t : Int32 × KH} (hn : h.1 = 243) (H : f_X12_tell_b32 h v0 v1 = some t) : KX Z RX12 cX12_tell 4 false 3 (KRi cX12_tell t.1 t.2) 32 [(0, .ref v0), (1, .int v1)] [] h := by
  unfold f_X12_tell_b32 at H
  refine x_iconst (q := 33) (v := (0 : Int32)) dX12_tell_32 rfl (by decide) ?_
  refine x_sub (ls2 := [(0, .ref v0), (1, .int v1)]) [0, 1] rfl ?_
  exact s_X12_tell_b33 h v0 v1 (0 : Int32) hn H
def f_X12_tell (h : KH) (v0 : Nat) : Option (Int32 × KH) :=
  if kkind v0 = 12 then kl (kI h v0 1) fun x2 =>
  kl (ksI h v0 1 (0 : Int32)) fun h4 =>
  if x2 ≤ 0 then
  f_X12_tell_b32 h4 v0 x2
  else
  if (x2 - x2 / (4 : Int32) * (4 : Int32)) = 0 then
  if (16 : Int32) < (x2 / (4 : Int32)) then
  f_X12_tell_b32 h4 v0 x2
  else
  f_X12_tell_b33 h4 v0 x2 (1 : Int32)
  else
  f_X12_tell_b32 h4 v0 x2 else none
set_option maxHeartbeats 4000000 in
set_option maxRecDepth 100000 in
theorem s0_X12_tell {Z : Nat → (Nat → Nat) → State → Prop} (h : KH) (v0 : Nat) {t : Int32 × KH} (hn : h.1 = 243) (H : f_X12_tell h v0 = some t) : KX Z RX12 cX12_tell 4 false 3 (KRi cX12_tell t.1 t.2) 0 [(0, .ref v0)] [] h := by
  unfold f_X12_tell at H
  refine x_aload_n (q := 1) dX12_tell_0 rfl rfl ?_
  replace H := kif H; obtain ⟨g1, H⟩ := H
  refine x_getI (q := 4) dX12_tell_1 rfl kl_RX12_227 (Or.inl rfl) (k243 g1 (by decide) hn) ?_
  replace H := kle H; obtain ⟨x2, q3, H⟩ := H
  refine x_nmI q3 ?_
  refine x_istore_n (q := 5) (i := 1) (ls2 := [(1, .int x2), (0, .ref v0)]) dX12_tell_4 rfl rfl (by decide) rfl ?_
  refine x_aload_n (q := 6) dX12_tell_5 rfl rfl ?_
  refine x_iconst (q := 7) (v := (0 : Int32)) dX12_tell_6 rfl (by decide) ?_
  replace H := kle H; obtain ⟨h4, q5, H⟩ := H
  refine x_putI (q := 10) dX12_tell_7 rfl kl_RX12_227 (Or.inl rfl) rfl (k243 g1 (by decide) hn) ?_
  refine x_nmH q5 ?_
  have n6 : h4.1 = 243 := by rw [q5]; exact hn
  refine x_iload_n (q := 11) dX12_tell_10 rfl rfl ?_
  replace H := kite H; rcases H with ⟨g7, H⟩ | ⟨g7, H⟩
  · refine x_if_le_t dX12_tell_11 (q := 32) (by decide) g7 ?_
    refine x_sub (ls2 := [(0, .ref v0), (1, .int x2)]) [1, 0] rfl ?_
    exact s_X12_tell_b32 h4 v0 x2 n6 H
  · refine x_if_le_f (q := 14) dX12_tell_11 (t := 32) (by decide) rfl g7 ?_
    refine x_iload_n (q := 15) dX12_tell_14 rfl rfl ?_
    refine x_iconst (q := 16) (v := (4 : Int32)) dX12_tell_15 rfl (by decide) ?_
    refine x_irem (q := 17) dX12_tell_16 rfl (by decide) ?_
    replace H := kite H; rcases H with ⟨g8, H⟩ | ⟨g8, H⟩
    · refine x_if_ne_f (q := 20) dX12_tell_17 (t := 32) (by decide) rfl g8 ?_
      refine x_iload_n (q := 21) dX12_tell_20 rfl rfl ?_
      refine x_iconst (q := 22) (v := (4 : Int32)) dX12_tell_21 rfl (by decide) ?_
      refine x_idiv (q := 23) dX12_tell_22 rfl (by decide) ?_
      refine x_bipush (q := 25) (v := (16 : Int32)) dX12_tell_23 rfl (by decide) ?_
      replace H := kite H; rcases H with ⟨g9, H⟩ | ⟨g9, H⟩
      · refine x_icmp_gt_t dX12_tell_25 (q := 32) (by decide) g9 ?_
        refine x_sub (ls2 := [(0, .ref v0), (1, .int x2)]) [1, 0] rfl ?_
        exact s_X12_tell_b32 h4 v0 x2 n6 H
      · refine x_icmp_gt_f (q := 28) dX12_tell_25 (t := 32) (by decide) rfl g9 ?_
        refine x_iconst (q := 29) (v := (1 : Int32)) dX12_tell_28 rfl (by decide) ?_
        refine x_goto dX12_tell_29 (q := 33) (by decide) ?_
        refine x_sub (ls2 := [(0, .ref v0), (1, .int x2)]) [1, 0] rfl ?_
        exact s_X12_tell_b33 h4 v0 x2 (1 : Int32) n6 H
    · refine x_if_ne_t dX12_tell_17 (q := 32) (by decide) g8 ?_
      refine x_sub (ls2 := [(0, .ref v0), (1, .int x2)]) [1, 0] rfl ?_
      exact s_X12_tell_b32 h4 v0 x2 n6 H
theorem s_X12_tell {Z : Nat → (Nat → Nat) → State → Prop} (h : KH) (v0 : Nat) {t : Int32 × KH} (hn : h.1 = 243) (H : f_X12_tell h v0 = some t) : KM Z yX12_tell cX12_tell 4 (some .int) 3 [.ref v0] h (some (.int t.1)) t.2 :=
  kx_i (own := RX12) (ini := false) (by decide +kernel) (by decide +kernel) rfl (Nat.le_of_ble_eq_true rfl) (s0_X12_tell h v0 hn H)
theorem dX12_isAsAnswered_0 : decode cX12_isAsAnswered 0 = .ok (.iconst 0, 1) := by decide +kernel
theorem dX12_isAsAnswered_1 : decode cX12_isAsAnswered 1 = .ok (.istore_n 2, 1) := by decide +kernel
theorem dX12_isAsAnswered_2 : decode cX12_isAsAnswered 2 = .ok (.iload_n 2, 1) := by decide +kernel
theorem dX12_isAsAnswered_3 : decode cX12_isAsAnswered 3 = .ok (.aload_n 0, 1) := by decide +kernel
theorem dX12_isAsAnswered_4 : decode cX12_isAsAnswered 4 = .ok (.getfield 361, 3) := by decide +kernel
theorem dX12_isAsAnswered_7 : decode cX12_isAsAnswered 7 = .ok (.if_icmp .ge 78, 3) := by decide +kernel
theorem dX12_isAsAnswered_10 : decode cX12_isAsAnswered 10 = .ok (.aload_n 0, 1) := by decide +kernel
theorem dX12_isAsAnswered_11 : decode cX12_isAsAnswered 11 = .ok (.getfield 121, 3) := by decide +kernel
theorem dX12_isAsAnswered_14 : decode cX12_isAsAnswered 14 = .ok (.bipush 36, 2) := by decide +kernel
theorem dX12_isAsAnswered_16 : decode cX12_isAsAnswered 16 = .ok (.bipush 6, 2) := by decide +kernel
theorem dX12_isAsAnswered_18 : decode cX12_isAsAnswered 18 = .ok (.iload_n 1, 1) := by decide +kernel
theorem dX12_isAsAnswered_19 : decode cX12_isAsAnswered 19 = .ok (.imul, 1) := by decide +kernel
theorem dX12_isAsAnswered_20 : decode cX12_isAsAnswered 20 = .ok (.iadd, 1) := by decide +kernel
theorem dX12_isAsAnswered_21 : decode cX12_isAsAnswered 21 = .ok (.aload_n 0, 1) := by decide +kernel
theorem dX12_isAsAnswered_22 : decode cX12_isAsAnswered 22 = .ok (.getfield 142, 3) := by decide +kernel
theorem dX12_isAsAnswered_25 : decode cX12_isAsAnswered 25 = .ok (.iconst 4, 1) := by decide +kernel
theorem dX12_isAsAnswered_26 : decode cX12_isAsAnswered 26 = .ok (.iload_n 2, 1) := by decide +kernel
theorem dX12_isAsAnswered_27 : decode cX12_isAsAnswered 27 = .ok (.imul, 1) := by decide +kernel
theorem dX12_isAsAnswered_28 : decode cX12_isAsAnswered 28 = .ok (.iaload, 1) := by decide +kernel
theorem dX12_isAsAnswered_29 : decode cX12_isAsAnswered 29 = .ok (.iadd, 1) := by decide +kernel
theorem dX12_isAsAnswered_30 : decode cX12_isAsAnswered 30 = .ok (.iaload, 1) := by decide +kernel
theorem dX12_isAsAnswered_31 : decode cX12_isAsAnswered 31 = .ok (.aload_n 0, 1) := by decide +kernel
theorem dX12_isAsAnswered_32 : decode cX12_isAsAnswered 32 = .ok (.getfield 142, 3) := by decide +kernel
theorem dX12_isAsAnswered_35 : decode cX12_isAsAnswered 35 = .ok (.iconst 4, 1) := by decide +kernel
theorem dX12_isAsAnswered_36 : decode cX12_isAsAnswered 36 = .ok (.iload_n 2, 1) := by decide +kernel
theorem dX12_isAsAnswered_37 : decode cX12_isAsAnswered 37 = .ok (.imul, 1) := by decide +kernel
theorem dX12_isAsAnswered_38 : decode cX12_isAsAnswered 38 = .ok (.iconst 2, 1) := by decide +kernel
theorem dX12_isAsAnswered_39 : decode cX12_isAsAnswered 39 = .ok (.iadd, 1) := by decide +kernel
theorem dX12_isAsAnswered_40 : decode cX12_isAsAnswered 40 = .ok (.iaload, 1) := by decide +kernel
theorem dX12_isAsAnswered_41 : decode cX12_isAsAnswered 41 = .ok (.if_icmp .ne 36, 3) := by decide +kernel
theorem dX12_isAsAnswered_44 : decode cX12_isAsAnswered 44 = .ok (.aload_n 0, 1) := by decide +kernel
theorem dX12_isAsAnswered_45 : decode cX12_isAsAnswered 45 = .ok (.getfield 121, 3) := by decide +kernel
theorem dX12_isAsAnswered_48 : decode cX12_isAsAnswered 48 = .ok (.bipush 6, 2) := by decide +kernel
theorem dX12_isAsAnswered_50 : decode cX12_isAsAnswered 50 = .ok (.iload_n 1, 1) := by decide +kernel
theorem dX12_isAsAnswered_51 : decode cX12_isAsAnswered 51 = .ok (.imul, 1) := by decide +kernel
theorem dX12_isAsAnswered_52 : decode cX12_isAsAnswered 52 = .ok (.aload_n 0, 1) := by decide +kernel
theorem dX12_isAsAnswered_53 : decode cX12_isAsAnswered 53 = .ok (.getfield 142, 3) := by decide +kernel
theorem dX12_isAsAnswered_56 : decode cX12_isAsAnswered 56 = .ok (.iconst 4, 1) := by decide +kernel
theorem dX12_isAsAnswered_57 : decode cX12_isAsAnswered 57 = .ok (.iload_n 2, 1) := by decide +kernel
theorem dX12_isAsAnswered_58 : decode cX12_isAsAnswered 58 = .ok (.imul, 1) := by decide +kernel
theorem dX12_isAsAnswered_59 : decode cX12_isAsAnswered 59 = .ok (.iconst 1, 1) := by decide +kernel
theorem dX12_isAsAnswered_60 : decode cX12_isAsAnswered 60 = .ok (.iadd, 1) := by decide +kernel
theorem dX12_isAsAnswered_61 : decode cX12_isAsAnswered 61 = .ok (.iaload, 1) := by decide +kernel
theorem dX12_isAsAnswered_62 : decode cX12_isAsAnswered 62 = .ok (.iadd, 1) := by decide +kernel
theorem dX12_isAsAnswered_63 : decode cX12_isAsAnswered 63 = .ok (.iaload, 1) := by decide +kernel
theorem dX12_isAsAnswered_64 : decode cX12_isAsAnswered 64 = .ok (.aload_n 0, 1) := by decide +kernel
theorem dX12_isAsAnswered_65 : decode cX12_isAsAnswered 65 = .ok (.getfield 142, 3) := by decide +kernel
theorem dX12_isAsAnswered_68 : decode cX12_isAsAnswered 68 = .ok (.iconst 4, 1) := by decide +kernel
theorem dX12_isAsAnswered_69 : decode cX12_isAsAnswered 69 = .ok (.iload_n 2, 1) := by decide +kernel
theorem dX12_isAsAnswered_70 : decode cX12_isAsAnswered 70 = .ok (.imul, 1) := by decide +kernel
theorem dX12_isAsAnswered_71 : decode cX12_isAsAnswered 71 = .ok (.iconst 3, 1) := by decide +kernel
theorem dX12_isAsAnswered_72 : decode cX12_isAsAnswered 72 = .ok (.iadd, 1) := by decide +kernel
theorem dX12_isAsAnswered_73 : decode cX12_isAsAnswered 73 = .ok (.iaload, 1) := by decide +kernel
theorem dX12_isAsAnswered_74 : decode cX12_isAsAnswered 74 = .ok (.if_icmp .eq 5, 3) := by decide +kernel
theorem dX12_isAsAnswered_77 : decode cX12_isAsAnswered 77 = .ok (.iconst 0, 1) := by decide +kernel
theorem dX12_isAsAnswered_78 : decode cX12_isAsAnswered 78 = .ok (.ireturn, 1) := by decide +kernel
theorem dX12_isAsAnswered_79 : decode cX12_isAsAnswered 79 = .ok (.iinc 2 1, 3) := by decide +kernel
theorem dX12_isAsAnswered_82 : decode cX12_isAsAnswered 82 = .ok (.goto (-80), 3) := by decide +kernel
theorem dX12_isAsAnswered_85 : decode cX12_isAsAnswered 85 = .ok (.iconst 1, 1) := by decide +kernel
theorem dX12_isAsAnswered_86 : decode cX12_isAsAnswered 86 = .ok (.ireturn, 1) := by decide +kernel
def E_X12_isAsAnswered_l2 (h : KH) (v0 : Nat) (v1 : Int32) : ((Unit) ⊕ (Int32)) → Nat → List (Nat × Value) → List Value → KH → Prop := Sum.elim (fun (e : Unit) pc ls st hh => pc = 85 ∧ ls = [] ∧ st = [] ∧ h = hh) (fun o => (KRz cX12_isAsAnswered o h))
def B_X12_isAsAnswered_l2 (h : KH) (v0 : Nat) (v1 : Int32) : ((Int32) ⊕ ((Unit) ⊕ (Int32))) → Nat → List (Nat × Value) → List Value → KH → Prop := Sum.elim (fun (s : Int32) pc ls st hh => pc = 2 ∧ ls = [(0, .ref v0), (1, .int v1), (2, .int s)] ∧ st = [] ∧ hh = h) (E_X12_isAsAnswered_l2 h v0 v1)
def f_X12_isAsAnswered_l2 (h : KH) (v0 : Nat) (v1 : Int32) (s : Int32) : Option ((Int32) ⊕ ((Unit) ⊕ (Int32))) :=
  if kkind v0 = 12 then if (kI h v0 58) ≤ s then
  some (.inr (.inl ()))
  else
  if (kR h v0 50) < 999999 then if (kR h v0 59) < 999999 then if kkind (kR h v0 59) = 20 then if (((4 : Int32) * s) < 0 ∨ klen (kR h v0 59) ≤ (((4 : Int32) * s)).toNatClampNeg) then none else if kkind (kR h v0 50) = 20 then if ((((36 : Int32) + ((6 : Int32) * v1)) + (kI h (kR h v0 59) ((((4 : Int32) * s)).toNatClampNeg))) < 0 ∨ klen (kR h v0 50) ≤ ((((36 : Int32) + ((6 : Int32) * v1)) + (kI h (kR h v0 59) ((((4 : Int32) * s)).toNatClampNeg)))).toNatClampNeg) then none else if ((((4 : Int32) * s) + (2 : Int32)) < 0 ∨ klen (kR h v0 59) ≤ ((((4 : Int32) * s) + (2 : Int32))).toNatClampNeg) then none else if (kI h (kR h v0 50) (((((36 : Int32) + ((6 : Int32) * v1)) + (kI h (kR h v0 59) ((((4 : Int32) * s)).toNatClampNeg)))).toNatClampNeg)) = (kI h (kR h v0 59) (((((4 : Int32) * s) + (2 : Int32))).toNatClampNeg)) then
  if ((((4 : Int32) * s) + (1 : Int32)) < 0 ∨ klen (kR h v0 59) ≤ ((((4 : Int32) * s) + (1 : Int32))).toNatClampNeg) then none else if ((((6 : Int32) * v1) + (kI h (kR h v0 59) (((((4 : Int32) * s) + (1 : Int32))).toNatClampNeg))) < 0 ∨ klen (kR h v0 50) ≤ ((((6 : Int32) * v1) + (kI h (kR h v0 59) (((((4 : Int32) * s) + (1 : Int32))).toNatClampNeg)))).toNatClampNeg) then none else if ((((4 : Int32) * s) + (3 : Int32)) < 0 ∨ klen (kR h v0 59) ≤ ((((4 : Int32) * s) + (3 : Int32))).toNatClampNeg) then none else if (kI h (kR h v0 50) (((((6 : Int32) * v1) + (kI h (kR h v0 59) (((((4 : Int32) * s) + (1 : Int32))).toNatClampNeg)))).toNatClampNeg)) = (kI h (kR h v0 59) (((((4 : Int32) * s) + (3 : Int32))).toNatClampNeg)) then
  kl (s + (1 : Int32)) fun x16 =>
  some (.inl x16)
  else
  kout2 (some (0 : Int32))
  else
  kout2 (some (0 : Int32)) else none else none else none else none else none
set_option maxHeartbeats 4000000 in
set_option maxRecDepth 100000 in
theorem s_X12_isAsAnswered_l2 {Z : Nat → (Nat → Nat) → State → Prop} (h : KH) (v0 : Nat) (v1 : Int32) (s : Int32) (t : (Int32) ⊕ ((Unit) ⊕ (Int32))) (hn : (h).1 = 243) (H : f_X12_isAsAnswered_l2 h v0 v1 s = some t) : KX Z RX12 cX12_isAsAnswered 3 false 1 (B_X12_isAsAnswered_l2 h v0 v1 t) 2 [(0, .ref v0), (1, .int v1), (2, .int s)] [] h := by
  unfold f_X12_isAsAnswered_l2 at H
  refine x_iload_n (q := 3) dX12_isAsAnswered_2 rfl rfl ?_
  refine x_aload_n (q := 4) dX12_isAsAnswered_3 rfl rfl ?_
  replace H := kif H; obtain ⟨g1, H⟩ := H
  refine x_getI (q := 7) dX12_isAsAnswered_4 rfl kl_RX12_361 (Or.inl rfl) (k243 g1 (by decide) hn) ?_
  replace H := kite H; rcases H with ⟨g2, H⟩ | ⟨g2, H⟩
  · refine x_icmp_ge_t dX12_isAsAnswered_7 (q := 85) (by decide) g2 ?_
    cases H
    refine x_sub (ls2 := []) [] rfl ?_
    exact x_end (x_cfg rfl)
  · refine x_icmp_ge_f (q := 10) dX12_isAsAnswered_7 (t := 85) (by decide) rfl g2 ?_
    refine x_aload_n (q := 11) dX12_isAsAnswered_10 rfl rfl ?_
    replace H := kif H; obtain ⟨g3, H⟩ := H
    refine x_getR (q := 14) dX12_isAsAnswered_11 rfl kl_RX12_121 rfl (k243 g1 (by decide) hn) g3 ?_
    refine x_bipush (q := 16) (v := (36 : Int32)) dX12_isAsAnswered_14 rfl (by decide) ?_
    refine x_bipush (q := 18) (v := (6 : Int32)) dX12_isAsAnswered_16 rfl (by decide) ?_
    refine x_iload_n (q := 19) dX12_isAsAnswered_18 rfl rfl ?_
    refine x_imul (q := 20) dX12_isAsAnswered_19 rfl ?_
    refine x_iadd (q := 21) dX12_isAsAnswered_20 rfl ?_
    refine x_aload_n (q := 22) dX12_isAsAnswered_21 rfl rfl ?_
    replace H := kif H; obtain ⟨g4, H⟩ := H
    refine x_getR (q := 25) dX12_isAsAnswered_22 rfl kl_RX12_142 rfl (k243 g1 (by decide) hn) g4 ?_
    refine x_iconst (q := 26) (v := (4 : Int32)) dX12_isAsAnswered_25 rfl (by decide) ?_
    refine x_iload_n (q := 27) dX12_isAsAnswered_26 rfl rfl ?_
    refine x_imul (q := 28) dX12_isAsAnswered_27 rfl ?_
    replace H := kif H; obtain ⟨g5, H⟩ := H
    replace H := kifn H; obtain ⟨g6, H⟩ := H
    refine x_iald (q := 29) dX12_isAsAnswered_28 rfl (k243 g5 (by decide) hn) g6 ?_
    refine x_iadd (q := 30) dX12_isAsAnswered_29 rfl ?_
    replace H := kif H; obtain ⟨g7, H⟩ := H
    replace H := kifn H; obtain ⟨g8, H⟩ := H
    refine x_iald (q := 31) dX12_isAsAnswered_30 rfl (k243 g7 (by decide) hn) g8 ?_
    refine x_aload_n (q := 32) dX12_isAsAnswered_31 rfl rfl ?_
    refine x_getR (q := 35) dX12_isAsAnswered_32 rfl kl_RX12_142 rfl (k243 g1 (by decide) hn) g4 ?_
    refine x_iconst (q := 36) (v := (4 : Int32)) dX12_isAsAnswered_35 rfl (by decide) ?_
    refine x_iload_n (q := 37) dX12_isAsAnswered_36 rfl rfl ?_
    refine x_imul (q := 38) dX12_isAsAnswered_37 rfl ?_
    refine x_iconst (q := 39) (v := (2 : Int32)) dX12_isAsAnswered_38 rfl (by decide) ?_
    refine x_iadd (q := 40) dX12_isAsAnswered_39 rfl ?_
    replace H := kifn H; obtain ⟨g9, H⟩ := H
    refine x_iald (q := 41) dX12_isAsAnswered_40 rfl (k243 g5 (by decide) hn) g9 ?_
    replace H := kite H; rcases H with ⟨g10, H⟩ | ⟨g10, H⟩
    · refine x_icmp_ne_f (q := 44) dX12_isAsAnswered_41 (t := 77) (by decide) rfl g10 ?_
      refine x_aload_n (q := 45) dX12_isAsAnswered_44 rfl rfl ?_
      refine x_getR (q := 48) dX12_isAsAnswered_45 rfl kl_RX12_121 rfl (k243 g1 (by decide) hn) g3 ?_
      refine x_bipush (q := 50) (v := (6 : Int32)) dX12_isAsAnswered_48 rfl (by decide) ?_
      refine x_iload_n (q := 51) dX12_isAsAnswered_50 rfl rfl ?_
      refine x_imul (q := 52) dX12_isAsAnswered_51 rfl ?_
      refine x_aload_n (q := 53) dX12_isAsAnswered_52 rfl rfl ?_
      refine x_getR (q := 56) dX12_isAsAnswered_53 rfl kl_RX12_142 rfl (k243 g1 (by decide) hn) g4 ?_
      refine x_iconst (q := 57) (v := (4 : Int32)) dX12_isAsAnswered_56 rfl (by decide) ?_
      refine x_iload_n (q := 58) dX12_isAsAnswered_57 rfl rfl ?_
      refine x_imul (q := 59) dX12_isAsAnswered_58 rfl ?_
      refine x_iconst (q := 60) (v := (1 : Int32)) dX12_isAsAnswered_59 rfl (by decide) ?_
      refine x_iadd (q := 61) dX12_isAsAnswered_60 rfl ?_
      replace H := kifn H; obtain ⟨g12, H⟩ := H
      refine x_iald (q := 62) dX12_isAsAnswered_61 rfl (k243 g5 (by decide) hn) g12 ?_
      refine x_iadd (q := 63) dX12_isAsAnswered_62 rfl ?_
      replace H := kifn H; obtain ⟨g13, H⟩ := H
      refine x_iald (q := 64) dX12_isAsAnswered_63 rfl (k243 g7 (by decide) hn) g13 ?_
      refine x_aload_n (q := 65) dX12_isAsAnswered_64 rfl rfl ?_
      refine x_getR (q := 68) dX12_isAsAnswered_65 rfl kl_RX12_142 rfl (k243 g1 (by decide) hn) g4 ?_
      refine x_iconst (q := 69) (v := (4 : Int32)) dX12_isAsAnswered_68 rfl (by decide) ?_
      refine x_iload_n (q := 70) dX12_isAsAnswered_69 rfl rfl ?_
      refine x_imul (q := 71) dX12_isAsAnswered_70 rfl ?_
      refine x_iconst (q := 72) (v := (3 : Int32)) dX12_isAsAnswered_71 rfl (by decide) ?_
      refine x_iadd (q := 73) dX12_isAsAnswered_72 rfl ?_
      replace H := kifn H; obtain ⟨g14, H⟩ := H
      refine x_iald (q := 74) dX12_isAsAnswered_73 rfl (k243 g5 (by decide) hn) g14 ?_
      replace H := kite H; rcases H with ⟨g15, H⟩ | ⟨g15, H⟩
      · refine x_icmp_eq_t dX12_isAsAnswered_74 (q := 79) (by decide) g15 ?_
        replace H := kle H; obtain ⟨x16, q17, H⟩ := H
        refine x_iinc (q := 82) (i := 2) (ls2 := [(2, .int x16), (0, .ref v0), (1, .int v1)]) dX12_isAsAnswered_79 rfl rfl (by decide) (by rw [q17]; rfl) ?_
        refine x_goto dX12_isAsAnswered_82 (q := 2) (by decide) ?_
        cases H
        refine x_sub (ls2 := [(0, .ref v0), (1, .int v1), (2, .int x16)]) [1, 2, 0] rfl ?_
        exact x_end (x_cfg rfl)
      · refine x_icmp_eq_f (q := 77) dX12_isAsAnswered_74 (t := 79) (by decide) rfl g15 ?_
        replace H := ko2e H; obtain ⟨o18, H, rfl⟩ := H
        refine x_iconst (q := 78) (v := (0 : Int32)) dX12_isAsAnswered_77 rfl (by decide) ?_
        cases H
        exact x_end ⟨(Or.inl rfl), dX12_isAsAnswered_78, rfl, rfl⟩
    · refine x_icmp_ne_t dX12_isAsAnswered_41 (q := 77) (by decide) g10 ?_
      replace H := ko2e H; obtain ⟨o11, H, rfl⟩ := H
      refine x_iconst (q := 78) (v := (0 : Int32)) dX12_isAsAnswered_77 rfl (by decide) ?_
      cases H
      exact x_end ⟨(Or.inl rfl), dX12_isAsAnswered_78, rfl, rfl⟩
theorem sl_X12_isAsAnswered_l2 {Z : Nat → (Nat → Nat) → State → Prop} (h : KH) (v0 : Nat) (v1 : Int32) (n : Nat) (s : Int32) (r : (Unit) ⊕ (Int32)) (hn : (h).1 = 243) (H : kloop (f_X12_isAsAnswered_l2 h v0 v1) n s = some r) : KX Z RX12 cX12_isAsAnswered 3 false 1 (E_X12_isAsAnswered_l2 h v0 v1 r) 2 [(0, .ref v0), (1, .int v1), (2, .int s)] [] h :=
  k_loop (ls := (fun (s : Int32) => ([(0, .ref v0), (1, .int v1), (2, .int s)] : List (Nat × Value)))) (hp := (fun (s : Int32) => (h : KH))) (G := E_X12_isAsAnswered_l2 h v0 v1) (fun s t hn H => s_X12_isAsAnswered_l2 h v0 v1 s t hn H) n s r hn H
def f_X12_isAsAnswered (h : KH) (v0 : Nat) (v1 : Int32) : Option (Int32) :=
  kb (kloop (f_X12_isAsAnswered_l2 h v0 v1) KF (0 : Int32)) fun e1 =>
  ksum e1 (fun x4 =>
  some (1 : Int32)) (fun o5 => some o5)
set_option maxHeartbeats 4000000 in
set_option maxRecDepth 100000 in
theorem s0_X12_isAsAnswered {Z : Nat → (Nat → Nat) → State → Prop} (h : KH) (v0 : Nat) (v1 : Int32) {t : Int32} (hn : h.1 = 243) (H : f_X12_isAsAnswered h v0 v1 = some t) : KX Z RX12 cX12_isAsAnswered 3 false 1 (KRz cX12_isAsAnswered t h) 0 [(0, .ref v0), (1, .int v1)] [] h := by
  unfold f_X12_isAsAnswered at H
  refine x_iconst (q := 1) (v := (0 : Int32)) dX12_isAsAnswered_0 rfl (by decide) ?_
  refine x_istore_n (q := 2) (i := 2) (ls2 := [(2, .int (0 : Int32)), (0, .ref v0), (1, .int v1)]) dX12_isAsAnswered_1 rfl rfl (by decide) rfl ?_
  refine x_sub (ls2 := [(0, .ref v0), (1, .int v1), (2, .int (0 : Int32))]) [1, 2, 0] rfl ?_
  replace H := kbe H; obtain ⟨e1, c2, H⟩ := H
  refine x_app (sl_X12_isAsAnswered_l2 h v0 v1 KF (0 : Int32) e1 hn c2) fun pc2 ls2 st2 h2 hg m3 => ?_
  replace H := kse H; rcases H with ⟨x4, rfl, H⟩ | ⟨o5, rfl, H⟩
  · obtain ⟨rfl, rfl, rfl, rfl⟩ := hg
    refine x_iconst (q := 86) (v := (1 : Int32)) dX12_isAsAnswered_85 rfl (by decide) ?_
    cases H
    exact x_end ⟨(Or.inr rfl), dX12_isAsAnswered_86, rfl, rfl⟩
  · cases H
    exact x_end hg
theorem s_X12_isAsAnswered {Z : Nat → (Nat → Nat) → State → Prop} (h : KH) (v0 : Nat) (v1 : Int32) {t : Int32} (hn : h.1 = 243) (H : f_X12_isAsAnswered h v0 v1 = some t) : KM Z yX12_isAsAnswered cX12_isAsAnswered 3 (some .boolean) 1 [.ref v0, .int v1] h (some (.int t)) h :=
  kx_z (own := RX12) (ini := false) (by decide +kernel) (by decide +kernel) rfl (Nat.le_of_ble_eq_true rfl) (s0_X12_isAsAnswered h v0 v1 hn H)
theorem dX12_trick_0 : decode cX12_trick 0 = .ok (.aload_n 0, 1) := by decide +kernel
theorem dX12_trick_1 : decode cX12_trick 1 = .ok (.invokevirtual 419, 3) := by decide +kernel
theorem dX12_trick_4 : decode cX12_trick 4 = .ok (.iconst 0, 1) := by decide +kernel
theorem dX12_trick_5 : decode cX12_trick 5 = .ok (.istore_n 1, 1) := by decide +kernel
theorem dX12_trick_6 : decode cX12_trick 6 = .ok (.iconst 0, 1) := by decide +kernel
theorem dX12_trick_7 : decode cX12_trick 7 = .ok (.istore_n 2, 1) := by decide +kernel
theorem dX12_trick_8 : decode cX12_trick 8 = .ok (.iload_n 2, 1) := by decide +kernel
theorem dX12_trick_9 : decode cX12_trick 9 = .ok (.aload_n 0, 1) := by decide +kernel
theorem dX12_trick_10 : decode cX12_trick 10 = .ok (.invokevirtual 367, 3) := by decide +kernel
theorem dX12_trick_13 : decode cX12_trick 13 = .ok (.if_icmp .ge 23, 3) := by decide +kernel
theorem dX12_trick_16 : decode cX12_trick 16 = .ok (.aload_n 0, 1) := by decide +kernel
theorem dX12_trick_17 : decode cX12_trick 17 = .ok (.iload_n 2, 1) := by decide +kernel
theorem dX12_trick_18 : decode cX12_trick 18 = .ok (.invokevirtual 511, 3) := by decide +kernel
theorem dX12_trick_21 : decode cX12_trick 21 = .ok (.ifCond .eq 9, 3) := by decide +kernel
theorem dX12_trick_24 : decode cX12_trick 24 = .ok (.iload_n 1, 1) := by decide +kernel
theorem dX12_trick_25 : decode cX12_trick 25 = .ok (.iconst 1, 1) := by decide +kernel
theorem dX12_trick_26 : decode cX12_trick 26 = .ok (.iload_n 2, 1) := by decide +kernel
theorem dX12_trick_27 : decode cX12_trick 27 = .ok (.ishl, 1) := by decide +kernel
theorem dX12_trick_28 : decode cX12_trick 28 = .ok (.ior, 1) := by decide +kernel
theorem dX12_trick_29 : decode cX12_trick 29 = .ok (.istore_n 1, 1) := by decide +kernel
theorem dX12_trick_30 : decode cX12_trick 30 = .ok (.iinc 2 1, 3) := by decide +kernel
theorem dX12_trick_33 : decode cX12_trick 33 = .ok (.goto (-25), 3) := by decide +kernel
theorem dX12_trick_36 : decode cX12_trick 36 = .ok (.iload_n 1, 1) := by decide +kernel
theorem dX12_trick_37 : decode cX12_trick 37 = .ok (.ireturn, 1) := by decide +kernel
theorem kc_RX12_511 : Cond.methodLink RX12 511 yX12_isAsAnswered ∈ ktG ∧ (Cond.instanceMethod yX12_isAsAnswered ∈ ktG ∧ Cond.selects yX12_isAsAnswered.cls yX12_isAsAnswered yX12_isAsAnswered ∈ ktG) ∧ Cond.initialized yX12_isAsAnswered.cls ∈ ktG ∧ Cond.code yX12_isAsAnswered cX12_isAsAnswered 3 (some .boolean) ∈ ktG := ⟨(kwm 1903 (by decide +kernel) (by decide +kernel)), ⟨(kwm 1905 (by decide +kernel) (by decide +kernel)), (kwm 106 (by decide +kernel) (by decide +kernel))⟩, (kwm 139 (by decide +kernel) (by decide +kernel)), kwm 1906 (by decide +kernel) (by decide +kernel)⟩
theorem kh_X12_isAsAnswered : yX12_isAsAnswered.cls ≠ "java/lang/invoke/MethodHandle" ∧ yX12_isAsAnswered.cls ≠ "java/lang/invoke/VarHandle" ∧ (parseMethodDescriptor yX12_isAsAnswered.desc).map (fun d => d.parameters.length) = some 1 := by decide +kernel
def E_X12_trick_l8 (h : KH) (v0 : Nat) : Int32 → Nat → List (Nat × Value) → List Value → KH → Prop := fun (e : Int32) pc ls st hh => pc = 36 ∧ ls = [(1, .int e)] ∧ st = [] ∧ h = hh
def B_X12_trick_l8 (h : KH) (v0 : Nat) : ((Int32 × Int32) ⊕ (Int32)) → Nat → List (Nat × Value) → List Value → KH → Prop := Sum.elim (fun (s : Int32 × Int32) pc ls st hh => pc = 8 ∧ ls = [(0, .ref v0), (1, .int s.1), (2, .int s.2)] ∧ st = [] ∧ hh = h) (E_X12_trick_l8 h v0)
def f_X12_trick_b30 (h : KH) (v0 : Nat) (v1 : Int32) (v2 : Int32) : Option ((Int32 × Int32) ⊕ (Int32)) :=
  kl (v2 + (1 : Int32)) fun x1 =>
  some (.inl (v1, x1))
set_option maxHeartbeats 4000000 in
set_option maxRecDepth 100000 in
theorem s_X12_trick_b30 {Z : Nat → (Nat → Nat) → State → Prop} (h : KH) (v0 : Nat) (v1 : Int32) (v2 : Int32) {t : (Int32 × Int32) ⊕ (Int32)} (hn : h.1 = 243) (H : f_X12_trick_b30 h v0 v1 v2 = some t) : KX Z RX12 cX12_trick 3 false 5 (B_X12_trick_l8 h v0 t) 30 [(0, .ref v0), (1, .int v1), (2, .int v2)] [] h := by
  unfold f_X12_trick_b30 at H
  replace H := kle H; obtain ⟨x1, q2, H⟩ := H
  refine x_iinc (q := 33) (i := 2) (ls2 := [(2, .int x1), (0, .ref v0), (1, .int v1)]) dX12_trick_30 rfl rfl (by decide) (by rw [q2]; rfl) ?_
  refine x_goto dX12_trick_33 (q := 8) (by decide) ?_
  cases H
  refine x_sub (ls2 := [(0, .ref v0), (1, .int v1), (2, .int x1)]) [1, 2, 0] rfl ?_
  exact x_end (x_cfg rfl)
def f_X12_trick_l8 (h : KH) (v0 : Nat) (s : Int32 × Int32) : Option ((Int32 × Int32) ⊕ (Int32)) :=
  if kkind v0 = 12 then kb (f_X12_testMany h v0) fun r2 =>
  if r2 ≤ s.2 then
  some (.inr s.1)
  else
  kb (f_X12_isAsAnswered h v0 s.2) fun r6 =>
  if r6 = 0 then
  f_X12_trick_b30 h v0 s.1 s.2
  else
  kl (s.1 ||| ((1 : Int32) <<< (s.2 &&& 31))) fun x10 =>
  f_X12_trick_b30 h v0 x10 s.2 else none
set_option maxHeartbeats 4000000 in
set_option maxRecDepth 100000 in
theorem s_X12_trick_l8 {Z : Nat → (Nat → Nat) → State → Prop} (h : KH) (v0 : Nat) (s : Int32 × Int32) (t : (Int32 × Int32) ⊕ (Int32)) (hn : (h).1 = 243) (H : f_X12_trick_l8 h v0 s = some t) : KX Z RX12 cX12_trick 3 false 5 (B_X12_trick_l8 h v0 t) 8 [(0, .ref v0), (1, .int s.1), (2, .int s.2)] [] h := by
  unfold f_X12_trick_l8 at H
  refine x_iload_n (q := 9) dX12_trick_8 rfl rfl ?_
  refine x_aload_n (q := 10) dX12_trick_9 rfl rfl ?_
  replace H := kif H; obtain ⟨g1, H⟩ := H
  replace H := kbe H; obtain ⟨r2, c3, H⟩ := H
  have m4 := s_X12_testMany (Z := Z) h v0 hn c3
  refine x_callV (q := 13) (as := []) (rest := [.int s.2]) dX12_trick_10 rfl kc_RX12_367 kh_X12_testMany (by decide) (Nat.le_of_ble_eq_true rfl) m4 (ci := 12) (by exact ⟨rfl, by decide⟩) (k243 g1 (by decide) hn) ?_
  replace H := kite H; rcases H with ⟨g5, H⟩ | ⟨g5, H⟩
  · refine x_icmp_ge_t dX12_trick_13 (q := 36) (by decide) g5 ?_
    cases H
    refine x_sub (ls2 := [(1, .int s.1)]) [1] rfl ?_
    exact x_end (x_cfg rfl)
  · refine x_icmp_ge_f (q := 16) dX12_trick_13 (t := 36) (by decide) rfl g5 ?_
    refine x_aload_n (q := 17) dX12_trick_16 rfl rfl ?_
    refine x_iload_n (q := 18) dX12_trick_17 rfl rfl ?_
    replace H := kbe H; obtain ⟨r6, c7, H⟩ := H
    have m8 := s_X12_isAsAnswered (Z := Z) h v0 s.2 hn c7
    refine x_callV (q := 21) (as := [.int s.2]) (rest := []) dX12_trick_18 rfl kc_RX12_511 kh_X12_isAsAnswered (by decide) (Nat.le_of_ble_eq_true rfl) m8 (ci := 12) (by exact ⟨rfl, by decide⟩) (k243 g1 (by decide) hn) ?_
    replace H := kite H; rcases H with ⟨g9, H⟩ | ⟨g9, H⟩
    · refine x_if_eq_t dX12_trick_21 (q := 30) (by decide) g9 ?_
      refine x_sub (ls2 := [(0, .ref v0), (1, .int s.1), (2, .int s.2)]) [0, 1, 2] rfl ?_
      exact s_X12_trick_b30 h v0 s.1 s.2 hn H
    · refine x_if_eq_f (q := 24) dX12_trick_21 (t := 30) (by decide) rfl g9 ?_
      refine x_iload_n (q := 25) dX12_trick_24 rfl rfl ?_
      refine x_iconst (q := 26) (v := (1 : Int32)) dX12_trick_25 rfl (by decide) ?_
      refine x_iload_n (q := 27) dX12_trick_26 rfl rfl ?_
      refine x_ishl (q := 28) dX12_trick_27 rfl ?_
      refine x_ior (q := 29) dX12_trick_28 rfl ?_
      replace H := kle H; obtain ⟨x10, q11, H⟩ := H
      refine x_nmI q11 ?_
      refine x_istore_n (q := 30) (i := 1) (ls2 := [(1, .int x10), (0, .ref v0), (2, .int s.2)]) dX12_trick_29 rfl rfl (by decide) rfl ?_
      refine x_sub (ls2 := [(0, .ref v0), (1, .int x10), (2, .int s.2)]) [1, 0, 2] rfl ?_
      exact s_X12_trick_b30 h v0 x10 s.2 hn H
theorem sl_X12_trick_l8 {Z : Nat → (Nat → Nat) → State → Prop} (h : KH) (v0 : Nat) (n : Nat) (s : Int32 × Int32) (r : Int32) (hn : (h).1 = 243) (H : kloop (f_X12_trick_l8 h v0) n s = some r) : KX Z RX12 cX12_trick 3 false 5 (E_X12_trick_l8 h v0 r) 8 [(0, .ref v0), (1, .int s.1), (2, .int s.2)] [] h :=
  k_loop (ls := (fun (s : Int32 × Int32) => ([(0, .ref v0), (1, .int s.1), (2, .int s.2)] : List (Nat × Value)))) (hp := (fun (s : Int32 × Int32) => (h : KH))) (G := E_X12_trick_l8 h v0) (fun s t hn H => s_X12_trick_l8 h v0 s t hn H) n s r hn H
def f_X12_trick (h : KH) (v0 : Nat) : Option (Int32 × KH) :=
  if kkind v0 = 12 then kb (f_X12_laysYields h v0) fun r2 =>
  kb (kloop (f_X12_trick_l8 r2 v0) KF ((0 : Int32), (0 : Int32))) fun e6 =>
  some (e6, r2) else none
set_option maxHeartbeats 4000000 in
set_option maxRecDepth 100000 in
theorem s0_X12_trick {Z : Nat → (Nat → Nat) → State → Prop} (h : KH) (v0 : Nat) {t : Int32 × KH} (hn : h.1 = 243) (H : f_X12_trick h v0 = some t) : KX Z RX12 cX12_trick 3 false 5 (KRi cX12_trick t.1 t.2) 0 [(0, .ref v0)] [] h := by
  unfold f_X12_trick at H
  refine x_aload_n (q := 1) dX12_trick_0 rfl rfl ?_
  replace H := kif H; obtain ⟨g1, H⟩ := H
  replace H := kbe H; obtain ⟨r2, c3, H⟩ := H
  have m4 := s_X12_laysYields (Z := Z) h v0 hn c3
  refine x_callV (q := 4) (as := []) (rest := []) dX12_trick_1 rfl kc_RX12_419 kh_X12_laysYields (by decide) (Nat.le_of_ble_eq_true rfl) m4 (ci := 12) (by exact ⟨rfl, by decide⟩) (k243 g1 (by decide) hn) ?_
  have n5 : (r2).1 = 243 := m4.1.full hn
  refine x_iconst (q := 5) (v := (0 : Int32)) dX12_trick_4 rfl (by decide) ?_
  refine x_istore_n (q := 6) (i := 1) (ls2 := [(1, .int (0 : Int32)), (0, .ref v0)]) dX12_trick_5 rfl rfl (by decide) rfl ?_
  refine x_iconst (q := 7) (v := (0 : Int32)) dX12_trick_6 rfl (by decide) ?_
  refine x_istore_n (q := 8) (i := 2) (ls2 := [(2, .int (0 : Int32)), (1, .int (0 : Int32)), (0, .ref v0)]) dX12_trick_7 rfl rfl (by decide) rfl ?_
  refine x_sub (ls2 := [(0, .ref v0), (1, .int (0 : Int32)), (2, .int (0 : Int32))]) [2, 1, 0] rfl ?_
  replace H := kbe H; obtain ⟨e6, c7, H⟩ := H
  refine x_app (sl_X12_trick_l8 r2 v0 KF ((0 : Int32), (0 : Int32)) e6 n5 c7) fun pc2 ls2 st2 h2 hg m8 => ?_
  obtain ⟨rfl, rfl, rfl, rfl⟩ := hg
  refine x_iload_n (q := 37) dX12_trick_36 rfl rfl ?_
  cases H
  exact x_end ⟨dX12_trick_37, rfl, rfl⟩
theorem s_X12_trick {Z : Nat → (Nat → Nat) → State → Prop} (h : KH) (v0 : Nat) {t : Int32 × KH} (hn : h.1 = 243) (H : f_X12_trick h v0 = some t) : KM Z yX12_trick cX12_trick 3 (some .int) 5 [.ref v0] h (some (.int t.1)) t.2 :=
  kx_i (own := RX12) (ini := false) (by decide +kernel) (by decide +kernel) rfl (Nat.le_of_ble_eq_true rfl) (s0_X12_trick h v0 hn H)
theorem dX12_keeps_0 : decode cX12_keeps 0 = .ok (.aload_n 0, 1) := by decide +kernel
theorem dX12_keeps_1 : decode cX12_keeps 1 = .ok (.aload_n 0, 1) := by decide +kernel
theorem dX12_keeps_2 : decode cX12_keeps 2 = .ok (.getfield 514, 3) := by decide +kernel
theorem dX12_keeps_5 : decode cX12_keeps 5 = .ok (.iconst 1, 1) := by decide +kernel
theorem dX12_keeps_6 : decode cX12_keeps 6 = .ok (.iadd, 1) := by decide +kernel
theorem dX12_keeps_7 : decode cX12_keeps 7 = .ok (.bipush 20, 2) := by decide +kernel
theorem dX12_keeps_9 : decode cX12_keeps 9 = .ok (.irem, 1) := by decide +kernel
theorem dX12_keeps_10 : decode cX12_keeps 10 = .ok (.putfield 514, 3) := by decide +kernel
theorem dX12_keeps_13 : decode cX12_keeps 13 = .ok (.iconst 0, 1) := by decide +kernel
theorem dX12_keeps_14 : decode cX12_keeps 14 = .ok (.istore_n 1, 1) := by decide +kernel
theorem dX12_keeps_15 : decode cX12_keeps 15 = .ok (.iload_n 1, 1) := by decide +kernel
theorem dX12_keeps_16 : decode cX12_keeps 16 = .ok (.sipush 185, 3) := by decide +kernel
theorem dX12_keeps_19 : decode cX12_keeps 19 = .ok (.if_icmp .ge 30, 3) := by decide +kernel
theorem dX12_keeps_22 : decode cX12_keeps 22 = .ok (.aload_n 0, 1) := by decide +kernel
theorem dX12_keeps_23 : decode cX12_keeps 23 = .ok (.getfield 145, 3) := by decide +kernel
theorem dX12_keeps_26 : decode cX12_keeps 26 = .ok (.sipush 185, 3) := by decide +kernel
theorem dX12_keeps_29 : decode cX12_keeps 29 = .ok (.aload_n 0, 1) := by decide +kernel
theorem dX12_keeps_30 : decode cX12_keeps 30 = .ok (.getfield 514, 3) := by decide +kernel
theorem dX12_keeps_33 : decode cX12_keeps 33 = .ok (.imul, 1) := by decide +kernel
theorem dX12_keeps_34 : decode cX12_keeps 34 = .ok (.iload_n 1, 1) := by decide +kernel
theorem dX12_keeps_35 : decode cX12_keeps 35 = .ok (.iadd, 1) := by decide +kernel
theorem dX12_keeps_36 : decode cX12_keeps 36 = .ok (.aload_n 0, 1) := by decide +kernel
theorem dX12_keeps_37 : decode cX12_keeps 37 = .ok (.getfield 115, 3) := by decide +kernel
theorem dX12_keeps_40 : decode cX12_keeps 40 = .ok (.iload_n 1, 1) := by decide +kernel
theorem dX12_keeps_41 : decode cX12_keeps 41 = .ok (.iaload, 1) := by decide +kernel
theorem dX12_keeps_42 : decode cX12_keeps 42 = .ok (.iastore, 1) := by decide +kernel
theorem dX12_keeps_43 : decode cX12_keeps 43 = .ok (.iinc 1 1, 3) := by decide +kernel
theorem dX12_keeps_46 : decode cX12_keeps 46 = .ok (.goto (-31), 3) := by decide +kernel
theorem dX12_keeps_49 : decode cX12_keeps 49 = .ok (.aload_n 0, 1) := by decide +kernel
theorem dX12_keeps_50 : decode cX12_keeps 50 = .ok (.getfield 358, 3) := by decide +kernel
theorem dX12_keeps_53 : decode cX12_keeps 53 = .ok (.bipush 20, 2) := by decide +kernel
theorem dX12_keeps_55 : decode cX12_keeps 55 = .ok (.if_icmp .ge 13, 3) := by decide +kernel
theorem dX12_keeps_58 : decode cX12_keeps 58 = .ok (.aload_n 0, 1) := by decide +kernel
theorem dX12_keeps_59 : decode cX12_keeps 59 = .ok (.dup, 1) := by decide +kernel
theorem dX12_keeps_60 : decode cX12_keeps 60 = .ok (.getfield 358, 3) := by decide +kernel
theorem dX12_keeps_63 : decode cX12_keeps 63 = .ok (.iconst 1, 1) := by decide +kernel
theorem dX12_keeps_64 : decode cX12_keeps 64 = .ok (.iadd, 1) := by decide +kernel
theorem dX12_keeps_65 : decode cX12_keeps 65 = .ok (.putfield 358, 3) := by decide +kernel
theorem dX12_keeps_68 : decode cX12_keeps 68 = .ok (.return_, 1) := by decide +kernel
theorem kl_RX12_514 : KLk RX12 514 12 62 := ⟨RX12, TX12, 97, rfl, by decide, Or.inl (kwm 1259 (by decide +kernel) (by decide +kernel))⟩
theorem kl_RX12_145 : KLk RX12 145 12 60 := ⟨RX12, TX12, 97, rfl, by decide, Or.inl (kwm 1257 (by decide +kernel) (by decide +kernel))⟩
def E_X12_keeps_l15 (v0 : Nat) : KH → Nat → List (Nat × Value) → List Value → KH → Prop := fun (e : KH) pc ls st hh => pc = 49 ∧ ls = [(0, .ref v0)] ∧ st = [] ∧ e = hh
def B_X12_keeps_l15 (v0 : Nat) : ((Int32 × KH) ⊕ (KH)) → Nat → List (Nat × Value) → List Value → KH → Prop := Sum.elim (fun (s : Int32 × KH) pc ls st hh => pc = 15 ∧ ls = [(0, .ref v0), (1, .int s.1)] ∧ st = [] ∧ hh = s.2) (E_X12_keeps_l15 v0)
def f_X12_keeps_l15 (v0 : Nat) (s : Int32 × KH) : Option ((Int32 × KH) ⊕ (KH)) :=
  if (185 : Int32) ≤ s.1 then
  some (.inr s.2)
  else
  if kkind v0 = 12 then if (kR s.2 v0 60) < 999999 then if (kR s.2 v0 45) < 999999 then if kkind (kR s.2 v0 45) = 20 then if (s.1 < 0 ∨ klen (kR s.2 v0 45) ≤ (s.1).toNatClampNeg) then none else if kkind (kR s.2 v0 60) = 20 then if ((((185 : Int32) * (kI s.2 v0 62)) + s.1) < 0 ∨ klen (kR s.2 v0 60) ≤ ((((185 : Int32) * (kI s.2 v0 62)) + s.1)).toNatClampNeg) then none else kl (ksI s.2 (kR s.2 v0 60) (((((185 : Int32) * (kI s.2 v0 62)) + s.1)).toNatClampNeg) (kI s.2 (kR s.2 v0 45) ((s.1).toNatClampNeg))) fun h9 =>
  kl (s.1 + (1 : Int32)) fun x12 =>
  some (.inl (x12, h9)) else none else none else none else none else none
set_option maxHeartbeats 4000000 in
set_option maxRecDepth 100000 in
theorem s_X12_keeps_l15 {Z : Nat → (Nat → Nat) → State → Prop} (v0 : Nat) (s : Int32 × KH) (t : (Int32 × KH) ⊕ (KH)) (hn : (s.2).1 = 243) (H : f_X12_keeps_l15 v0 s = some t) : KX Z RX12 cX12_keeps 2 false 1 (B_X12_keeps_l15 v0 t) 15 [(0, .ref v0), (1, .int s.1)] [] s.2 := by
  unfold f_X12_keeps_l15 at H
  refine x_iload_n (q := 16) dX12_keeps_15 rfl rfl ?_
  refine x_sipush (q := 19) (v := (185 : Int32)) dX12_keeps_16 rfl (by decide) ?_
  replace H := kite H; rcases H with ⟨g1, H⟩ | ⟨g1, H⟩
  · refine x_icmp_ge_t dX12_keeps_19 (q := 49) (by decide) g1 ?_
    cases H
    refine x_sub (ls2 := [(0, .ref v0)]) [0] rfl ?_
    exact x_end (x_cfg rfl)
  · refine x_icmp_ge_f (q := 22) dX12_keeps_19 (t := 49) (by decide) rfl g1 ?_
    refine x_aload_n (q := 23) dX12_keeps_22 rfl rfl ?_
    replace H := kif H; obtain ⟨g2, H⟩ := H
    replace H := kif H; obtain ⟨g3, H⟩ := H
    refine x_getR (q := 26) dX12_keeps_23 rfl kl_RX12_145 rfl (k243 g2 (by decide) hn) g3 ?_
    refine x_sipush (q := 29) (v := (185 : Int32)) dX12_keeps_26 rfl (by decide) ?_
    refine x_aload_n (q := 30) dX12_keeps_29 rfl rfl ?_
    refine x_getI (q := 33) dX12_keeps_30 rfl kl_RX12_514 (Or.inl rfl) (k243 g2 (by decide) hn) ?_
    refine x_imul (q := 34) dX12_keeps_33 rfl ?_
    refine x_iload_n (q := 35) dX12_keeps_34 rfl rfl ?_
    refine x_iadd (q := 36) dX12_keeps_35 rfl ?_
    refine x_aload_n (q := 37) dX12_keeps_36 rfl rfl ?_
    replace H := kif H; obtain ⟨g4, H⟩ := H
    refine x_getR (q := 40) dX12_keeps_37 rfl kl_RX12_115 rfl (k243 g2 (by decide) hn) g4 ?_
    refine x_iload_n (q := 41) dX12_keeps_40 rfl rfl ?_
    replace H := kif H; obtain ⟨g5, H⟩ := H
    replace H := kifn H; obtain ⟨g6, H⟩ := H
    refine x_iald (q := 42) dX12_keeps_41 rfl (k243 g5 (by decide) hn) g6 ?_
    replace H := kif H; obtain ⟨g7, H⟩ := H
    replace H := kifn H; obtain ⟨g8, H⟩ := H
    replace H := kle H; obtain ⟨h9, q10, H⟩ := H
    refine x_iast (q := 43) dX12_keeps_42 rfl (k243 g7 (by decide) hn) g8 ?_
    refine x_nmH q10 ?_
    have n11 : h9.1 = 243 := by rw [q10]; exact hn
    replace H := kle H; obtain ⟨x12, q13, H⟩ := H
    refine x_iinc (q := 46) (i := 1) (ls2 := [(1, .int x12), (0, .ref v0)]) dX12_keeps_43 rfl rfl (by decide) (by rw [q13]; rfl) ?_
    refine x_goto dX12_keeps_46 (q := 15) (by decide) ?_
    cases H
    refine x_sub (ls2 := [(0, .ref v0), (1, .int x12)]) [1, 0] rfl ?_
    exact x_end (x_cfg rfl)
theorem sl_X12_keeps_l15 {Z : Nat → (Nat → Nat) → State → Prop} (v0 : Nat) (n : Nat) (s : Int32 × KH) (r : KH) (hn : (s.2).1 = 243) (H : kloop (f_X12_keeps_l15 v0) n s = some r) : KX Z RX12 cX12_keeps 2 false 1 (E_X12_keeps_l15 v0 r) 15 [(0, .ref v0), (1, .int s.1)] [] s.2 :=
  k_loop (ls := (fun (s : Int32 × KH) => ([(0, .ref v0), (1, .int s.1)] : List (Nat × Value)))) (hp := (fun (s : Int32 × KH) => (s.2 : KH))) (G := E_X12_keeps_l15 v0) (fun s t hn H => s_X12_keeps_l15 v0 s t hn H) n s r hn H
def f_X12_keeps (h : KH) (v0 : Nat) : Option (KH) :=
  if kkind v0 = 12 then kl (ksI h v0 62 (((kI h v0 62) + (1 : Int32)) - ((kI h v0 62) + (1 : Int32)) / (20 : Int32) * (20 : Int32))) fun h2 =>
  kb (kloop (f_X12_keeps_l15 v0) KF ((0 : Int32), h2)) fun e5 =>
  if (20 : Int32) ≤ (kI e5 v0 61) then
  some e5
  else
  kl (ksI e5 v0 61 ((kI e5 v0 61) + (1 : Int32))) fun h9 =>
  some h9 else none
set_option maxHeartbeats 4000000 in
set_option maxRecDepth 100000 in
theorem s0_X12_keeps {Z : Nat → (Nat → Nat) → State → Prop} (h : KH) (v0 : Nat) {t : KH} (hn : h.1 = 243) (H : f_X12_keeps h v0 = some t) : KX Z RX12 cX12_keeps 2 false 1 (KRv cX12_keeps t) 0 [(0, .ref v0)] [] h := by
  unfold f_X12_keeps at H
  refine x_aload_n (q := 1) dX12_keeps_0 rfl rfl ?_
  refine x_aload_n (q := 2) dX12_keeps_1 rfl rfl ?_
  replace H := kif H; obtain ⟨g1, H⟩ := H
  refine x_getI (q := 5) dX12_keeps_2 rfl kl_RX12_514 (Or.inl rfl) (k243 g1 (by decide) hn) ?_
  refine x_iconst (q := 6) (v := (1 : Int32)) dX12_keeps_5 rfl (by decide) ?_
  refine x_iadd (q := 7) dX12_keeps_6 rfl ?_
  refine x_bipush (q := 9) (v := (20 : Int32)) dX12_keeps_7 rfl (by decide) ?_
  refine x_irem (q := 10) dX12_keeps_9 rfl (by decide) ?_
  replace H := kle H; obtain ⟨h2, q3, H⟩ := H
  refine x_putI (q := 13) dX12_keeps_10 rfl kl_RX12_514 (Or.inl rfl) rfl (k243 g1 (by decide) hn) ?_
  refine x_nmH q3 ?_
  have n4 : h2.1 = 243 := by rw [q3]; exact hn
  refine x_iconst (q := 14) (v := (0 : Int32)) dX12_keeps_13 rfl (by decide) ?_
  refine x_istore_n (q := 15) (i := 1) (ls2 := [(1, .int (0 : Int32)), (0, .ref v0)]) dX12_keeps_14 rfl rfl (by decide) rfl ?_
  refine x_sub (ls2 := [(0, .ref v0), (1, .int (0 : Int32))]) [1, 0] rfl ?_
  replace H := kbe H; obtain ⟨e5, c6, H⟩ := H
  refine x_app (sl_X12_keeps_l15 v0 KF ((0 : Int32), h2) e5 n4 c6) fun pc2 ls2 st2 h2 hg m7 => ?_
  obtain ⟨rfl, rfl, rfl, rfl⟩ := hg
  refine x_aload_n (q := 50) dX12_keeps_49 rfl rfl ?_
  refine x_getI (q := 53) dX12_keeps_50 rfl kl_RX12_358 (Or.inl rfl) (k243 g1 (by decide) (m7.full n4)) ?_
  refine x_bipush (q := 55) (v := (20 : Int32)) dX12_keeps_53 rfl (by decide) ?_
  replace H := kite H; rcases H with ⟨g8, H⟩ | ⟨g8, H⟩
  · refine x_icmp_ge_t dX12_keeps_55 (q := 68) (by decide) g8 ?_
    cases H
    exact x_end ⟨dX12_keeps_68, rfl, rfl⟩
  · refine x_icmp_ge_f (q := 58) dX12_keeps_55 (t := 68) (by decide) rfl g8 ?_
    refine x_aload_n (q := 59) dX12_keeps_58 rfl rfl ?_
    refine x_dup (q := 60) dX12_keeps_59 rfl rfl ?_
    refine x_getI (q := 63) dX12_keeps_60 rfl kl_RX12_358 (Or.inl rfl) (k243 g1 (by decide) (m7.full n4)) ?_
    refine x_iconst (q := 64) (v := (1 : Int32)) dX12_keeps_63 rfl (by decide) ?_
    refine x_iadd (q := 65) dX12_keeps_64 rfl ?_
    replace H := kle H; obtain ⟨h9, q10, H⟩ := H
    refine x_putI (q := 68) dX12_keeps_65 rfl kl_RX12_358 (Or.inl rfl) rfl (k243 g1 (by decide) (m7.full n4)) ?_
    refine x_nmH q10 ?_
    have n11 : h9.1 = 243 := by rw [q10]; exact (m7.full n4)
    cases H
    exact x_end ⟨dX12_keeps_68, rfl, rfl⟩
theorem s_X12_keeps {Z : Nat → (Nat → Nat) → State → Prop} (h : KH) (v0 : Nat) {t : KH} (hn : h.1 = 243) (H : f_X12_keeps h v0 = some t) : KM Z yX12_keeps cX12_keeps 2 none 1 [.ref v0] h none t :=
  kx_v (own := RX12) (ini := false) (by decide +kernel) (by decide +kernel) rfl (Nat.le_of_ble_eq_true rfl) (s0_X12_keeps h v0 hn H)
