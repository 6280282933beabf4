-- methods as functions, and that the machine does as they say (by wip/whole/gen_all.py): X11_feed, X11_end, X11_fault, X11_keptCount, X11_has, X11_letter, X11_isKind, X11_kind, X11_isTest, X11_test, X11_isMark, X11_mark, X11_isBit, X11_yields, X11_kept, X11_weight, X11_odds, X11_kinds, X11_would, X11_merit, X11_best, X11_parts, X11_sure, X11_lookAhead
theorem dX11_feed_0 : decode cX11_feed 0 = .ok (.aload_n 0, 1) := by decide +kernel
theorem dX11_feed_1 : decode cX11_feed 1 = .ok (.getfield 12, 3) := by decide +kernel
theorem dX11_feed_4 : decode cX11_feed 4 = .ok (.getfield 115, 3) := by decide +kernel
theorem dX11_feed_7 : decode cX11_feed 7 = .ok (.bipush 20, 2) := by decide +kernel
theorem dX11_feed_9 : decode cX11_feed 9 = .ok (.iadd, 1) := by decide +kernel
theorem dX11_feed_10 : decode cX11_feed 10 = .ok (.sipush 1600, 3) := by decide +kernel
theorem dX11_feed_13 : decode cX11_feed 13 = .ok (.if_icmp .le 9, 3) := by decide +kernel
theorem dX11_feed_16 : decode cX11_feed 16 = .ok (.aload_n 0, 1) := by decide +kernel
theorem dX11_feed_17 : decode cX11_feed 17 = .ok (.iconst 0, 1) := by decide +kernel
theorem dX11_feed_18 : decode cX11_feed 18 = .ok (.invokevirtual 118, 3) := by decide +kernel
theorem dX11_feed_21 : decode cX11_feed 21 = .ok (.ireturn, 1) := by decide +kernel
theorem dX11_feed_22 : decode cX11_feed 22 = .ok (.aload_n 0, 1) := by decide +kernel
theorem dX11_feed_23 : decode cX11_feed 23 = .ok (.getfield 12, 3) := by decide +kernel
theorem dX11_feed_26 : decode cX11_feed 26 = .ok (.iload_n 1, 1) := by decide +kernel
theorem dX11_feed_27 : decode cX11_feed 27 = .ok (.invokevirtual 122, 3) := by decide +kernel
theorem dX11_feed_30 : decode cX11_feed 30 = .ok (.aload_n 0, 1) := by decide +kernel
theorem dX11_feed_31 : decode cX11_feed 31 = .ok (.getfield 12, 3) := by decide +kernel
theorem dX11_feed_34 : decode cX11_feed 34 = .ok (.iload_n 2, 1) := by decide +kernel
theorem dX11_feed_35 : decode cX11_feed 35 = .ok (.invokevirtual 122, 3) := by decide +kernel
theorem dX11_feed_38 : decode cX11_feed 38 = .ok (.aload_n 0, 1) := by decide +kernel
theorem dX11_feed_39 : decode cX11_feed 39 = .ok (.getfield 12, 3) := by decide +kernel
theorem dX11_feed_42 : decode cX11_feed 42 = .ok (.iload_n 3, 1) := by decide +kernel
theorem dX11_feed_43 : decode cX11_feed 43 = .ok (.invokevirtual 122, 3) := by decide +kernel
theorem dX11_feed_46 : decode cX11_feed 46 = .ok (.aload_n 0, 1) := by decide +kernel
theorem dX11_feed_47 : decode cX11_feed 47 = .ok (.getfield 12, 3) := by decide +kernel
theorem dX11_feed_50 : decode cX11_feed 50 = .ok (.iload 4, 2) := by decide +kernel
theorem dX11_feed_52 : decode cX11_feed 52 = .ok (.invokevirtual 122, 3) := by decide +kernel
theorem dX11_feed_55 : decode cX11_feed 55 = .ok (.aload_n 0, 1) := by decide +kernel
theorem dX11_feed_56 : decode cX11_feed 56 = .ok (.getfield 12, 3) := by decide +kernel
theorem dX11_feed_59 : decode cX11_feed 59 = .ok (.iload 5, 2) := by decide +kernel
theorem dX11_feed_61 : decode cX11_feed 61 = .ok (.invokevirtual 122, 3) := by decide +kernel
theorem dX11_feed_64 : decode cX11_feed 64 = .ok (.aload_n 0, 1) := by decide +kernel
theorem dX11_feed_65 : decode cX11_feed 65 = .ok (.getfield 12, 3) := by decide +kernel
theorem dX11_feed_68 : decode cX11_feed 68 = .ok (.getfield 115, 3) := by decide +kernel
theorem dX11_feed_71 : decode cX11_feed 71 = .ok (.ireturn, 1) := by decide +kernel
theorem kl_RX11_12 : KLk RX11 12 11 0 := ⟨RX11, TX11, 18, rfl, by decide, Or.inl (kwm 528 (by decide +kernel) (by decide +kernel))⟩
theorem kl_RX11_115 : KLk RX11 115 9 1 := ⟨RX9, TX9, 2, rfl, by decide, Or.inr (by decide +kernel)⟩
theorem kc_RX11_122 : Cond.methodLink RX11 122 yX9_addNumber ∈ ktG ∧ (Cond.instanceMethod yX9_addNumber ∈ ktG ∧ Cond.selects yX9_addNumber.cls yX9_addNumber yX9_addNumber ∈ ktG) ∧ Cond.initialized yX9_addNumber.cls ∈ ktG ∧ Cond.code yX9_addNumber cX9_addNumber 3 none ∈ ktG := ⟨(kwm 591 (by decide +kernel) (by decide +kernel)), ⟨(kwm 592 (by decide +kernel) (by decide +kernel)), (kwm 593 (by decide +kernel) (by decide +kernel))⟩, (kwm 124 (by decide +kernel) (by decide +kernel)), kwm 594 (by decide +kernel) (by decide +kernel)⟩
theorem kh_X9_addNumber : yX9_addNumber.cls ≠ "java/lang/invoke/MethodHandle" ∧ yX9_addNumber.cls ≠ "java/lang/invoke/VarHandle" ∧ (parseMethodDescriptor yX9_addNumber.desc).map (fun d => d.parameters.length) = some 1 := by decide +kernel
theorem kc_RX11_118 : Cond.methodLink RX11 118 yX11_refuse ∈ ktG ∧ (Cond.instanceMethod yX11_refuse ∈ ktG ∧ Cond.selects yX11_refuse.cls yX11_refuse yX11_refuse ∈ ktG) ∧ Cond.initialized yX11_refuse.cls ∈ ktG ∧ Cond.code yX11_refuse cX11_refuse 2 (some .int) ∈ ktG := ⟨(kwm 587 (by decide +kernel) (by decide +kernel)), ⟨(kwm 589 (by decide +kernel) (by decide +kernel)), (kwm 1 (by decide +kernel) (by decide +kernel))⟩, (kwm 123 (by decide +kernel) (by decide +kernel)), kwm 590 (by decide +kernel) (by decide +kernel)⟩
theorem kh_X11_refuse : yX11_refuse.cls ≠ "java/lang/invoke/MethodHandle" ∧ yX11_refuse.cls ≠ "java/lang/invoke/VarHandle" ∧ (parseMethodDescriptor yX11_refuse.desc).map (fun d => d.parameters.length) = some 1 := by decide +kernel
def f_X11_feed (h : KH) (v0 : Nat) (v1 : Int32) (v2 : Int32) (v3 : Int32) (v4 : Int32) (v5 : Int32) : Option (Int32 × KH) :=
  if kkind v0 = 11 then if (kR h v0 0) < 999999 then if kkind (kR h v0 0) = 9 then if ((kI h (kR h v0 0) 1) + (20 : Int32)) ≤ (1600 : Int32) then
  kb (f_X9_addNumber h (kR h v0 0) v1) fun r5 =>
  if (kR r5 v0 0) < 999999 then if kkind (kR r5 v0 0) = 9 then kb (f_X9_addNumber r5 (kR r5 v0 0) v2) fun r11 =>
  if (kR r11 v0 0) < 999999 then if kkind (kR r11 v0 0) = 9 then kb (f_X9_addNumber r11 (kR r11 v0 0) v3) fun r17 =>
  if (kR r17 v0 0) < 999999 then if kkind (kR r17 v0 0) = 9 then kb (f_X9_addNumber r17 (kR r17 v0 0) v4) fun r23 =>
  if (kR r23 v0 0) < 999999 then if kkind (kR r23 v0 0) = 9 then kb (f_X9_addNumber r23 (kR r23 v0 0) v5) fun r29 =>
  if (kR r29 v0 0) < 999999 then if kkind (kR r29 v0 0) = 9 then some ((kI r29 (kR r29 v0 0) 1), r29) else none else none else none else none else none else none else none else none else none else none
  else
  kb (f_X11_refuse h v0 (0 : Int32)) fun r35 =>
  some (r35.1, r35.2) else none else none else none
set_option maxHeartbeats 4000000 in
set_option maxRecDepth 100000 in
theorem s0_X11_feed {Z : Nat → (Nat → Nat) → State → Prop} (h : KH) (v0 : Nat) (v1 : Int32) (v2 : Int32) (v3 : Int32) (v4 : Int32) (v5 : Int32) {t : Int32 × KH} (hn : h.1 = 243) (H : f_X11_feed h v0 v1 v2 v3 v4 v5 = some t) : KX Z RX11 cX11_feed 6 false 2 (KRi cX11_feed t.1 t.2) 0 [(0, .ref v0), (1, .int v1), (2, .int v2), (3, .int v3), (4, .int v4), (5, .int v5)] [] h := by
  unfold f_X11_feed at H
  refine x_aload_n (q := 1) dX11_feed_0 rfl rfl ?_
  replace H := kif H; obtain ⟨g1, H⟩ := H
  replace H := kif H; obtain ⟨g2, H⟩ := H
  refine x_getR (q := 4) dX11_feed_1 rfl kl_RX11_12 rfl (k243 g1 (by decide) hn) g2 ?_
  replace H := kif H; obtain ⟨g3, H⟩ := H
  refine x_getI (q := 7) dX11_feed_4 rfl kl_RX11_115 (Or.inl rfl) (k243 g3 (by decide) hn) ?_
  refine x_bipush (q := 9) (v := (20 : Int32)) dX11_feed_7 rfl (by decide) ?_
  refine x_iadd (q := 10) dX11_feed_9 rfl ?_
  refine x_sipush (q := 13) (v := (1600 : Int32)) dX11_feed_10 rfl (by decide) ?_
  replace H := kite H; rcases H with ⟨g4, H⟩ | ⟨g4, H⟩
  · refine x_icmp_le_t dX11_feed_13 (q := 22) (by decide) g4 ?_
    refine x_aload_n (q := 23) dX11_feed_22 rfl rfl ?_
    refine x_getR (q := 26) dX11_feed_23 rfl kl_RX11_12 rfl (k243 g1 (by decide) hn) g2 ?_
    refine x_iload_n (q := 27) dX11_feed_26 rfl rfl ?_
    replace H := kbe H; obtain ⟨r5, c6, H⟩ := H
    have m7 := s_X9_addNumber (Z := Z) h (kR h v0 0) v1 hn c6
    refine x_callV (q := 30) (as := [.int v1]) (rest := []) dX11_feed_27 rfl kc_RX11_122 kh_X9_addNumber (by decide) (Nat.le_of_ble_eq_true rfl) m7 (ci := 9) (by exact ⟨rfl, by decide⟩) (k243 g3 (by decide) hn) ?_
    have n8 : (r5).1 = 243 := m7.1.full hn
    refine x_aload_n (q := 31) dX11_feed_30 rfl rfl ?_
    replace H := kif H; obtain ⟨g9, H⟩ := H
    refine x_getR (q := 34) dX11_feed_31 rfl kl_RX11_12 rfl (k243 g1 (by decide) n8) g9 ?_
    refine x_iload_n (q := 35) dX11_feed_34 rfl rfl ?_
    replace H := kif H; obtain ⟨g10, H⟩ := H
    replace H := kbe H; obtain ⟨r11, c12, H⟩ := H
    have m13 := s_X9_addNumber (Z := Z) r5 (kR r5 v0 0) v2 n8 c12
    refine x_callV (q := 38) (as := [.int v2]) (rest := []) dX11_feed_35 rfl kc_RX11_122 kh_X9_addNumber (by decide) (Nat.le_of_ble_eq_true rfl) m13 (ci := 9) (by exact ⟨rfl, by decide⟩) (k243 g10 (by decide) n8) ?_
    have n14 : (r11).1 = 243 := m13.1.full n8
    refine x_aload_n (q := 39) dX11_feed_38 rfl rfl ?_
    replace H := kif H; obtain ⟨g15, H⟩ := H
    refine x_getR (q := 42) dX11_feed_39 rfl kl_RX11_12 rfl (k243 g1 (by decide) n14) g15 ?_
    refine x_iload_n (q := 43) dX11_feed_42 rfl rfl ?_
    replace H := kif H; obtain ⟨g16, H⟩ := H
    replace H := kbe H; obtain ⟨r17, c18, H⟩ := H
    have m19 := s_X9_addNumber (Z := Z) r11 (kR r11 v0 0) v3 n14 c18
    refine x_callV (q := 46) (as := [.int v3]) (rest := []) dX11_feed_43 rfl kc_RX11_122 kh_X9_addNumber (by decide) (Nat.le_of_ble_eq_true rfl) m19 (ci := 9) (by exact ⟨rfl, by decide⟩) (k243 g16 (by decide) n14) ?_
    have n20 : (r17).1 = 243 := m19.1.full n14
    refine x_aload_n (q := 47) dX11_feed_46 rfl rfl ?_
    replace H := kif H; obtain ⟨g21, H⟩ := H
    refine x_getR (q := 50) dX11_feed_47 rfl kl_RX11_12 rfl (k243 g1 (by decide) n20) g21 ?_
    refine x_iload (q := 52) dX11_feed_50 rfl rfl ?_
    replace H := kif H; obtain ⟨g22, H⟩ := H
    replace H := kbe H; obtain ⟨r23, c24, H⟩ := H
    have m25 := s_X9_addNumber (Z := Z) r17 (kR r17 v0 0) v4 n20 c24
    refine x_callV (q := 55) (as := [.int v4]) (rest := []) dX11_feed_52 rfl kc_RX11_122 kh_X9_addNumber (by decide) (Nat.le_of_ble_eq_true rfl) m25 (ci := 9) (by exact ⟨rfl, by decide⟩) (k243 g22 (by decide) n20) ?_
    have n26 : (r23).1 = 243 := m25.1.full n20
    refine x_aload_n (q := 56) dX11_feed_55 rfl rfl ?_
    replace H := kif H; obtain ⟨g27, H⟩ := H
    refine x_getR (q := 59) dX11_feed_56 rfl kl_RX11_12 rfl (k243 g1 (by decide) n26) g27 ?_
    refine x_iload (q := 61) dX11_feed_59 rfl rfl ?_
    replace H := kif H; obtain ⟨g28, H⟩ := H
    replace H := kbe H; obtain ⟨r29, c30, H⟩ := H
    have m31 := s_X9_addNumber (Z := Z) r23 (kR r23 v0 0) v5 n26 c30
    refine x_callV (q := 64) (as := [.int v5]) (rest := []) dX11_feed_61 rfl kc_RX11_122 kh_X9_addNumber (by decide) (Nat.le_of_ble_eq_true rfl) m31 (ci := 9) (by exact ⟨rfl, by decide⟩) (k243 g28 (by decide) n26) ?_
    have n32 : (r29).1 = 243 := m31.1.full n26
    refine x_aload_n (q := 65) dX11_feed_64 rfl rfl ?_
    replace H := kif H; obtain ⟨g33, H⟩ := H
    refine x_getR (q := 68) dX11_feed_65 rfl kl_RX11_12 rfl (k243 g1 (by decide) n32) g33 ?_
    replace H := kif H; obtain ⟨g34, H⟩ := H
    refine x_getI (q := 71) dX11_feed_68 rfl kl_RX11_115 (Or.inl rfl) (k243 g34 (by decide) n32) ?_
    cases H
    exact x_end ⟨dX11_feed_71, rfl, rfl⟩
  · refine x_icmp_le_f (q := 16) dX11_feed_13 (t := 22) (by decide) rfl g4 ?_
    refine x_aload_n (q := 17) dX11_feed_16 rfl rfl ?_
    refine x_iconst (q := 18) (v := (0 : Int32)) dX11_feed_17 rfl (by decide) ?_
    replace H := kbe H; obtain ⟨r35, c36, H⟩ := H
    have m37 := s_X11_refuse (Z := Z) h v0 (0 : Int32) hn c36
    refine x_callV (q := 21) (as := [.int (0 : Int32)]) (rest := []) dX11_feed_18 rfl kc_RX11_118 kh_X11_refuse (by decide) (Nat.le_of_ble_eq_true rfl) m37 (ci := 11) (by exact ⟨rfl, by decide⟩) (k243 g1 (by decide) hn) ?_
    have n38 : (r35.2).1 = 243 := m37.1.full hn
    cases H
    exact x_end ⟨dX11_feed_21, rfl, rfl⟩
theorem s_X11_feed {Z : Nat → (Nat → Nat) → State → Prop} (h : KH) (v0 : Nat) (v1 : Int32) (v2 : Int32) (v3 : Int32) (v4 : Int32) (v5 : Int32) {t : Int32 × KH} (hn : h.1 = 243) (H : f_X11_feed h v0 v1 v2 v3 v4 v5 = some t) : KM Z yX11_feed cX11_feed 6 (some .int) 2 [.ref v0, .int v1, .int v2, .int v3, .int v4, .int v5] h (some (.int t.1)) t.2 :=
  kx_i (own := RX11) (ini := false) (by decide +kernel) (by decide +kernel) rfl (Nat.le_of_ble_eq_true rfl) (s0_X11_feed h v0 v1 v2 v3 v4 v5 hn H)
theorem dX11_end_0 : decode cX11_end 0 = .ok (.iload_n 1, 1) := by decide +kernel
theorem dX11_end_1 : decode cX11_end 1 = .ok (.ifCond .lt 14, 3) := by decide +kernel
theorem dX11_end_4 : decode cX11_end 4 = .ok (.iload_n 1, 1) := by decide +kernel
theorem dX11_end_5 : decode cX11_end 5 = .ok (.aload_n 0, 1) := by decide +kernel
theorem dX11_end_6 : decode cX11_end 6 = .ok (.getfield 12, 3) := by decide +kernel
theorem dX11_end_9 : decode cX11_end 9 = .ok (.getfield 115, 3) := by decide +kernel
theorem dX11_end_12 : decode cX11_end 12 = .ok (.if_icmp .le 11, 3) := by decide +kernel
theorem dX11_end_15 : decode cX11_end 15 = .ok (.aload_n 0, 1) := by decide +kernel
theorem dX11_end_16 : decode cX11_end 16 = .ok (.iconst 0, 1) := by decide +kernel
theorem dX11_end_17 : decode cX11_end 17 = .ok (.invokevirtual 118, 3) := by decide +kernel
theorem dX11_end_20 : decode cX11_end 20 = .ok (.pop, 1) := by decide +kernel
theorem dX11_end_21 : decode cX11_end 21 = .ok (.iconst 0, 1) := by decide +kernel
theorem dX11_end_22 : decode cX11_end 22 = .ok (.ireturn, 1) := by decide +kernel
theorem dX11_end_23 : decode cX11_end 23 = .ok (.aload_n 0, 1) := by decide +kernel
theorem dX11_end_24 : decode cX11_end 24 = .ok (.getfield 12, 3) := by decide +kernel
theorem dX11_end_27 : decode cX11_end 27 = .ok (.iload_n 1, 1) := by decide +kernel
theorem dX11_end_28 : decode cX11_end 28 = .ok (.putfield 115, 3) := by decide +kernel
theorem dX11_end_31 : decode cX11_end 31 = .ok (.iconst 1, 1) := by decide +kernel
theorem dX11_end_32 : decode cX11_end 32 = .ok (.ireturn, 1) := by decide +kernel
def f_X11_end_b15 (h : KH) (v0 : Nat) : Option (Int32 × KH) :=
  if kkind v0 = 11 then kb (f_X11_refuse h v0 (0 : Int32)) fun r2 =>
  some ((0 : Int32), r2.2) else none
set_option maxHeartbeats 4000000 in
set_option maxRecDepth 100000 in
theorem s_X11_end_b15 {Z : Nat → (Nat → Nat) → State → Prop} (h : KH) (v0 : Nat) {t : Int32 × KH} (hn : h.1 = 243) (H : f_X11_end_b15 h v0 = some t) : KX Z RX11 cX11_end 2 false 2 (KRz cX11_end t.1 t.2) 15 [(0, .ref v0)] [] h := by
  unfold f_X11_end_b15 at H
  refine x_aload_n (q := 16) dX11_end_15 rfl rfl ?_
  refine x_iconst (q := 17) (v := (0 : Int32)) dX11_end_16 rfl (by decide) ?_
  replace H := kif H; obtain ⟨g1, H⟩ := H
  replace H := kbe H; obtain ⟨r2, c3, H⟩ := H
  have m4 := s_X11_refuse (Z := Z) h v0 (0 : Int32) hn c3
  refine x_callV (q := 20) (as := [.int (0 : Int32)]) (rest := []) dX11_end_17 rfl kc_RX11_118 kh_X11_refuse (by decide) (Nat.le_of_ble_eq_true rfl) m4 (ci := 11) (by exact ⟨rfl, by decide⟩) (k243 g1 (by decide) hn) ?_
  have n5 : (r2.2).1 = 243 := m4.1.full hn
  refine x_pop (q := 21) dX11_end_20 rfl rfl ?_
  refine x_iconst (q := 22) (v := (0 : Int32)) dX11_end_21 rfl (by decide) ?_
  cases H
  exact x_end ⟨(Or.inl rfl), dX11_end_22, rfl, rfl⟩
def f_X11_end (h : KH) (v0 : Nat) (v1 : Int32) : Option (Int32 × KH) :=
  if v1 < 0 then
  f_X11_end_b15 h v0
  else
  if kkind v0 = 11 then if (kR h v0 0) < 999999 then if kkind (kR h v0 0) = 9 then if v1 ≤ (kI h (kR h v0 0) 1) then
  kl (ksI h (kR h v0 0) 1 v1) fun h6 =>
  some ((1 : Int32), h6)
  else
  f_X11_end_b15 h v0 else none else none else none
set_option maxHeartbeats 4000000 in
set_option maxRecDepth 100000 in
theorem s0_X11_end {Z : Nat → (Nat → Nat) → State → Prop} (h : KH) (v0 : Nat) (v1 : Int32) {t : Int32 × KH} (hn : h.1 = 243) (H : f_X11_end h v0 v1 = some t) : KX Z RX11 cX11_end 2 false 2 (KRz cX11_end t.1 t.2) 0 [(0, .ref v0), (1, .int v1)] [] h := by
  unfold f_X11_end at H
  refine x_iload_n (q := 1) dX11_end_0 rfl rfl ?_
  replace H := kite H; rcases H with ⟨g1, H⟩ | ⟨g1, H⟩
  · refine x_if_lt_t dX11_end_1 (q := 15) (by decide) g1 ?_
    refine x_sub (ls2 := [(0, .ref v0)]) [0] rfl ?_
    exact s_X11_end_b15 h v0 hn H
  · refine x_if_lt_f (q := 4) dX11_end_1 (t := 15) (by decide) rfl g1 ?_
    refine x_iload_n (q := 5) dX11_end_4 rfl rfl ?_
    refine x_aload_n (q := 6) dX11_end_5 rfl rfl ?_
    replace H := kif H; obtain ⟨g2, H⟩ := H
    replace H := kif H; obtain ⟨g3, H⟩ := H
    refine x_getR (q := 9) dX11_end_6 rfl kl_RX11_12 rfl (k243 g2 (by decide) hn) g3 ?_
    replace H := kif H; obtain ⟨g4, H⟩ := H
    refine x_getI (q := 12) dX11_end_9 rfl kl_RX11_115 (Or.inl rfl) (k243 g4 (by decide) hn) ?_
    replace H := kite H; rcases H with ⟨g5, H⟩ | ⟨g5, H⟩
    · refine x_icmp_le_t dX11_end_12 (q := 23) (by decide) g5 ?_
      refine x_aload_n (q := 24) dX11_end_23 rfl rfl ?_
      refine x_getR (q := 27) dX11_end_24 rfl kl_RX11_12 rfl (k243 g2 (by decide) hn) g3 ?_
      refine x_iload_n (q := 28) dX11_end_27 rfl rfl ?_
      replace H := kle H; obtain ⟨h6, q7, H⟩ := H
      refine x_putI (q := 31) dX11_end_28 rfl kl_RX11_115 (Or.inl rfl) rfl (k243 g4 (by decide) hn) ?_
      refine x_nmH q7 ?_
      have n8 : h6.1 = 243 := by rw [q7]; exact hn
      refine x_iconst (q := 32) (v := (1 : Int32)) dX11_end_31 rfl (by decide) ?_
      cases H
      exact x_end ⟨(Or.inr rfl), dX11_end_32, rfl, rfl⟩
    · refine x_icmp_le_f (q := 15) dX11_end_12 (t := 23) (by decide) rfl g5 ?_
      refine x_sub (ls2 := [(0, .ref v0)]) [0] rfl ?_
      exact s_X11_end_b15 h v0 hn H
theorem s_X11_end {Z : Nat → (Nat → Nat) → State → Prop} (h : KH) (v0 : Nat) (v1 : Int32) {t : Int32 × KH} (hn : h.1 = 243) (H : f_X11_end h v0 v1 = some t) : KM Z yX11_end cX11_end 2 (some .boolean) 2 [.ref v0, .int v1] h (some (.int t.1)) t.2 :=
  kx_z (own := RX11) (ini := false) (by decide +kernel) (by decide +kernel) rfl (Nat.le_of_ble_eq_true rfl) (s0_X11_end h v0 v1 hn H)
theorem dX11_fault_0 : decode cX11_fault 0 = .ok (.iload_n 1, 1) := by decide +kernel
theorem dX11_fault_1 : decode cX11_fault 1 = .ok (.ifCond .ne 13, 3) := by decide +kernel
theorem dX11_fault_4 : decode cX11_fault 4 = .ok (.aload_n 0, 1) := by decide +kernel
theorem dX11_fault_5 : decode cX11_fault 5 = .ok (.getfield 28, 3) := by decide +kernel
theorem dX11_fault_8 : decode cX11_fault 8 = .ok (.getfield 130, 3) := by decide +kernel
theorem dX11_fault_11 : decode cX11_fault 11 = .ok (.goto 19, 3) := by decide +kernel
theorem dX11_fault_14 : decode cX11_fault 14 = .ok (.iload_n 1, 1) := by decide +kernel
theorem dX11_fault_15 : decode cX11_fault 15 = .ok (.iconst 1, 1) := by decide +kernel
theorem dX11_fault_16 : decode cX11_fault 16 = .ok (.if_icmp .ne 13, 3) := by decide +kernel
theorem dX11_fault_19 : decode cX11_fault 19 = .ok (.aload_n 0, 1) := by decide +kernel
theorem dX11_fault_20 : decode cX11_fault 20 = .ok (.getfield 28, 3) := by decide +kernel
theorem dX11_fault_23 : decode cX11_fault 23 = .ok (.getfield 140, 3) := by decide +kernel
theorem dX11_fault_26 : decode cX11_fault 26 = .ok (.goto 4, 3) := by decide +kernel
theorem dX11_fault_29 : decode cX11_fault 29 = .ok (.iconst (-1), 1) := by decide +kernel
theorem dX11_fault_30 : decode cX11_fault 30 = .ok (.ireturn, 1) := by decide +kernel
theorem kl_RX11_28 : KLk RX11 28 11 2 := ⟨RX11, TX11, 18, rfl, by decide, Or.inl (kwm 530 (by decide +kernel) (by decide +kernel))⟩
theorem kl_RX11_140 : KLk RX11 140 7 8 := ⟨RX7, TX7, 9, rfl, by decide, Or.inr (by decide +kernel)⟩
theorem kl_RX11_130 : KLk RX11 130 7 7 := ⟨RX7, TX7, 9, rfl, by decide, Or.inr (by decide +kernel)⟩
def f_X11_fault (h : KH) (v0 : Nat) (v1 : Int32) : Option (Int32) :=
  if v1 = 0 then
  if kkind v0 = 11 then if (kR h v0 2) < 999999 then if kkind (kR h v0 2) = 7 then some (kI h (kR h v0 2) 7) else none else none else none
  else
  if v1 = (1 : Int32) then
  if kkind v0 = 11 then if (kR h v0 2) < 999999 then if kkind (kR h v0 2) = 7 then some (kI h (kR h v0 2) 8) else none else none else none
  else
  some (-1 : Int32)
set_option maxHeartbeats 4000000 in
set_option maxRecDepth 100000 in
theorem s0_X11_fault {Z : Nat → (Nat → Nat) → State → Prop} (h : KH) (v0 : Nat) (v1 : Int32) {t : Int32} (hn : h.1 = 243) (H : f_X11_fault h v0 v1 = some t) : KX Z RX11 cX11_fault 2 false 1 (KRi cX11_fault t h) 0 [(0, .ref v0), (1, .int v1)] [] h := by
  unfold f_X11_fault at H
  refine x_iload_n (q := 1) dX11_fault_0 rfl rfl ?_
  replace H := kite H; rcases H with ⟨g1, H⟩ | ⟨g1, H⟩
  · refine x_if_ne_f (q := 4) dX11_fault_1 (t := 14) (by decide) rfl g1 ?_
    refine x_aload_n (q := 5) dX11_fault_4 rfl rfl ?_
    replace H := kif H; obtain ⟨g6, H⟩ := H
    replace H := kif H; obtain ⟨g7, H⟩ := H
    refine x_getR (q := 8) dX11_fault_5 rfl kl_RX11_28 rfl (k243 g6 (by decide) hn) g7 ?_
    replace H := kif H; obtain ⟨g8, H⟩ := H
    refine x_getI (q := 11) dX11_fault_8 rfl kl_RX11_130 (Or.inl rfl) (k243 g8 (by decide) hn) ?_
    refine x_goto dX11_fault_11 (q := 30) (by decide) ?_
    cases H
    exact x_end ⟨dX11_fault_30, rfl, rfl⟩
  · refine x_if_ne_t dX11_fault_1 (q := 14) (by decide) g1 ?_
    refine x_iload_n (q := 15) dX11_fault_14 rfl rfl ?_
    refine x_iconst (q := 16) (v := (1 : Int32)) dX11_fault_15 rfl (by decide) ?_
    replace H := kite H; rcases H with ⟨g2, H⟩ | ⟨g2, H⟩
    · refine x_icmp_ne_f (q := 19) dX11_fault_16 (t := 29) (by decide) rfl g2 ?_
      refine x_aload_n (q := 20) dX11_fault_19 rfl rfl ?_
      replace H := kif H; obtain ⟨g3, H⟩ := H
      replace H := kif H; obtain ⟨g4, H⟩ := H
      refine x_getR (q := 23) dX11_fault_20 rfl kl_RX11_28 rfl (k243 g3 (by decide) hn) g4 ?_
      replace H := kif H; obtain ⟨g5, H⟩ := H
      refine x_getI (q := 26) dX11_fault_23 rfl kl_RX11_140 (Or.inl rfl) (k243 g5 (by decide) hn) ?_
      refine x_goto dX11_fault_26 (q := 30) (by decide) ?_
      cases H
      exact x_end ⟨dX11_fault_30, rfl, rfl⟩
    · refine x_icmp_ne_t dX11_fault_16 (q := 29) (by decide) g2 ?_
      refine x_iconst (q := 30) (v := (-1 : Int32)) dX11_fault_29 rfl (by decide) ?_
      cases H
      exact x_end ⟨dX11_fault_30, rfl, rfl⟩
theorem s_X11_fault {Z : Nat → (Nat → Nat) → State → Prop} (h : KH) (v0 : Nat) (v1 : Int32) {t : Int32} (hn : h.1 = 243) (H : f_X11_fault h v0 v1 = some t) : KM Z yX11_fault cX11_fault 2 (some .int) 1 [.ref v0, .int v1] h (some (.int t)) h :=
  kx_i (own := RX11) (ini := false) (by decide +kernel) (by decide +kernel) rfl (Nat.le_of_ble_eq_true rfl) (s0_X11_fault h v0 v1 hn H)
theorem dX11_keptCount_0 : decode cX11_keptCount 0 = .ok (.aload_n 0, 1) := by decide +kernel
theorem dX11_keptCount_1 : decode cX11_keptCount 1 = .ok (.getfield 67, 3) := by decide +kernel
theorem dX11_keptCount_4 : decode cX11_keptCount 4 = .ok (.getfield 215, 3) := by decide +kernel
theorem dX11_keptCount_7 : decode cX11_keptCount 7 = .ok (.bipush 40, 2) := by decide +kernel
theorem dX11_keptCount_9 : decode cX11_keptCount 9 = .ok (.invokestatic 343, 3) := by decide +kernel
theorem dX11_keptCount_12 : decode cX11_keptCount 12 = .ok (.ireturn, 1) := by decide +kernel
theorem kl_RX11_67 : KLk RX11 67 11 7 := ⟨RX11, TX11, 18, rfl, by decide, Or.inl (kwm 535 (by decide +kernel) (by decide +kernel))⟩
theorem kl_RX11_215 : KLk RX11 215 8 2 := ⟨RX8, TX8, 6, rfl, by decide, Or.inr (by decide +kernel)⟩
theorem kc_RX11_343 : Cond.methodLink RX11 343 yJ9_min_7cf53 ∈ ktG ∧ Cond.static yJ9_min_7cf53 ∈ ktG ∧ Cond.initialized yJ9_min_7cf53.cls ∈ ktG ∧ Cond.code yJ9_min_7cf53 cJ9_min_7cf53 2 (some .int) ∈ ktG := ⟨(kwm 809 (by decide +kernel) (by decide +kernel)), (kwm 810 (by decide +kernel) (by decide +kernel)), (kwm 142 (by decide +kernel) (by decide +kernel)), kwm 811 (by decide +kernel) (by decide +kernel)⟩
def f_X11_keptCount (h : KH) (v0 : Nat) : Option (Int32) :=
  if kkind v0 = 11 then if (kR h v0 7) < 999999 then if kkind (kR h v0 7) = 8 then kb (f_J9_min_7cf53 h (kI h (kR h v0 7) 2) (40 : Int32)) fun r4 =>
  some r4 else none else none else none
set_option maxHeartbeats 4000000 in
set_option maxRecDepth 100000 in
theorem s0_X11_keptCount {Z : Nat → (Nat → Nat) → State → Prop} (h : KH) (v0 : Nat) {t : Int32} (hn : h.1 = 243) (H : f_X11_keptCount h v0 = some t) : KX Z RX11 cX11_keptCount 1 false 2 (KRi cX11_keptCount t h) 0 [(0, .ref v0)] [] h := by
  unfold f_X11_keptCount at H
  refine x_aload_n (q := 1) dX11_keptCount_0 rfl rfl ?_
  replace H := kif H; obtain ⟨g1, H⟩ := H
  replace H := kif H; obtain ⟨g2, H⟩ := H
  refine x_getR (q := 4) dX11_keptCount_1 rfl kl_RX11_67 rfl (k243 g1 (by decide) hn) g2 ?_
  replace H := kif H; obtain ⟨g3, H⟩ := H
  refine x_getI (q := 7) dX11_keptCount_4 rfl kl_RX11_215 (Or.inl rfl) (k243 g3 (by decide) hn) ?_
  refine x_bipush (q := 9) (v := (40 : Int32)) dX11_keptCount_7 rfl (by decide) ?_
  replace H := kbe H; obtain ⟨r4, c5, H⟩ := H
  have m6 := s_J9_min_7cf53 (Z := Z) h (kI h (kR h v0 7) 2) (40 : Int32) hn c5
  refine x_callS (q := 12) (as := [.int (kI h (kR h v0 7) 2), .int (40 : Int32)]) (rest := []) dX11_keptCount_9 rfl kc_RX11_343 kh_J9_min_7cf53 (by decide) (Nat.le_of_ble_eq_true rfl) m6 ?_
  cases H
  exact x_end ⟨dX11_keptCount_12, rfl, rfl⟩
theorem s_X11_keptCount {Z : Nat → (Nat → Nat) → State → Prop} (h : KH) (v0 : Nat) {t : Int32} (hn : h.1 = 243) (H : f_X11_keptCount h v0 = some t) : KM Z yX11_keptCount cX11_keptCount 1 (some .int) 2 [.ref v0] h (some (.int t)) h :=
  kx_i (own := RX11) (ini := false) (by decide +kernel) (by decide +kernel) rfl (Nat.le_of_ble_eq_true rfl) (s0_X11_keptCount h v0 hn H)
theorem dX11_has_0 : decode cX11_has 0 = .ok (.iload_n 1, 1) := by decide +kernel
theorem dX11_has_1 : decode cX11_has 1 = .ok (.tableswitch 144 0 10 #[59, 67, 75, 83, 91, 99, 107, 118, 126, 131, 136], 59) := by decide +kernel
theorem dX11_has_60 : decode cX11_has 60 = .ok (.aload_n 0, 1) := by decide +kernel
theorem dX11_has_61 : decode cX11_has 61 = .ok (.getfield 57, 3) := by decide +kernel
theorem dX11_has_64 : decode cX11_has 64 = .ok (.getfield 143, 3) := by decide +kernel
theorem dX11_has_67 : decode cX11_has 67 = .ok (.ireturn, 1) := by decide +kernel
theorem dX11_has_68 : decode cX11_has 68 = .ok (.aload_n 0, 1) := by decide +kernel
theorem dX11_has_69 : decode cX11_has 69 = .ok (.getfield 57, 3) := by decide +kernel
theorem dX11_has_72 : decode cX11_has 72 = .ok (.getfield 146, 3) := by decide +kernel
theorem dX11_has_75 : decode cX11_has 75 = .ok (.ireturn, 1) := by decide +kernel
theorem dX11_has_76 : decode cX11_has 76 = .ok (.aload_n 0, 1) := by decide +kernel
theorem dX11_has_77 : decode cX11_has 77 = .ok (.getfield 57, 3) := by decide +kernel
theorem dX11_has_80 : decode cX11_has 80 = .ok (.getfield 149, 3) := by decide +kernel
theorem dX11_has_83 : decode cX11_has 83 = .ok (.ireturn, 1) := by decide +kernel
theorem dX11_has_84 : decode cX11_has 84 = .ok (.aload_n 0, 1) := by decide +kernel
theorem dX11_has_85 : decode cX11_has 85 = .ok (.getfield 57, 3) := by decide +kernel
theorem dX11_has_88 : decode cX11_has 88 = .ok (.getfield 152, 3) := by decide +kernel
theorem dX11_has_91 : decode cX11_has 91 = .ok (.ireturn, 1) := by decide +kernel
theorem dX11_has_92 : decode cX11_has 92 = .ok (.aload_n 0, 1) := by decide +kernel
theorem dX11_has_93 : decode cX11_has 93 = .ok (.getfield 67, 3) := by decide +kernel
theorem dX11_has_96 : decode cX11_has 96 = .ok (.getfield 155, 3) := by decide +kernel
theorem dX11_has_99 : decode cX11_has 99 = .ok (.ireturn, 1) := by decide +kernel
theorem dX11_has_100 : decode cX11_has 100 = .ok (.aload_n 0, 1) := by decide +kernel
theorem dX11_has_101 : decode cX11_has 101 = .ok (.getfield 67, 3) := by decide +kernel
theorem dX11_has_104 : decode cX11_has 104 = .ok (.getfield 158, 3) := by decide +kernel
theorem dX11_has_107 : decode cX11_has 107 = .ok (.ireturn, 1) := by decide +kernel
theorem dX11_has_108 : decode cX11_has 108 = .ok (.aload_n 0, 1) := by decide +kernel
theorem dX11_has_109 : decode cX11_has 109 = .ok (.getfield 67, 3) := by decide +kernel
theorem dX11_has_112 : decode cX11_has 112 = .ok (.invokevirtual 161, 3) := by decide +kernel
theorem dX11_has_115 : decode cX11_has 115 = .ok (.invokestatic 165, 3) := by decide +kernel
theorem dX11_has_118 : decode cX11_has 118 = .ok (.ireturn, 1) := by decide +kernel
theorem dX11_has_119 : decode cX11_has 119 = .ok (.aload_n 0, 1) := by decide +kernel
theorem dX11_has_120 : decode cX11_has 120 = .ok (.getfield 67, 3) := by decide +kernel
theorem dX11_has_123 : decode cX11_has 123 = .ok (.invokevirtual 170, 3) := by decide +kernel
theorem dX11_has_126 : decode cX11_has 126 = .ok (.ireturn, 1) := by decide +kernel
theorem dX11_has_127 : decode cX11_has 127 = .ok (.aload_n 0, 1) := by decide +kernel
theorem dX11_has_128 : decode cX11_has 128 = .ok (.invokevirtual 173, 3) := by decide +kernel
theorem dX11_has_131 : decode cX11_has 131 = .ok (.ireturn, 1) := by decide +kernel
theorem dX11_has_132 : decode cX11_has 132 = .ok (.aload_n 0, 1) := by decide +kernel
theorem dX11_has_133 : decode cX11_has 133 = .ok (.getfield 99, 3) := by decide +kernel
theorem dX11_has_136 : decode cX11_has 136 = .ok (.ireturn, 1) := by decide +kernel
theorem dX11_has_137 : decode cX11_has 137 = .ok (.aload_n 0, 1) := by decide +kernel
theorem dX11_has_138 : decode cX11_has 138 = .ok (.getfield 77, 3) := by decide +kernel
theorem dX11_has_141 : decode cX11_has 141 = .ok (.getfield 136, 3) := by decide +kernel
theorem dX11_has_144 : decode cX11_has 144 = .ok (.ireturn, 1) := by decide +kernel
theorem dX11_has_145 : decode cX11_has 145 = .ok (.iconst (-1), 1) := by decide +kernel
theorem dX11_has_146 : decode cX11_has 146 = .ok (.ireturn, 1) := by decide +kernel
theorem kl_RX11_57 : KLk RX11 57 11 5 := ⟨RX11, TX11, 18, rfl, by decide, Or.inl (kwm 533 (by decide +kernel) (by decide +kernel))⟩
theorem kl_RX11_143 : KLk RX11 143 2 3 := ⟨RX2, TX2, 12, rfl, by decide, Or.inr (by decide +kernel)⟩
theorem kl_RX11_146 : KLk RX11 146 2 4 := ⟨RX2, TX2, 12, rfl, by decide, Or.inr (by decide +kernel)⟩
theorem kl_RX11_149 : KLk RX11 149 2 5 := ⟨RX2, TX2, 12, rfl, by decide, Or.inr (by decide +kernel)⟩
theorem kl_RX11_152 : KLk RX11 152 2 6 := ⟨RX2, TX2, 12, rfl, by decide, Or.inr (by decide +kernel)⟩
theorem kl_RX11_155 : KLk RX11 155 8 0 := ⟨RX8, TX8, 6, rfl, by decide, Or.inr (by decide +kernel)⟩
theorem kl_RX11_158 : KLk RX11 158 8 1 := ⟨RX8, TX8, 6, rfl, by decide, Or.inr (by decide +kernel)⟩
theorem kc_RX11_161 : Cond.methodLink RX11 161 yX8_heardBits ∈ ktG ∧ (Cond.instanceMethod yX8_heardBits ∈ ktG ∧ Cond.selects yX8_heardBits.cls yX8_heardBits yX8_heardBits ∈ ktG) ∧ Cond.initialized yX8_heardBits.cls ∈ ktG ∧ Cond.code yX8_heardBits cX8_heardBits 3 (some .int) ∈ ktG := ⟨(kwm 791 (by decide +kernel) (by decide +kernel)), ⟨(kwm 792 (by decide +kernel) (by decide +kernel)), (kwm 793 (by decide +kernel) (by decide +kernel))⟩, (kwm 135 (by decide +kernel) (by decide +kernel)), kwm 794 (by decide +kernel) (by decide +kernel)⟩
theorem kc_RX11_165 : Cond.methodLink RX11 165 yJ6_bitCount_0f7a4 ∈ ktG ∧ Cond.static yJ6_bitCount_0f7a4 ∈ ktG ∧ Cond.initialized yJ6_bitCount_0f7a4.cls ∈ ktG ∧ Cond.code yJ6_bitCount_0f7a4 cJ6_bitCount_0f7a4 1 (some .int) ∈ ktG := ⟨(kwm 795 (by decide +kernel) (by decide +kernel)), (kwm 796 (by decide +kernel) (by decide +kernel)), (kwm 141 (by decide +kernel) (by decide +kernel)), kwm 797 (by decide +kernel) (by decide +kernel)⟩
theorem kc_RX11_170 : Cond.methodLink RX11 170 yX8_lookedCount ∈ ktG ∧ (Cond.instanceMethod yX8_lookedCount ∈ ktG ∧ Cond.selects yX8_lookedCount.cls yX8_lookedCount yX8_lookedCount ∈ ktG) ∧ Cond.initialized yX8_lookedCount.cls ∈ ktG ∧ Cond.code yX8_lookedCount cX8_lookedCount 3 (some .int) ∈ ktG := ⟨(kwm 801 (by decide +kernel) (by decide +kernel)), ⟨(kwm 802 (by decide +kernel) (by decide +kernel)), (kwm 803 (by decide +kernel) (by decide +kernel))⟩, (kwm 135 (by decide +kernel) (by decide +kernel)), kwm 804 (by decide +kernel) (by decide +kernel)⟩
theorem kh_X8_lookedCount : yX8_lookedCount.cls ≠ "java/lang/invoke/MethodHandle" ∧ yX8_lookedCount.cls ≠ "java/lang/invoke/VarHandle" ∧ (parseMethodDescriptor yX8_lookedCount.desc).map (fun d => d.parameters.length) = some 0 := by decide +kernel
theorem kc_RX11_173 : Cond.methodLink RX11 173 yX11_keptCount ∈ ktG ∧ (Cond.instanceMethod yX11_keptCount ∈ ktG ∧ Cond.selects yX11_keptCount.cls yX11_keptCount yX11_keptCount ∈ ktG) ∧ Cond.initialized yX11_keptCount.cls ∈ ktG ∧ Cond.code yX11_keptCount cX11_keptCount 1 (some .int) ∈ ktG := ⟨(kwm 805 (by decide +kernel) (by decide +kernel)), ⟨(kwm 807 (by decide +kernel) (by decide +kernel)), (kwm 18 (by decide +kernel) (by decide +kernel))⟩, (kwm 123 (by decide +kernel) (by decide +kernel)), kwm 808 (by decide +kernel) (by decide +kernel)⟩
theorem kh_X11_keptCount : yX11_keptCount.cls ≠ "java/lang/invoke/MethodHandle" ∧ yX11_keptCount.cls ≠ "java/lang/invoke/VarHandle" ∧ (parseMethodDescriptor yX11_keptCount.desc).map (fun d => d.parameters.length) = some 0 := by decide +kernel
theorem kl_RX11_99 : KLk RX11 99 11 13 := ⟨RX11, TX11, 18, rfl, by decide, Or.inl (kwm 541 (by decide +kernel) (by decide +kernel))⟩
theorem kl_RX11_77 : KLk RX11 77 11 9 := ⟨RX11, TX11, 18, rfl, by decide, Or.inl (kwm 537 (by decide +kernel) (by decide +kernel))⟩
theorem kl_RX11_136 : KLk RX11 136 5 3 := ⟨RX5, TX5, 4, rfl, by decide, Or.inr (by decide +kernel)⟩
def f_X11_has (h : KH) (v0 : Nat) (v1 : Int32) : Option (Int32) :=
  if v1 = (0 : Int32) then
  if kkind v0 = 11 then if (kR h v0 5) < 999999 then if kkind (kR h v0 5) = 2 then some (kI h (kR h v0 5) 3) else none else none else none
  else if v1 = (1 : Int32) then
  if kkind v0 = 11 then if (kR h v0 5) < 999999 then if kkind (kR h v0 5) = 2 then some (kI h (kR h v0 5) 4) else none else none else none
  else if v1 = (2 : Int32) then
  if kkind v0 = 11 then if (kR h v0 5) < 999999 then if kkind (kR h v0 5) = 2 then some (kI h (kR h v0 5) 5) else none else none else none
  else if v1 = (3 : Int32) then
  if kkind v0 = 11 then if (kR h v0 5) < 999999 then if kkind (kR h v0 5) = 2 then some (kI h (kR h v0 5) 6) else none else none else none
  else if v1 = (4 : Int32) then
  if kkind v0 = 11 then if (kR h v0 7) < 999999 then if kkind (kR h v0 7) = 8 then some (kI h (kR h v0 7) 0) else none else none else none
  else if v1 = (5 : Int32) then
  if kkind v0 = 11 then if (kR h v0 7) < 999999 then if kkind (kR h v0 7) = 8 then some (kI h (kR h v0 7) 1) else none else none else none
  else if v1 = (6 : Int32) then
  if kkind v0 = 11 then if (kR h v0 7) < 999999 then if kkind (kR h v0 7) = 8 then kb (f_X8_heardBits h (kR h v0 7)) fun r29 =>
  kb (f_J6_bitCount_0f7a4 h r29) fun r32 =>
  some r32 else none else none else none
  else if v1 = (7 : Int32) then
  if kkind v0 = 11 then if (kR h v0 7) < 999999 then if kkind (kR h v0 7) = 8 then kb (f_X8_lookedCount h (kR h v0 7)) fun r39 =>
  some r39 else none else none else none
  else if v1 = (8 : Int32) then
  if kkind v0 = 11 then kb (f_X11_keptCount h v0) fun r44 =>
  some r44 else none
  else if v1 = (9 : Int32) then
  if kkind v0 = 11 then some (kI h v0 13) else none
  else if v1 = (10 : Int32) then
  if kkind v0 = 11 then if (kR h v0 9) < 999999 then if kkind (kR h v0 9) = 5 then some (kI h (kR h v0 9) 3) else none else none else none
  else 
  some (-1 : Int32)
set_option maxHeartbeats 4000000 in
set_option maxRecDepth 100000 in
theorem s0_X11_has {Z : Nat → (Nat → Nat) → State → Prop} (h : KH) (v0 : Nat) (v1 : Int32) {t : Int32} (hn : h.1 = 243) (H : f_X11_has h v0 v1 = some t) : KX Z RX11 cX11_has 2 false 3 (KRi cX11_has t h) 0 [(0, .ref v0), (1, .int v1)] [] h := by
  unfold f_X11_has at H
  refine x_iload_n (q := 1) dX11_has_0 rfl rfl ?_
  replace H := kite H; rcases H with ⟨g1, H⟩ | ⟨g1, H⟩
  · refine x_tableIn (v := (0 : Int32)) (off := 59) dX11_has_1 g1 (by decide) (q := 60) (by decide) ?_
    refine x_aload_n (q := 61) dX11_has_60 rfl rfl ?_
    replace H := kif H; obtain ⟨g2, H⟩ := H
    replace H := kif H; obtain ⟨g3, H⟩ := H
    refine x_getR (q := 64) dX11_has_61 rfl kl_RX11_57 rfl (k243 g2 (by decide) hn) g3 ?_
    replace H := kif H; obtain ⟨g4, H⟩ := H
    refine x_getI (q := 67) dX11_has_64 rfl kl_RX11_143 (Or.inl rfl) (k243 g4 (by decide) hn) ?_
    cases H
    exact x_end ⟨dX11_has_67, rfl, rfl⟩
  replace H := kite H; rcases H with ⟨g5, H⟩ | ⟨g5, H⟩
  · refine x_tableIn (v := (1 : Int32)) (off := 67) dX11_has_1 g5 (by decide) (q := 68) (by decide) ?_
    refine x_aload_n (q := 69) dX11_has_68 rfl rfl ?_
    replace H := kif H; obtain ⟨g6, H⟩ := H
    replace H := kif H; obtain ⟨g7, H⟩ := H
    refine x_getR (q := 72) dX11_has_69 rfl kl_RX11_57 rfl (k243 g6 (by decide) hn) g7 ?_
    replace H := kif H; obtain ⟨g8, H⟩ := H
    refine x_getI (q := 75) dX11_has_72 rfl kl_RX11_146 (Or.inl rfl) (k243 g8 (by decide) hn) ?_
    cases H
    exact x_end ⟨dX11_has_75, rfl, rfl⟩
  replace H := kite H; rcases H with ⟨g9, H⟩ | ⟨g9, H⟩
  · refine x_tableIn (v := (2 : Int32)) (off := 75) dX11_has_1 g9 (by decide) (q := 76) (by decide) ?_
    refine x_aload_n (q := 77) dX11_has_76 rfl rfl ?_
    replace H := kif H; obtain ⟨g10, H⟩ := H
    replace H := kif H; obtain ⟨g11, H⟩ := H
    refine x_getR (q := 80) dX11_has_77 rfl kl_RX11_57 rfl (k243 g10 (by decide) hn) g11 ?_
    replace H := kif H; obtain ⟨g12, H⟩ := H
    refine x_getI (q := 83) dX11_has_80 rfl kl_RX11_149 (Or.inl rfl) (k243 g12 (by decide) hn) ?_
    cases H
    exact x_end ⟨dX11_has_83, rfl, rfl⟩
  replace H := kite H; rcases H with ⟨g13, H⟩ | ⟨g13, H⟩
  · refine x_tableIn (v := (3 : Int32)) (off := 83) dX11_has_1 g13 (by decide) (q := 84) (by decide) ?_
    refine x_aload_n (q := 85) dX11_has_84 rfl rfl ?_
    replace H := kif H; obtain ⟨g14, H⟩ := H
    replace H := kif H; obtain ⟨g15, H⟩ := H
    refine x_getR (q := 88) dX11_has_85 rfl kl_RX11_57 rfl (k243 g14 (by decide) hn) g15 ?_
    replace H := kif H; obtain ⟨g16, H⟩ := H
    refine x_getI (q := 91) dX11_has_88 rfl kl_RX11_152 (Or.inl rfl) (k243 g16 (by decide) hn) ?_
    cases H
    exact x_end ⟨dX11_has_91, rfl, rfl⟩
  replace H := kite H; rcases H with ⟨g17, H⟩ | ⟨g17, H⟩
  · refine x_tableIn (v := (4 : Int32)) (off := 91) dX11_has_1 g17 (by decide) (q := 92) (by decide) ?_
    refine x_aload_n (q := 93) dX11_has_92 rfl rfl ?_
    replace H := kif H; obtain ⟨g18, H⟩ := H
    replace H := kif H; obtain ⟨g19, H⟩ := H
    refine x_getR (q := 96) dX11_has_93 rfl kl_RX11_67 rfl (k243 g18 (by decide) hn) g19 ?_
    replace H := kif H; obtain ⟨g20, H⟩ := H
    refine x_getI (q := 99) dX11_has_96 rfl kl_RX11_155 (Or.inl rfl) (k243 g20 (by decide) hn) ?_
    cases H
    exact x_end ⟨dX11_has_99, rfl, rfl⟩
  replace H := kite H; rcases H with ⟨g21, H⟩ | ⟨g21, H⟩
  · refine x_tableIn (v := (5 : Int32)) (off := 99) dX11_has_1 g21 (by decide) (q := 100) (by decide) ?_
    refine x_aload_n (q := 101) dX11_has_100 rfl rfl ?_
    replace H := kif H; obtain ⟨g22, H⟩ := H
    replace H := kif H; obtain ⟨g23, H⟩ := H
    refine x_getR (q := 104) dX11_has_101 rfl kl_RX11_67 rfl (k243 g22 (by decide) hn) g23 ?_
    replace H := kif H; obtain ⟨g24, H⟩ := H
    refine x_getI (q := 107) dX11_has_104 rfl kl_RX11_158 (Or.inl rfl) (k243 g24 (by decide) hn) ?_
    cases H
    exact x_end ⟨dX11_has_107, rfl, rfl⟩
  replace H := kite H; rcases H with ⟨g25, H⟩ | ⟨g25, H⟩
  · refine x_tableIn (v := (6 : Int32)) (off := 107) dX11_has_1 g25 (by decide) (q := 108) (by decide) ?_
    refine x_aload_n (q := 109) dX11_has_108 rfl rfl ?_
    replace H := kif H; obtain ⟨g26, H⟩ := H
    replace H := kif H; obtain ⟨g27, H⟩ := H
    refine x_getR (q := 112) dX11_has_109 rfl kl_RX11_67 rfl (k243 g26 (by decide) hn) g27 ?_
    replace H := kif H; obtain ⟨g28, H⟩ := H
    replace H := kbe H; obtain ⟨r29, c30, H⟩ := H
    have m31 := s_X8_heardBits (Z := Z) h (kR h v0 7) hn c30
    refine x_callV (q := 115) (as := []) (rest := []) dX11_has_112 rfl kc_RX11_161 kh_X8_heardBits (by decide) (Nat.le_of_ble_eq_true rfl) m31 (ci := 8) (by exact ⟨rfl, by decide⟩) (k243 g28 (by decide) hn) ?_
    replace H := kbe H; obtain ⟨r32, c33, H⟩ := H
    have m34 := s_J6_bitCount_0f7a4 (Z := Z) h r29 hn c33
    refine x_callS (q := 118) (as := [.int r29]) (rest := []) dX11_has_115 rfl kc_RX11_165 kh_J6_bitCount_0f7a4 (by decide) (Nat.le_of_ble_eq_true rfl) m34 ?_
    cases H
    exact x_end ⟨dX11_has_118, rfl, rfl⟩
  replace H := kite H; rcases H with ⟨g35, H⟩ | ⟨g35, H⟩
  · refine x_tableIn (v := (7 : Int32)) (off := 118) dX11_has_1 g35 (by decide) (q := 119) (by decide) ?_
    refine x_aload_n (q := 120) dX11_has_119 rfl rfl ?_
    replace H := kif H; obtain ⟨g36, H⟩ := H
    replace H := kif H; obtain ⟨g37, H⟩ := H
    refine x_getR (q := 123) dX11_has_120 rfl kl_RX11_67 rfl (k243 g36 (by decide) hn) g37 ?_
    replace H := kif H; obtain ⟨g38, H⟩ := H
    replace H := kbe H; obtain ⟨r39, c40, H⟩ := H
    have m41 := s_X8_lookedCount (Z := Z) h (kR h v0 7) hn c40
    refine x_callV (q := 126) (as := []) (rest := []) dX11_has_123 rfl kc_RX11_170 kh_X8_lookedCount (by decide) (Nat.le_of_ble_eq_true rfl) m41 (ci := 8) (by exact ⟨rfl, by decide⟩) (k243 g38 (by decide) hn) ?_
    cases H
    exact x_end ⟨dX11_has_126, rfl, rfl⟩
  replace H := kite H; rcases H with ⟨g42, H⟩ | ⟨g42, H⟩
  · refine x_tableIn (v := (8 : Int32)) (off := 126) dX11_has_1 g42 (by decide) (q := 127) (by decide) ?_
    refine x_aload_n (q := 128) dX11_has_127 rfl rfl ?_
    replace H := kif H; obtain ⟨g43, H⟩ := H
    replace H := kbe H; obtain ⟨r44, c45, H⟩ := H
    have m46 := s_X11_keptCount (Z := Z) h v0 hn c45
    refine x_callV (q := 131) (as := []) (rest := []) dX11_has_128 rfl kc_RX11_173 kh_X11_keptCount (by decide) (Nat.le_of_ble_eq_true rfl) m46 (ci := 11) (by exact ⟨rfl, by decide⟩) (k243 g43 (by decide) hn) ?_
    cases H
    exact x_end ⟨dX11_has_131, rfl, rfl⟩
  replace H := kite H; rcases H with ⟨g47, H⟩ | ⟨g47, H⟩
  · refine x_tableIn (v := (9 : Int32)) (off := 131) dX11_has_1 g47 (by decide) (q := 132) (by decide) ?_
    refine x_aload_n (q := 133) dX11_has_132 rfl rfl ?_
    replace H := kif H; obtain ⟨g48, H⟩ := H
    refine x_getI (q := 136) dX11_has_133 rfl kl_RX11_99 (Or.inl rfl) (k243 g48 (by decide) hn) ?_
    cases H
    exact x_end ⟨dX11_has_136, rfl, rfl⟩
  replace H := kite H; rcases H with ⟨g49, H⟩ | ⟨g49, H⟩
  · refine x_tableIn (v := (10 : Int32)) (off := 136) dX11_has_1 g49 (by decide) (q := 137) (by decide) ?_
    refine x_aload_n (q := 138) dX11_has_137 rfl rfl ?_
    replace H := kif H; obtain ⟨g50, H⟩ := H
    replace H := kif H; obtain ⟨g51, H⟩ := H
    refine x_getR (q := 141) dX11_has_138 rfl kl_RX11_77 rfl (k243 g50 (by decide) hn) g51 ?_
    replace H := kif H; obtain ⟨g52, H⟩ := H
    refine x_getI (q := 144) dX11_has_141 rfl kl_RX11_136 (Or.inl rfl) (k243 g52 (by decide) hn) ?_
    cases H
    exact x_end ⟨dX11_has_144, rfl, rfl⟩
  refine x_tableOut dX11_has_1 (q := 145) (by decide) (by have z0 : v1.toInt ≠ 0 := kne g1 (by decide); have z1 : v1.toInt ≠ 1 := kne g5 (by decide); have z2 : v1.toInt ≠ 2 := kne g9 (by decide); have z3 : v1.toInt ≠ 3 := kne g13 (by decide); have z4 : v1.toInt ≠ 4 := kne g17 (by decide); have z5 : v1.toInt ≠ 5 := kne g21 (by decide); have z6 : v1.toInt ≠ 6 := kne g25 (by decide); have z7 : v1.toInt ≠ 7 := kne g35 (by decide); have z8 : v1.toInt ≠ 8 := kne g42 (by decide); have z9 : v1.toInt ≠ 9 := kne g47 (by decide); have z10 : v1.toInt ≠ 10 := kne g49 (by decide); omega) ?_
  refine x_iconst (q := 146) (v := (-1 : Int32)) dX11_has_145 rfl (by decide) ?_
  cases H
  exact x_end ⟨dX11_has_146, rfl, rfl⟩
theorem s_X11_has {Z : Nat → (Nat → Nat) → State → Prop} (h : KH) (v0 : Nat) (v1 : Int32) {t : Int32} (hn : h.1 = 243) (H : f_X11_has h v0 v1 = some t) : KM Z yX11_has cX11_has 2 (some .int) 3 [.ref v0, .int v1] h (some (.int t)) h :=
  kx_i (own := RX11) (ini := false) (by decide +kernel) (by decide +kernel) rfl (Nat.le_of_ble_eq_true rfl) (s0_X11_has h v0 v1 hn H)
theorem dX11_letter_0 : decode cX11_letter 0 = .ok (.aload_n 0, 1) := by decide +kernel
theorem dX11_letter_1 : decode cX11_letter 1 = .ok (.getfield 57, 3) := by decide +kernel
theorem dX11_letter_4 : decode cX11_letter 4 = .ok (.iload_n 1, 1) := by decide +kernel
theorem dX11_letter_5 : decode cX11_letter 5 = .ok (.iload_n 2, 1) := by decide +kernel
theorem dX11_letter_6 : decode cX11_letter 6 = .ok (.invokevirtual 176, 3) := by decide +kernel
theorem dX11_letter_9 : decode cX11_letter 9 = .ok (.istore 4, 2) := by decide +kernel
theorem dX11_letter_11 : decode cX11_letter 11 = .ok (.iload 4, 2) := by decide +kernel
theorem dX11_letter_13 : decode cX11_letter 13 = .ok (.iconst (-1), 1) := by decide +kernel
theorem dX11_letter_14 : decode cX11_letter 14 = .ok (.if_icmp .eq 13, 3) := by decide +kernel
theorem dX11_letter_17 : decode cX11_letter 17 = .ok (.iload_n 3, 1) := by decide +kernel
theorem dX11_letter_18 : decode cX11_letter 18 = .ok (.ifCond .lt 9, 3) := by decide +kernel
theorem dX11_letter_21 : decode cX11_letter 21 = .ok (.iload_n 3, 1) := by decide +kernel
theorem dX11_letter_22 : decode cX11_letter 22 = .ok (.bipush 6, 2) := by decide +kernel
theorem dX11_letter_24 : decode cX11_letter 24 = .ok (.if_icmp .lt 5, 3) := by decide +kernel
theorem dX11_letter_27 : decode cX11_letter 27 = .ok (.iconst (-1), 1) := by decide +kernel
theorem dX11_letter_28 : decode cX11_letter 28 = .ok (.ireturn, 1) := by decide +kernel
theorem dX11_letter_29 : decode cX11_letter 29 = .ok (.iload_n 3, 1) := by decide +kernel
theorem dX11_letter_30 : decode cX11_letter 30 = .ok (.iconst 1, 1) := by decide +kernel
theorem dX11_letter_31 : decode cX11_letter 31 = .ok (.iadd, 1) := by decide +kernel
theorem dX11_letter_32 : decode cX11_letter 32 = .ok (.istore 5, 2) := by decide +kernel
theorem dX11_letter_34 : decode cX11_letter 34 = .ok (.iload 5, 2) := by decide +kernel
theorem dX11_letter_36 : decode cX11_letter 36 = .ok (.bipush 6, 2) := by decide +kernel
theorem dX11_letter_38 : decode cX11_letter 38 = .ok (.if_icmp .ge 16, 3) := by decide +kernel
theorem dX11_letter_41 : decode cX11_letter 41 = .ok (.iload 4, 2) := by decide +kernel
theorem dX11_letter_43 : decode cX11_letter 43 = .ok (.bipush 27, 2) := by decide +kernel
theorem dX11_letter_45 : decode cX11_letter 45 = .ok (.idiv, 1) := by decide +kernel
theorem dX11_letter_46 : decode cX11_letter 46 = .ok (.istore 4, 2) := by decide +kernel
theorem dX11_letter_48 : decode cX11_letter 48 = .ok (.iinc 5 1, 3) := by decide +kernel
theorem dX11_letter_51 : decode cX11_letter 51 = .ok (.goto (-17), 3) := by decide +kernel
theorem dX11_letter_54 : decode cX11_letter 54 = .ok (.iload 4, 2) := by decide +kernel
theorem dX11_letter_56 : decode cX11_letter 56 = .ok (.bipush 27, 2) := by decide +kernel
theorem dX11_letter_58 : decode cX11_letter 58 = .ok (.irem, 1) := by decide +kernel
theorem dX11_letter_59 : decode cX11_letter 59 = .ok (.ireturn, 1) := by decide +kernel
theorem kc_RX11_176 : Cond.methodLink RX11 176 yX2_nameOf ∈ ktG ∧ (Cond.instanceMethod yX2_nameOf ∈ ktG ∧ Cond.selects yX2_nameOf.cls yX2_nameOf yX2_nameOf ∈ ktG) ∧ Cond.initialized yX2_nameOf.cls ∈ ktG ∧ Cond.code yX2_nameOf cX2_nameOf 3 (some .int) ∈ ktG := ⟨(kwm 816 (by decide +kernel) (by decide +kernel)), ⟨(kwm 675 (by decide +kernel) (by decide +kernel)), (kwm 676 (by decide +kernel) (by decide +kernel))⟩, (kwm 134 (by decide +kernel) (by decide +kernel)), kwm 677 (by decide +kernel) (by decide +kernel)⟩
def E_X11_letter_l34 (h : KH) : Int32 → Nat → List (Nat × Value) → List Value → KH → Prop := fun (e : Int32) pc ls st hh => pc = 54 ∧ ls = [(4, .int e)] ∧ st = [] ∧ h = hh
def B_X11_letter_l34 (h : KH) : ((Int32 × Int32) ⊕ (Int32)) → Nat → List (Nat × Value) → List Value → KH → Prop := Sum.elim (fun (s : Int32 × Int32) pc ls st hh => pc = 34 ∧ ls = [(4, .int s.1), (5, .int s.2)] ∧ st = [] ∧ hh = h) (E_X11_letter_l34 h)
def f_X11_letter_l34 (h : KH) (s : Int32 × Int32) : Option ((Int32 × Int32) ⊕ (Int32)) :=
  if (6 : Int32) ≤ s.2 then
  some (.inr s.1)
  else
  kl (s.1 / (27 : Int32)) fun x2 =>
  kl (s.2 + (1 : Int32)) fun x4 =>
  some (.inl (x2, x4))
set_option maxHeartbeats 4000000 in
set_option maxRecDepth 100000 in
theorem s_X11_letter_l34 {Z : Nat → (Nat → Nat) → State → Prop} (h : KH) (s : Int32 × Int32) (t : (Int32 × Int32) ⊕ (Int32)) (hn : (h).1 = 243) (H : f_X11_letter_l34 h s = some t) : KX Z RX11 cX11_letter 6 false 3 (B_X11_letter_l34 h t) 34 [(4, .int s.1), (5, .int s.2)] [] h := by
  unfold f_X11_letter_l34 at H
  refine x_iload (q := 36) dX11_letter_34 rfl rfl ?_
  refine x_bipush (q := 38) (v := (6 : Int32)) dX11_letter_36 rfl (by decide) ?_
  replace H := kite H; rcases H with ⟨g1, H⟩ | ⟨g1, H⟩
  · refine x_icmp_ge_t dX11_letter_38 (q := 54) (by decide) g1 ?_
    cases H
    refine x_sub (ls2 := [(4, .int s.1)]) [0] rfl ?_
    exact x_end (x_cfg rfl)
  · refine x_icmp_ge_f (q := 41) dX11_letter_38 (t := 54) (by decide) rfl g1 ?_
    refine x_iload (q := 43) dX11_letter_41 rfl rfl ?_
    refine x_bipush (q := 45) (v := (27 : Int32)) dX11_letter_43 rfl (by decide) ?_
    refine x_idiv (q := 46) dX11_letter_45 rfl (by decide) ?_
    replace H := kle H; obtain ⟨x2, q3, H⟩ := H
    refine x_nmI q3 ?_
    refine x_istore (q := 48) (i := 4) (ls2 := [(4, .int x2), (5, .int s.2)]) dX11_letter_46 rfl (by decide) rfl ?_
    replace H := kle H; obtain ⟨x4, q5, H⟩ := H
    refine x_iinc (q := 51) (i := 5) (ls2 := [(5, .int x4), (4, .int x2)]) dX11_letter_48 rfl rfl (by decide) (by rw [q5]; rfl) ?_
    refine x_goto dX11_letter_51 (q := 34) (by decide) ?_
    cases H
    refine x_sub (ls2 := [(4, .int x2), (5, .int x4)]) [1, 0] rfl ?_
    exact x_end (x_cfg rfl)
theorem sl_X11_letter_l34 {Z : Nat → (Nat → Nat) → State → Prop} (h : KH) (n : Nat) (s : Int32 × Int32) (r : Int32) (hn : (h).1 = 243) (H : kloop (f_X11_letter_l34 h) n s = some r) : KX Z RX11 cX11_letter 6 false 3 (E_X11_letter_l34 h r) 34 [(4, .int s.1), (5, .int s.2)] [] h :=
  k_loop (ls := (fun (s : Int32 × Int32) => ([(4, .int s.1), (5, .int s.2)] : List (Nat × Value)))) (hp := (fun (s : Int32 × Int32) => (h : KH))) (G := E_X11_letter_l34 h) (fun s t hn H => s_X11_letter_l34 h s t hn H) n s r hn H
def f_X11_letter (h : KH) (v0 : Nat) (v1 : Int32) (v2 : Int32) (v3 : Int32) : Option (Int32) :=
  if kkind v0 = 11 then if (kR h v0 5) < 999999 then if kkind (kR h v0 5) = 2 then kb (f_X2_nameOf h (kR h v0 5) v1 v2) fun r4 =>
  if r4 = (-1 : Int32) then
  some (-1 : Int32)
  else
  if v3 < 0 then
  some (-1 : Int32)
  else
  if v3 < (6 : Int32) then
  kl (v3 + (1 : Int32)) fun x10 =>
  kb (kloop (f_X11_letter_l34 h) KF (r4, x10)) fun e12 =>
  some (e12 - e12 / (27 : Int32) * (27 : Int32))
  else
  some (-1 : Int32) else none else none else none
set_option maxHeartbeats 4000000 in
set_option maxRecDepth 100000 in
theorem s0_X11_letter {Z : Nat → (Nat → Nat) → State → Prop} (h : KH) (v0 : Nat) (v1 : Int32) (v2 : Int32) (v3 : Int32) {t : Int32} (hn : h.1 = 243) (H : f_X11_letter h v0 v1 v2 v3 = some t) : KX Z RX11 cX11_letter 6 false 3 (KRi cX11_letter t h) 0 [(0, .ref v0), (1, .int v1), (2, .int v2), (3, .int v3)] [] h := by
  unfold f_X11_letter at H
  refine x_aload_n (q := 1) dX11_letter_0 rfl rfl ?_
  replace H := kif H; obtain ⟨g1, H⟩ := H
  replace H := kif H; obtain ⟨g2, H⟩ := H
  refine x_getR (q := 4) dX11_letter_1 rfl kl_RX11_57 rfl (k243 g1 (by decide) hn) g2 ?_
  refine x_iload_n (q := 5) dX11_letter_4 rfl rfl ?_
  refine x_iload_n (q := 6) dX11_letter_5 rfl rfl ?_
  replace H := kif H; obtain ⟨g3, H⟩ := H
  replace H := kbe H; obtain ⟨r4, c5, H⟩ := H
  have m6 := s_X2_nameOf (Z := Z) h (kR h v0 5) v1 v2 hn c5
  refine x_callV (q := 9) (as := [.int v1, .int v2]) (rest := []) dX11_letter_6 rfl kc_RX11_176 kh_X2_nameOf (by decide) (Nat.le_of_ble_eq_true rfl) m6 (ci := 2) (by exact ⟨rfl, by decide⟩) (k243 g3 (by decide) hn) ?_
  refine x_istore (q := 11) (i := 4) (ls2 := [(4, .int r4), (0, .ref v0), (1, .int v1), (2, .int v2), (3, .int v3)]) dX11_letter_9 rfl (by decide) rfl ?_
  refine x_iload (q := 13) dX11_letter_11 rfl rfl ?_
  refine x_iconst (q := 14) (v := (-1 : Int32)) dX11_letter_13 rfl (by decide) ?_
  replace H := kite H; rcases H with ⟨g7, H⟩ | ⟨g7, H⟩
  · refine x_icmp_eq_t dX11_letter_14 (q := 27) (by decide) g7 ?_
    refine x_iconst (q := 28) (v := (-1 : Int32)) dX11_letter_27 rfl (by decide) ?_
    cases H
    exact x_end ⟨dX11_letter_28, rfl, rfl⟩
  · refine x_icmp_eq_f (q := 17) dX11_letter_14 (t := 27) (by decide) rfl g7 ?_
    refine x_iload_n (q := 18) dX11_letter_17 rfl rfl ?_
    replace H := kite H; rcases H with ⟨g8, H⟩ | ⟨g8, H⟩
    · refine x_if_lt_t dX11_letter_18 (q := 27) (by decide) g8 ?_
      refine x_iconst (q := 28) (v := (-1 : Int32)) dX11_letter_27 rfl (by decide) ?_
      cases H
      exact x_end ⟨dX11_letter_28, rfl, rfl⟩
    · refine x_if_lt_f (q := 21) dX11_letter_18 (t := 27) (by decide) rfl g8 ?_
      refine x_iload_n (q := 22) dX11_letter_21 rfl rfl ?_
      refine x_bipush (q := 24) (v := (6 : Int32)) dX11_letter_22 rfl (by decide) ?_
      replace H := kite H; rcases H with ⟨g9, H⟩ | ⟨g9, H⟩
      · refine x_icmp_lt_t dX11_letter_24 (q := 29) (by decide) g9 ?_
        refine x_iload_n (q := 30) dX11_letter_29 rfl rfl ?_
        refine x_iconst (q := 31) (v := (1 : Int32)) dX11_letter_30 rfl (by decide) ?_
        refine x_iadd (q := 32) dX11_letter_31 rfl ?_
        replace H := kle H; obtain ⟨x10, q11, H⟩ := H
        refine x_nmI q11 ?_
        refine x_istore (q := 34) (i := 5) (ls2 := [(5, .int x10), (4, .int r4), (0, .ref v0), (1, .int v1), (2, .int v2), (3, .int v3)]) dX11_letter_32 rfl (by decide) rfl ?_
        refine x_sub (ls2 := [(4, .int r4), (5, .int x10)]) [1, 0] rfl ?_
        replace H := kbe H; obtain ⟨e12, c13, H⟩ := H
        refine x_app (sl_X11_letter_l34 h KF (r4, x10) e12 hn c13) fun pc2 ls2 st2 h2 hg m14 => ?_
        obtain ⟨rfl, rfl, rfl, rfl⟩ := hg
        refine x_iload (q := 56) dX11_letter_54 rfl rfl ?_
        refine x_bipush (q := 58) (v := (27 : Int32)) dX11_letter_56 rfl (by decide) ?_
        refine x_irem (q := 59) dX11_letter_58 rfl (by decide) ?_
        cases H
        exact x_end ⟨dX11_letter_59, rfl, rfl⟩
      · refine x_icmp_lt_f (q := 27) dX11_letter_24 (t := 29) (by decide) rfl g9 ?_
        refine x_iconst (q := 28) (v := (-1 : Int32)) dX11_letter_27 rfl (by decide) ?_
        cases H
        exact x_end ⟨dX11_letter_28, rfl, rfl⟩
theorem s_X11_letter {Z : Nat → (Nat → Nat) → State → Prop} (h : KH) (v0 : Nat) (v1 : Int32) (v2 : Int32) (v3 : Int32) {t : Int32} (hn : h.1 = 243) (H : f_X11_letter h v0 v1 v2 v3 = some t) : KM Z yX11_letter cX11_letter 6 (some .int) 3 [.ref v0, .int v1, .int v2, .int v3] h (some (.int t)) h :=
  kx_i (own := RX11) (ini := false) (by decide +kernel) (by decide +kernel) rfl (Nat.le_of_ble_eq_true rfl) (s0_X11_letter h v0 v1 v2 v3 hn H)
theorem dX11_isKind_0 : decode cX11_isKind 0 = .ok (.iload_n 1, 1) := by decide +kernel
theorem dX11_isKind_1 : decode cX11_isKind 1 = .ok (.ifCond .lt 18, 3) := by decide +kernel
theorem dX11_isKind_4 : decode cX11_isKind 4 = .ok (.iload_n 1, 1) := by decide +kernel
theorem dX11_isKind_5 : decode cX11_isKind 5 = .ok (.aload_n 0, 1) := by decide +kernel
theorem dX11_isKind_6 : decode cX11_isKind 6 = .ok (.getfield 57, 3) := by decide +kernel
theorem dX11_isKind_9 : decode cX11_isKind 9 = .ok (.getfield 143, 3) := by decide +kernel
theorem dX11_isKind_12 : decode cX11_isKind 12 = .ok (.if_icmp .ge 7, 3) := by decide +kernel
theorem dX11_isKind_15 : decode cX11_isKind 15 = .ok (.iconst 1, 1) := by decide +kernel
theorem dX11_isKind_16 : decode cX11_isKind 16 = .ok (.goto 4, 3) := by decide +kernel
theorem dX11_isKind_19 : decode cX11_isKind 19 = .ok (.iconst 0, 1) := by decide +kernel
theorem dX11_isKind_20 : decode cX11_isKind 20 = .ok (.ireturn, 1) := by decide +kernel
def f_X11_isKind (h : KH) (v0 : Nat) (v1 : Int32) : Option (Int32) :=
  if v1 < 0 then
  some (0 : Int32)
  else
  if kkind v0 = 11 then if (kR h v0 5) < 999999 then if kkind (kR h v0 5) = 2 then if (kI h (kR h v0 5) 3) ≤ v1 then
  some (0 : Int32)
  else
  some (1 : Int32) else none else none else none
set_option maxHeartbeats 4000000 in
set_option maxRecDepth 100000 in
theorem s0_X11_isKind {Z : Nat → (Nat → Nat) → State → Prop} (h : KH) (v0 : Nat) (v1 : Int32) {t : Int32} (hn : h.1 = 243) (H : f_X11_isKind h v0 v1 = some t) : KX Z RX11 cX11_isKind 2 false 1 (KRz cX11_isKind t h) 0 [(0, .ref v0), (1, .int v1)] [] h := by
  unfold f_X11_isKind at H
  refine x_iload_n (q := 1) dX11_isKind_0 rfl rfl ?_
  replace H := kite H; rcases H with ⟨g1, H⟩ | ⟨g1, H⟩
  · refine x_if_lt_t dX11_isKind_1 (q := 19) (by decide) g1 ?_
    refine x_iconst (q := 20) (v := (0 : Int32)) dX11_isKind_19 rfl (by decide) ?_
    cases H
    exact x_end ⟨(Or.inl rfl), dX11_isKind_20, rfl, rfl⟩
  · refine x_if_lt_f (q := 4) dX11_isKind_1 (t := 19) (by decide) rfl g1 ?_
    refine x_iload_n (q := 5) dX11_isKind_4 rfl rfl ?_
    refine x_aload_n (q := 6) dX11_isKind_5 rfl rfl ?_
    replace H := kif H; obtain ⟨g2, H⟩ := H
    replace H := kif H; obtain ⟨g3, H⟩ := H
    refine x_getR (q := 9) dX11_isKind_6 rfl kl_RX11_57 rfl (k243 g2 (by decide) hn) g3 ?_
    replace H := kif H; obtain ⟨g4, H⟩ := H
    refine x_getI (q := 12) dX11_isKind_9 rfl kl_RX11_143 (Or.inl rfl) (k243 g4 (by decide) hn) ?_
    replace H := kite H; rcases H with ⟨g5, H⟩ | ⟨g5, H⟩
    · refine x_icmp_ge_t dX11_isKind_12 (q := 19) (by decide) g5 ?_
      refine x_iconst (q := 20) (v := (0 : Int32)) dX11_isKind_19 rfl (by decide) ?_
      cases H
      exact x_end ⟨(Or.inl rfl), dX11_isKind_20, rfl, rfl⟩
    · refine x_icmp_ge_f (q := 15) dX11_isKind_12 (t := 19) (by decide) rfl g5 ?_
      refine x_iconst (q := 16) (v := (1 : Int32)) dX11_isKind_15 rfl (by decide) ?_
      refine x_goto dX11_isKind_16 (q := 20) (by decide) ?_
      cases H
      exact x_end ⟨(Or.inr rfl), dX11_isKind_20, rfl, rfl⟩
theorem s_X11_isKind {Z : Nat → (Nat → Nat) → State → Prop} (h : KH) (v0 : Nat) (v1 : Int32) {t : Int32} (hn : h.1 = 243) (H : f_X11_isKind h v0 v1 = some t) : KM Z yX11_isKind cX11_isKind 2 (some .boolean) 1 [.ref v0, .int v1] h (some (.int t)) h :=
  kx_z (own := RX11) (ini := false) (by decide +kernel) (by decide +kernel) rfl (Nat.le_of_ble_eq_true rfl) (s0_X11_isKind h v0 v1 hn H)
theorem dX11_kind_0 : decode cX11_kind 0 = .ok (.aload_n 0, 1) := by decide +kernel
theorem dX11_kind_1 : decode cX11_kind 1 = .ok (.iload_n 1, 1) := by decide +kernel
theorem dX11_kind_2 : decode cX11_kind 2 = .ok (.invokevirtual 180, 3) := by decide +kernel
theorem dX11_kind_5 : decode cX11_kind 5 = .ok (.ifCond .eq 28, 3) := by decide +kernel
theorem dX11_kind_8 : decode cX11_kind 8 = .ok (.iload_n 2, 1) := by decide +kernel
theorem dX11_kind_9 : decode cX11_kind 9 = .ok (.ifCond .lt 24, 3) := by decide +kernel
theorem dX11_kind_12 : decode cX11_kind 12 = .ok (.iload_n 2, 1) := by decide +kernel
theorem dX11_kind_13 : decode cX11_kind 13 = .ok (.iconst 3, 1) := by decide +kernel
theorem dX11_kind_14 : decode cX11_kind 14 = .ok (.if_icmp .gt 19, 3) := by decide +kernel
theorem dX11_kind_17 : decode cX11_kind 17 = .ok (.aload_n 0, 1) := by decide +kernel
theorem dX11_kind_18 : decode cX11_kind 18 = .ok (.getfield 57, 3) := by decide +kernel
theorem dX11_kind_21 : decode cX11_kind 21 = .ok (.getfield 184, 3) := by decide +kernel
theorem dX11_kind_24 : decode cX11_kind 24 = .ok (.iload_n 1, 1) := by decide +kernel
theorem dX11_kind_25 : decode cX11_kind 25 = .ok (.aaload, 1) := by decide +kernel
theorem dX11_kind_26 : decode cX11_kind 26 = .ok (.iload_n 2, 1) := by decide +kernel
theorem dX11_kind_27 : decode cX11_kind 27 = .ok (.iconst 1, 1) := by decide +kernel
theorem dX11_kind_28 : decode cX11_kind 28 = .ok (.iadd, 1) := by decide +kernel
theorem dX11_kind_29 : decode cX11_kind 29 = .ok (.iaload, 1) := by decide +kernel
theorem dX11_kind_30 : decode cX11_kind 30 = .ok (.goto 4, 3) := by decide +kernel
theorem dX11_kind_33 : decode cX11_kind 33 = .ok (.iconst (-1), 1) := by decide +kernel
theorem dX11_kind_34 : decode cX11_kind 34 = .ok (.ireturn, 1) := by decide +kernel
theorem kc_RX11_180 : Cond.methodLink RX11 180 yX11_isKind ∈ ktG ∧ (Cond.instanceMethod yX11_isKind ∈ ktG ∧ Cond.selects yX11_isKind.cls yX11_isKind yX11_isKind ∈ ktG) ∧ Cond.initialized yX11_isKind.cls ∈ ktG ∧ Cond.code yX11_isKind cX11_isKind 2 (some .boolean) ∈ ktG := ⟨(kwm 821 (by decide +kernel) (by decide +kernel)), ⟨(kwm 823 (by decide +kernel) (by decide +kernel)), (kwm 19 (by decide +kernel) (by decide +kernel))⟩, (kwm 123 (by decide +kernel) (by decide +kernel)), kwm 824 (by decide +kernel) (by decide +kernel)⟩
theorem kh_X11_isKind : yX11_isKind.cls ≠ "java/lang/invoke/MethodHandle" ∧ yX11_isKind.cls ≠ "java/lang/invoke/VarHandle" ∧ (parseMethodDescriptor yX11_isKind.desc).map (fun d => d.parameters.length) = some 1 := by decide +kernel
theorem kl_RX11_184 : KLk RX11 184 2 0 := ⟨RX2, TX2, 12, rfl, by decide, Or.inr (by decide +kernel)⟩
def f_X11_kind (h : KH) (v0 : Nat) (v1 : Int32) (v2 : Int32) : Option (Int32) :=
  if kkind v0 = 11 then kb (f_X11_isKind h v0 v1) fun r2 =>
  if r2 = 0 then
  some (-1 : Int32)
  else
  if v2 < 0 then
  some (-1 : Int32)
  else
  if (3 : Int32) < v2 then
  some (-1 : Int32)
  else
  if (kR h v0 5) < 999999 then if kkind (kR h v0 5) = 2 then if (kR h (kR h v0 5) 0) < 999999 then if kkind (kR h (kR h v0 5) 0) = 24 then if (v1 < 0 ∨ klen (kR h (kR h v0 5) 0) ≤ (v1).toNatClampNeg) then none else if (kR h (kR h (kR h v0 5) 0) ((v1).toNatClampNeg)) < 999999 then if kkind (kR h (kR h (kR h v0 5) 0) ((v1).toNatClampNeg)) = 20 then if ((v2 + (1 : Int32)) < 0 ∨ klen (kR h (kR h (kR h v0 5) 0) ((v1).toNatClampNeg)) ≤ ((v2 + (1 : Int32))).toNatClampNeg) then none else some (kI h (kR h (kR h (kR h v0 5) 0) ((v1).toNatClampNeg)) (((v2 + (1 : Int32))).toNatClampNeg)) else none else none else none else none else none else none else none
set_option maxHeartbeats 4000000 in
set_option maxRecDepth 100000 in
theorem s0_X11_kind {Z : Nat → (Nat → Nat) → State → Prop} (h : KH) (v0 : Nat) (v1 : Int32) (v2 : Int32) {t : Int32} (hn : h.1 = 243) (H : f_X11_kind h v0 v1 v2 = some t) : KX Z RX11 cX11_kind 3 false 2 (KRi cX11_kind t h) 0 [(0, .ref v0), (1, .int v1), (2, .int v2)] [] h := by
  unfold f_X11_kind at H
  refine x_aload_n (q := 1) dX11_kind_0 rfl rfl ?_
  refine x_iload_n (q := 2) dX11_kind_1 rfl rfl ?_
  replace H := kif H; obtain ⟨g1, H⟩ := H
  replace H := kbe H; obtain ⟨r2, c3, H⟩ := H
  have m4 := s_X11_isKind (Z := Z) h v0 v1 hn c3
  refine x_callV (q := 5) (as := [.int v1]) (rest := []) dX11_kind_2 rfl kc_RX11_180 kh_X11_isKind (by decide) (Nat.le_of_ble_eq_true rfl) m4 (ci := 11) (by exact ⟨rfl, by decide⟩) (k243 g1 (by decide) hn) ?_
  replace H := kite H; rcases H with ⟨g5, H⟩ | ⟨g5, H⟩
  · refine x_if_eq_t dX11_kind_5 (q := 33) (by decide) g5 ?_
    refine x_iconst (q := 34) (v := (-1 : Int32)) dX11_kind_33 rfl (by decide) ?_
    cases H
    exact x_end ⟨dX11_kind_34, rfl, rfl⟩
  · refine x_if_eq_f (q := 8) dX11_kind_5 (t := 33) (by decide) rfl g5 ?_
    refine x_iload_n (q := 9) dX11_kind_8 rfl rfl ?_
    replace H := kite H; rcases H with ⟨g6, H⟩ | ⟨g6, H⟩
    · refine x_if_lt_t dX11_kind_9 (q := 33) (by decide) g6 ?_
      refine x_iconst (q := 34) (v := (-1 : Int32)) dX11_kind_33 rfl (by decide) ?_
      cases H
      exact x_end ⟨dX11_kind_34, rfl, rfl⟩
    · refine x_if_lt_f (q := 12) dX11_kind_9 (t := 33) (by decide) rfl g6 ?_
      refine x_iload_n (q := 13) dX11_kind_12 rfl rfl ?_
      refine x_iconst (q := 14) (v := (3 : Int32)) dX11_kind_13 rfl (by decide) ?_
      replace H := kite H; rcases H with ⟨g7, H⟩ | ⟨g7, H⟩
      · refine x_icmp_gt_t dX11_kind_14 (q := 33) (by decide) g7 ?_
        refine x_iconst (q := 34) (v := (-1 : Int32)) dX11_kind_33 rfl (by decide) ?_
        cases H
        exact x_end ⟨dX11_kind_34, rfl, rfl⟩
      · refine x_icmp_gt_f (q := 17) dX11_kind_14 (t := 33) (by decide) rfl g7 ?_
        refine x_aload_n (q := 18) dX11_kind_17 rfl rfl ?_
        replace H := kif H; obtain ⟨g8, H⟩ := H
        refine x_getR (q := 21) dX11_kind_18 rfl kl_RX11_57 rfl (k243 g1 (by decide) hn) g8 ?_
        replace H := kif H; obtain ⟨g9, H⟩ := H
        replace H := kif H; obtain ⟨g10, H⟩ := H
        refine x_getR (q := 24) dX11_kind_21 rfl kl_RX11_184 rfl (k243 g9 (by decide) hn) g10 ?_
        refine x_iload_n (q := 25) dX11_kind_24 rfl rfl ?_
        replace H := kif H; obtain ⟨g11, H⟩ := H
        replace H := kifn H; obtain ⟨g12, H⟩ := H
        replace H := kif H; obtain ⟨g13, H⟩ := H
        refine x_aald (q := 26) dX11_kind_25 rfl (Or.inl rfl) (k243 g11 (by decide) hn) g12 g13 ?_
        refine x_iload_n (q := 27) dX11_kind_26 rfl rfl ?_
        refine x_iconst (q := 28) (v := (1 : Int32)) dX11_kind_27 rfl (by decide) ?_
        refine x_iadd (q := 29) dX11_kind_28 rfl ?_
        replace H := kif H; obtain ⟨g14, H⟩ := H
        replace H := kifn H; obtain ⟨g15, H⟩ := H
        refine x_iald (q := 30) dX11_kind_29 rfl (k243 g14 (by decide) hn) g15 ?_
        refine x_goto dX11_kind_30 (q := 34) (by decide) ?_
        cases H
        exact x_end ⟨dX11_kind_34, rfl, rfl⟩
theorem s_X11_kind {Z : Nat → (Nat → Nat) → State → Prop} (h : KH) (v0 : Nat) (v1 : Int32) (v2 : Int32) {t : Int32} (hn : h.1 = 243) (H : f_X11_kind h v0 v1 v2 = some t) : KM Z yX11_kind cX11_kind 3 (some .int) 2 [.ref v0, .int v1, .int v2] h (some (.int t)) h :=
  kx_i (own := RX11) (ini := false) (by decide +kernel) (by decide +kernel) rfl (Nat.le_of_ble_eq_true rfl) (s0_X11_kind h v0 v1 v2 hn H)
theorem dX11_isTest_0 : decode cX11_isTest 0 = .ok (.iload_n 1, 1) := by decide +kernel
theorem dX11_isTest_1 : decode cX11_isTest 1 = .ok (.ifCond .lt 18, 3) := by decide +kernel
theorem dX11_isTest_4 : decode cX11_isTest 4 = .ok (.iload_n 1, 1) := by decide +kernel
theorem dX11_isTest_5 : decode cX11_isTest 5 = .ok (.aload_n 0, 1) := by decide +kernel
theorem dX11_isTest_6 : decode cX11_isTest 6 = .ok (.getfield 57, 3) := by decide +kernel
theorem dX11_isTest_9 : decode cX11_isTest 9 = .ok (.getfield 146, 3) := by decide +kernel
theorem dX11_isTest_12 : decode cX11_isTest 12 = .ok (.if_icmp .ge 7, 3) := by decide +kernel
theorem dX11_isTest_15 : decode cX11_isTest 15 = .ok (.iconst 1, 1) := by decide +kernel
theorem dX11_isTest_16 : decode cX11_isTest 16 = .ok (.goto 4, 3) := by decide +kernel
theorem dX11_isTest_19 : decode cX11_isTest 19 = .ok (.iconst 0, 1) := by decide +kernel
theorem dX11_isTest_20 : decode cX11_isTest 20 = .ok (.ireturn, 1) := by decide +kernel
def f_X11_isTest (h : KH) (v0 : Nat) (v1 : Int32) : Option (Int32) :=
  if v1 < 0 then
  some (0 : Int32)
  else
  if kkind v0 = 11 then if (kR h v0 5) < 999999 then if kkind (kR h v0 5) = 2 then if (kI h (kR h v0 5) 4) ≤ v1 then
  some (0 : Int32)
  else
  some (1 : Int32) else none else none else none
set_option maxHeartbeats 4000000 in
set_option maxRecDepth 100000 in
theorem s0_X11_isTest {Z : Nat → (Nat → Nat) → State → Prop} (h : KH) (v0 : Nat) (v1 : Int32) {t : Int32} (hn : h.1 = 243) (H : f_X11_isTest h v0 v1 = some t) : KX Z RX11 cX11_isTest 2 false 1 (KRz cX11_isTest t h) 0 [(0, .ref v0), (1, .int v1)] [] h := by
  unfold f_X11_isTest at H
  refine x_iload_n (q := 1) dX11_isTest_0 rfl rfl ?_
  replace H := kite H; rcases H with ⟨g1, H⟩ | ⟨g1, H⟩
  · refine x_if_lt_t dX11_isTest_1 (q := 19) (by decide) g1 ?_
    refine x_iconst (q := 20) (v := (0 : Int32)) dX11_isTest_19 rfl (by decide) ?_
    cases H
    exact x_end ⟨(Or.inl rfl), dX11_isTest_20, rfl, rfl⟩
  · refine x_if_lt_f (q := 4) dX11_isTest_1 (t := 19) (by decide) rfl g1 ?_
    refine x_iload_n (q := 5) dX11_isTest_4 rfl rfl ?_
    refine x_aload_n (q := 6) dX11_isTest_5 rfl rfl ?_
    replace H := kif H; obtain ⟨g2, H⟩ := H
    replace H := kif H; obtain ⟨g3, H⟩ := H
    refine x_getR (q := 9) dX11_isTest_6 rfl kl_RX11_57 rfl (k243 g2 (by decide) hn) g3 ?_
    replace H := kif H; obtain ⟨g4, H⟩ := H
    refine x_getI (q := 12) dX11_isTest_9 rfl kl_RX11_146 (Or.inl rfl) (k243 g4 (by decide) hn) ?_
    replace H := kite H; rcases H with ⟨g5, H⟩ | ⟨g5, H⟩
    · refine x_icmp_ge_t dX11_isTest_12 (q := 19) (by decide) g5 ?_
      refine x_iconst (q := 20) (v := (0 : Int32)) dX11_isTest_19 rfl (by decide) ?_
      cases H
      exact x_end ⟨(Or.inl rfl), dX11_isTest_20, rfl, rfl⟩
    · refine x_icmp_ge_f (q := 15) dX11_isTest_12 (t := 19) (by decide) rfl g5 ?_
      refine x_iconst (q := 16) (v := (1 : Int32)) dX11_isTest_15 rfl (by decide) ?_
      refine x_goto dX11_isTest_16 (q := 20) (by decide) ?_
      cases H
      exact x_end ⟨(Or.inr rfl), dX11_isTest_20, rfl, rfl⟩
theorem s_X11_isTest {Z : Nat → (Nat → Nat) → State → Prop} (h : KH) (v0 : Nat) (v1 : Int32) {t : Int32} (hn : h.1 = 243) (H : f_X11_isTest h v0 v1 = some t) : KM Z yX11_isTest cX11_isTest 2 (some .boolean) 1 [.ref v0, .int v1] h (some (.int t)) h :=
  kx_z (own := RX11) (ini := false) (by decide +kernel) (by decide +kernel) rfl (Nat.le_of_ble_eq_true rfl) (s0_X11_isTest h v0 v1 hn H)
theorem dX11_test_0 : decode cX11_test 0 = .ok (.aload_n 0, 1) := by decide +kernel
theorem dX11_test_1 : decode cX11_test 1 = .ok (.iload_n 1, 1) := by decide +kernel
theorem dX11_test_2 : decode cX11_test 2 = .ok (.invokevirtual 188, 3) := by decide +kernel
theorem dX11_test_5 : decode cX11_test 5 = .ok (.ifCond .ne 5, 3) := by decide +kernel
theorem dX11_test_8 : decode cX11_test 8 = .ok (.iconst (-1), 1) := by decide +kernel
theorem dX11_test_9 : decode cX11_test 9 = .ok (.ireturn, 1) := by decide +kernel
theorem dX11_test_10 : decode cX11_test 10 = .ok (.iload_n 2, 1) := by decide +kernel
theorem dX11_test_11 : decode cX11_test 11 = .ok (.tableswitch 57 0 2 #[25, 37, 47], 25) := by decide +kernel
theorem dX11_test_36 : decode cX11_test 36 = .ok (.aload_n 0, 1) := by decide +kernel
theorem dX11_test_37 : decode cX11_test 37 = .ok (.getfield 57, 3) := by decide +kernel
theorem dX11_test_40 : decode cX11_test 40 = .ok (.getfield 191, 3) := by decide +kernel
theorem dX11_test_43 : decode cX11_test 43 = .ok (.iload_n 1, 1) := by decide +kernel
theorem dX11_test_44 : decode cX11_test 44 = .ok (.aaload, 1) := by decide +kernel
theorem dX11_test_45 : decode cX11_test 45 = .ok (.iconst 1, 1) := by decide +kernel
theorem dX11_test_46 : decode cX11_test 46 = .ok (.iaload, 1) := by decide +kernel
theorem dX11_test_47 : decode cX11_test 47 = .ok (.ireturn, 1) := by decide +kernel
theorem dX11_test_48 : decode cX11_test 48 = .ok (.aload_n 0, 1) := by decide +kernel
theorem dX11_test_49 : decode cX11_test 49 = .ok (.getfield 67, 3) := by decide +kernel
theorem dX11_test_52 : decode cX11_test 52 = .ok (.getfield 194, 3) := by decide +kernel
theorem dX11_test_55 : decode cX11_test 55 = .ok (.iload_n 1, 1) := by decide +kernel
theorem dX11_test_56 : decode cX11_test 56 = .ok (.iaload, 1) := by decide +kernel
theorem dX11_test_57 : decode cX11_test 57 = .ok (.ireturn, 1) := by decide +kernel
theorem dX11_test_58 : decode cX11_test 58 = .ok (.aload_n 0, 1) := by decide +kernel
theorem dX11_test_59 : decode cX11_test 59 = .ok (.getfield 67, 3) := by decide +kernel
theorem dX11_test_62 : decode cX11_test 62 = .ok (.getfield 197, 3) := by decide +kernel
theorem dX11_test_65 : decode cX11_test 65 = .ok (.iload_n 1, 1) := by decide +kernel
theorem dX11_test_66 : decode cX11_test 66 = .ok (.iaload, 1) := by decide +kernel
theorem dX11_test_67 : decode cX11_test 67 = .ok (.ireturn, 1) := by decide +kernel
theorem dX11_test_68 : decode cX11_test 68 = .ok (.iconst (-1), 1) := by decide +kernel
theorem dX11_test_69 : decode cX11_test 69 = .ok (.ireturn, 1) := by decide +kernel
theorem kc_RX11_188 : Cond.methodLink RX11 188 yX11_isTest ∈ ktG ∧ (Cond.instanceMethod yX11_isTest ∈ ktG ∧ Cond.selects yX11_isTest.cls yX11_isTest yX11_isTest ∈ ktG) ∧ Cond.initialized yX11_isTest.cls ∈ ktG ∧ Cond.code yX11_isTest cX11_isTest 2 (some .boolean) ∈ ktG := ⟨(kwm 829 (by decide +kernel) (by decide +kernel)), ⟨(kwm 831 (by decide +kernel) (by decide +kernel)), (kwm 20 (by decide +kernel) (by decide +kernel))⟩, (kwm 123 (by decide +kernel) (by decide +kernel)), kwm 832 (by decide +kernel) (by decide +kernel)⟩
theorem kh_X11_isTest : yX11_isTest.cls ≠ "java/lang/invoke/MethodHandle" ∧ yX11_isTest.cls ≠ "java/lang/invoke/VarHandle" ∧ (parseMethodDescriptor yX11_isTest.desc).map (fun d => d.parameters.length) = some 1 := by decide +kernel
theorem kl_RX11_191 : KLk RX11 191 2 1 := ⟨RX2, TX2, 12, rfl, by decide, Or.inr (by decide +kernel)⟩
theorem kl_RX11_194 : KLk RX11 194 8 3 := ⟨RX8, TX8, 6, rfl, by decide, Or.inr (by decide +kernel)⟩
theorem kl_RX11_197 : KLk RX11 197 8 4 := ⟨RX8, TX8, 6, rfl, by decide, Or.inr (by decide +kernel)⟩
def f_X11_test (h : KH) (v0 : Nat) (v1 : Int32) (v2 : Int32) : Option (Int32) :=
  if kkind v0 = 11 then kb (f_X11_isTest h v0 v1) fun r2 =>
  if r2 = 0 then
  some (-1 : Int32)
  else
  if v2 = (0 : Int32) then
  if (kR h v0 5) < 999999 then if kkind (kR h v0 5) = 2 then if (kR h (kR h v0 5) 1) < 999999 then if kkind (kR h (kR h v0 5) 1) = 24 then if (v1 < 0 ∨ klen (kR h (kR h v0 5) 1) ≤ (v1).toNatClampNeg) then none else if (kR h (kR h (kR h v0 5) 1) ((v1).toNatClampNeg)) < 999999 then if kkind (kR h (kR h (kR h v0 5) 1) ((v1).toNatClampNeg)) = 20 then if klen (kR h (kR h (kR h v0 5) 1) ((v1).toNatClampNeg)) ≤ 1 then none else some (kI h (kR h (kR h (kR h v0 5) 1) ((v1).toNatClampNeg)) 1) else none else none else none else none else none else none
  else if v2 = (1 : Int32) then
  if (kR h v0 7) < 999999 then if kkind (kR h v0 7) = 8 then if (kR h (kR h v0 7) 3) < 999999 then if kkind (kR h (kR h v0 7) 3) = 20 then if (v1 < 0 ∨ klen (kR h (kR h v0 7) 3) ≤ (v1).toNatClampNeg) then none else some (kI h (kR h (kR h v0 7) 3) ((v1).toNatClampNeg)) else none else none else none else none
  else if v2 = (2 : Int32) then
  if (kR h v0 7) < 999999 then if kkind (kR h v0 7) = 8 then if (kR h (kR h v0 7) 4) < 999999 then if kkind (kR h (kR h v0 7) 4) = 20 then if (v1 < 0 ∨ klen (kR h (kR h v0 7) 4) ≤ (v1).toNatClampNeg) then none else some (kI h (kR h (kR h v0 7) 4) ((v1).toNatClampNeg)) else none else none else none else none
  else 
  some (-1 : Int32) else none
set_option maxHeartbeats 4000000 in
set_option maxRecDepth 100000 in
theorem s0_X11_test {Z : Nat → (Nat → Nat) → State → Prop} (h : KH) (v0 : Nat) (v1 : Int32) (v2 : Int32) {t : Int32} (hn : h.1 = 243) (H : f_X11_test h v0 v1 v2 = some t) : KX Z RX11 cX11_test 3 false 2 (KRi cX11_test t h) 0 [(0, .ref v0), (1, .int v1), (2, .int v2)] [] h := by
  unfold f_X11_test at H
  refine x_aload_n (q := 1) dX11_test_0 rfl rfl ?_
  refine x_iload_n (q := 2) dX11_test_1 rfl rfl ?_
  replace H := kif H; obtain ⟨g1, H⟩ := H
  replace H := kbe H; obtain ⟨r2, c3, H⟩ := H
  have m4 := s_X11_isTest (Z := Z) h v0 v1 hn c3
  refine x_callV (q := 5) (as := [.int v1]) (rest := []) dX11_test_2 rfl kc_RX11_188 kh_X11_isTest (by decide) (Nat.le_of_ble_eq_true rfl) m4 (ci := 11) (by exact ⟨rfl, by decide⟩) (k243 g1 (by decide) hn) ?_
  replace H := kite H; rcases H with ⟨g5, H⟩ | ⟨g5, H⟩
  · refine x_if_ne_f (q := 8) dX11_test_5 (t := 10) (by decide) rfl g5 ?_
    refine x_iconst (q := 9) (v := (-1 : Int32)) dX11_test_8 rfl (by decide) ?_
    cases H
    exact x_end ⟨dX11_test_9, rfl, rfl⟩
  · refine x_if_ne_t dX11_test_5 (q := 10) (by decide) g5 ?_
    refine x_iload_n (q := 11) dX11_test_10 rfl rfl ?_
    replace H := kite H; rcases H with ⟨g6, H⟩ | ⟨g6, H⟩
    · refine x_tableIn (v := (0 : Int32)) (off := 25) dX11_test_11 g6 (by decide) (q := 36) (by decide) ?_
      refine x_aload_n (q := 37) dX11_test_36 rfl rfl ?_
      replace H := kif H; obtain ⟨g7, H⟩ := H
      refine x_getR (q := 40) dX11_test_37 rfl kl_RX11_57 rfl (k243 g1 (by decide) hn) g7 ?_
      replace H := kif H; obtain ⟨g8, H⟩ := H
      replace H := kif H; obtain ⟨g9, H⟩ := H
      refine x_getR (q := 43) dX11_test_40 rfl kl_RX11_191 rfl (k243 g8 (by decide) hn) g9 ?_
      refine x_iload_n (q := 44) dX11_test_43 rfl rfl ?_
      replace H := kif H; obtain ⟨g10, H⟩ := H
      replace H := kifn H; obtain ⟨g11, H⟩ := H
      replace H := kif H; obtain ⟨g12, H⟩ := H
      refine x_aald (q := 45) dX11_test_44 rfl (Or.inl rfl) (k243 g10 (by decide) hn) g11 g12 ?_
      refine x_iconst (q := 46) (v := (1 : Int32)) dX11_test_45 rfl (by decide) ?_
      replace H := kif H; obtain ⟨g13, H⟩ := H
      replace H := kifn H; obtain ⟨g14, H⟩ := H
      refine x_iald (q := 47) dX11_test_46 rfl (k243 g13 (by decide) hn) (fun z => z.elim (by decide) g14) ?_
      cases H
      exact x_end ⟨dX11_test_47, rfl, rfl⟩
    replace H := kite H; rcases H with ⟨g15, H⟩ | ⟨g15, H⟩
    · refine x_tableIn (v := (1 : Int32)) (off := 37) dX11_test_11 g15 (by decide) (q := 48) (by decide) ?_
      refine x_aload_n (q := 49) dX11_test_48 rfl rfl ?_
      replace H := kif H; obtain ⟨g16, H⟩ := H
      refine x_getR (q := 52) dX11_test_49 rfl kl_RX11_67 rfl (k243 g1 (by decide) hn) g16 ?_
      replace H := kif H; obtain ⟨g17, H⟩ := H
      replace H := kif H; obtain ⟨g18, H⟩ := H
      refine x_getR (q := 55) dX11_test_52 rfl kl_RX11_194 rfl (k243 g17 (by decide) hn) g18 ?_
      refine x_iload_n (q := 56) dX11_test_55 rfl rfl ?_
      replace H := kif H; obtain ⟨g19, H⟩ := H
      replace H := kifn H; obtain ⟨g20, H⟩ := H
      refine x_iald (q := 57) dX11_test_56 rfl (k243 g19 (by decide) hn) g20 ?_
      cases H
      exact x_end ⟨dX11_test_57, rfl, rfl⟩
    replace H := kite H; rcases H with ⟨g21, H⟩ | ⟨g21, H⟩
    · refine x_tableIn (v := (2 : Int32)) (off := 47) dX11_test_11 g21 (by decide) (q := 58) (by decide) ?_
      refine x_aload_n (q := 59) dX11_test_58 rfl rfl ?_
      replace H := kif H; obtain ⟨g22, H⟩ := H
      refine x_getR (q := 62) dX11_test_59 rfl kl_RX11_67 rfl (k243 g1 (by decide) hn) g22 ?_
      replace H := kif H; obtain ⟨g23, H⟩ := H
      replace H := kif H; obtain ⟨g24, H⟩ := H
      refine x_getR (q := 65) dX11_test_62 rfl kl_RX11_197 rfl (k243 g23 (by decide) hn) g24 ?_
      refine x_iload_n (q := 66) dX11_test_65 rfl rfl ?_
      replace H := kif H; obtain ⟨g25, H⟩ := H
      replace H := kifn H; obtain ⟨g26, H⟩ := H
      refine x_iald (q := 67) dX11_test_66 rfl (k243 g25 (by decide) hn) g26 ?_
      cases H
      exact x_end ⟨dX11_test_67, rfl, rfl⟩
    refine x_tableOut dX11_test_11 (q := 68) (by decide) (by have z0 : v2.toInt ≠ 0 := kne g6 (by decide); have z1 : v2.toInt ≠ 1 := kne g15 (by decide); have z2 : v2.toInt ≠ 2 := kne g21 (by decide); omega) ?_
    refine x_iconst (q := 69) (v := (-1 : Int32)) dX11_test_68 rfl (by decide) ?_
    cases H
    exact x_end ⟨dX11_test_69, rfl, rfl⟩
theorem s_X11_test {Z : Nat → (Nat → Nat) → State → Prop} (h : KH) (v0 : Nat) (v1 : Int32) (v2 : Int32) {t : Int32} (hn : h.1 = 243) (H : f_X11_test h v0 v1 v2 = some t) : KM Z yX11_test cX11_test 3 (some .int) 2 [.ref v0, .int v1, .int v2] h (some (.int t)) h :=
  kx_i (own := RX11) (ini := false) (by decide +kernel) (by decide +kernel) rfl (Nat.le_of_ble_eq_true rfl) (s0_X11_test h v0 v1 v2 hn H)
theorem dX11_isMark_0 : decode cX11_isMark 0 = .ok (.iload_n 1, 1) := by decide +kernel
theorem dX11_isMark_1 : decode cX11_isMark 1 = .ok (.ifCond .lt 18, 3) := by decide +kernel
theorem dX11_isMark_4 : decode cX11_isMark 4 = .ok (.iload_n 1, 1) := by decide +kernel
theorem dX11_isMark_5 : decode cX11_isMark 5 = .ok (.aload_n 0, 1) := by decide +kernel
theorem dX11_isMark_6 : decode cX11_isMark 6 = .ok (.getfield 57, 3) := by decide +kernel
theorem dX11_isMark_9 : decode cX11_isMark 9 = .ok (.getfield 149, 3) := by decide +kernel
theorem dX11_isMark_12 : decode cX11_isMark 12 = .ok (.if_icmp .ge 7, 3) := by decide +kernel
theorem dX11_isMark_15 : decode cX11_isMark 15 = .ok (.iconst 1, 1) := by decide +kernel
theorem dX11_isMark_16 : decode cX11_isMark 16 = .ok (.goto 4, 3) := by decide +kernel
theorem dX11_isMark_19 : decode cX11_isMark 19 = .ok (.iconst 0, 1) := by decide +kernel
theorem dX11_isMark_20 : decode cX11_isMark 20 = .ok (.ireturn, 1) := by decide +kernel
def f_X11_isMark (h : KH) (v0 : Nat) (v1 : Int32) : Option (Int32) :=
  if v1 < 0 then
  some (0 : Int32)
  else
  if kkind v0 = 11 then if (kR h v0 5) < 999999 then if kkind (kR h v0 5) = 2 then if (kI h (kR h v0 5) 5) ≤ v1 then
  some (0 : Int32)
  else
  some (1 : Int32) else none else none else none
set_option maxHeartbeats 4000000 in
set_option maxRecDepth 100000 in
theorem s0_X11_isMark {Z : Nat → (Nat → Nat) → State → Prop} (h : KH) (v0 : Nat) (v1 : Int32) {t : Int32} (hn : h.1 = 243) (H : f_X11_isMark h v0 v1 = some t) : KX Z RX11 cX11_isMark 2 false 1 (KRz cX11_isMark t h) 0 [(0, .ref v0), (1, .int v1)] [] h := by
  unfold f_X11_isMark at H
  refine x_iload_n (q := 1) dX11_isMark_0 rfl rfl ?_
  replace H := kite H; rcases H with ⟨g1, H⟩ | ⟨g1, H⟩
  · refine x_if_lt_t dX11_isMark_1 (q := 19) (by decide) g1 ?_
    refine x_iconst (q := 20) (v := (0 : Int32)) dX11_isMark_19 rfl (by decide) ?_
    cases H
    exact x_end ⟨(Or.inl rfl), dX11_isMark_20, rfl, rfl⟩
  · refine x_if_lt_f (q := 4) dX11_isMark_1 (t := 19) (by decide) rfl g1 ?_
    refine x_iload_n (q := 5) dX11_isMark_4 rfl rfl ?_
    refine x_aload_n (q := 6) dX11_isMark_5 rfl rfl ?_
    replace H := kif H; obtain ⟨g2, H⟩ := H
    replace H := kif H; obtain ⟨g3, H⟩ := H
    refine x_getR (q := 9) dX11_isMark_6 rfl kl_RX11_57 rfl (k243 g2 (by decide) hn) g3 ?_
    replace H := kif H; obtain ⟨g4, H⟩ := H
    refine x_getI (q := 12) dX11_isMark_9 rfl kl_RX11_149 (Or.inl rfl) (k243 g4 (by decide) hn) ?_
    replace H := kite H; rcases H with ⟨g5, H⟩ | ⟨g5, H⟩
    · refine x_icmp_ge_t dX11_isMark_12 (q := 19) (by decide) g5 ?_
      refine x_iconst (q := 20) (v := (0 : Int32)) dX11_isMark_19 rfl (by decide) ?_
      cases H
      exact x_end ⟨(Or.inl rfl), dX11_isMark_20, rfl, rfl⟩
    · refine x_icmp_ge_f (q := 15) dX11_isMark_12 (t := 19) (by decide) rfl g5 ?_
      refine x_iconst (q := 16) (v := (1 : Int32)) dX11_isMark_15 rfl (by decide) ?_
      refine x_goto dX11_isMark_16 (q := 20) (by decide) ?_
      cases H
      exact x_end ⟨(Or.inr rfl), dX11_isMark_20, rfl, rfl⟩
theorem s_X11_isMark {Z : Nat → (Nat → Nat) → State → Prop} (h : KH) (v0 : Nat) (v1 : Int32) {t : Int32} (hn : h.1 = 243) (H : f_X11_isMark h v0 v1 = some t) : KM Z yX11_isMark cX11_isMark 2 (some .boolean) 1 [.ref v0, .int v1] h (some (.int t)) h :=
  kx_z (own := RX11) (ini := false) (by decide +kernel) (by decide +kernel) rfl (Nat.le_of_ble_eq_true rfl) (s0_X11_isMark h v0 v1 hn H)
theorem dX11_mark_0 : decode cX11_mark 0 = .ok (.aload_n 0, 1) := by decide +kernel
theorem dX11_mark_1 : decode cX11_mark 1 = .ok (.iload_n 1, 1) := by decide +kernel
theorem dX11_mark_2 : decode cX11_mark 2 = .ok (.invokevirtual 200, 3) := by decide +kernel
theorem dX11_mark_5 : decode cX11_mark 5 = .ok (.ifCond .eq 12, 3) := by decide +kernel
theorem dX11_mark_8 : decode cX11_mark 8 = .ok (.iload_n 2, 1) := by decide +kernel
theorem dX11_mark_9 : decode cX11_mark 9 = .ok (.ifCond .lt 8, 3) := by decide +kernel
theorem dX11_mark_12 : decode cX11_mark 12 = .ok (.iload_n 2, 1) := by decide +kernel
theorem dX11_mark_13 : decode cX11_mark 13 = .ok (.iconst 3, 1) := by decide +kernel
theorem dX11_mark_14 : decode cX11_mark 14 = .ok (.if_icmp .le 5, 3) := by decide +kernel
theorem dX11_mark_17 : decode cX11_mark 17 = .ok (.iconst (-1), 1) := by decide +kernel
theorem dX11_mark_18 : decode cX11_mark 18 = .ok (.ireturn, 1) := by decide +kernel
theorem dX11_mark_19 : decode cX11_mark 19 = .ok (.iload_n 2, 1) := by decide +kernel
theorem dX11_mark_20 : decode cX11_mark 20 = .ok (.iconst 2, 1) := by decide +kernel
theorem dX11_mark_21 : decode cX11_mark 21 = .ok (.if_icmp .ge 19, 3) := by decide +kernel
theorem dX11_mark_24 : decode cX11_mark 24 = .ok (.aload_n 0, 1) := by decide +kernel
theorem dX11_mark_25 : decode cX11_mark 25 = .ok (.getfield 57, 3) := by decide +kernel
theorem dX11_mark_28 : decode cX11_mark 28 = .ok (.getfield 203, 3) := by decide +kernel
theorem dX11_mark_31 : decode cX11_mark 31 = .ok (.iload_n 1, 1) := by decide +kernel
theorem dX11_mark_32 : decode cX11_mark 32 = .ok (.aaload, 1) := by decide +kernel
theorem dX11_mark_33 : decode cX11_mark 33 = .ok (.iload_n 2, 1) := by decide +kernel
theorem dX11_mark_34 : decode cX11_mark 34 = .ok (.iconst 1, 1) := by decide +kernel
theorem dX11_mark_35 : decode cX11_mark 35 = .ok (.iadd, 1) := by decide +kernel
theorem dX11_mark_36 : decode cX11_mark 36 = .ok (.iaload, 1) := by decide +kernel
theorem dX11_mark_37 : decode cX11_mark 37 = .ok (.goto 18, 3) := by decide +kernel
theorem dX11_mark_40 : decode cX11_mark 40 = .ok (.aload_n 0, 1) := by decide +kernel
theorem dX11_mark_41 : decode cX11_mark 41 = .ok (.getfield 67, 3) := by decide +kernel
theorem dX11_mark_44 : decode cX11_mark 44 = .ok (.getfield 206, 3) := by decide +kernel
theorem dX11_mark_47 : decode cX11_mark 47 = .ok (.iload_n 1, 1) := by decide +kernel
theorem dX11_mark_48 : decode cX11_mark 48 = .ok (.iconst 2, 1) := by decide +kernel
theorem dX11_mark_49 : decode cX11_mark 49 = .ok (.imul, 1) := by decide +kernel
theorem dX11_mark_50 : decode cX11_mark 50 = .ok (.iload_n 2, 1) := by decide +kernel
theorem dX11_mark_51 : decode cX11_mark 51 = .ok (.iadd, 1) := by decide +kernel
theorem dX11_mark_52 : decode cX11_mark 52 = .ok (.iconst 2, 1) := by decide +kernel
theorem dX11_mark_53 : decode cX11_mark 53 = .ok (.isub, 1) := by decide +kernel
theorem dX11_mark_54 : decode cX11_mark 54 = .ok (.iaload, 1) := by decide +kernel
theorem dX11_mark_55 : decode cX11_mark 55 = .ok (.ireturn, 1) := by decide +kernel
theorem kc_RX11_200 : Cond.methodLink RX11 200 yX11_isMark ∈ ktG ∧ (Cond.instanceMethod yX11_isMark ∈ ktG ∧ Cond.selects yX11_isMark.cls yX11_isMark yX11_isMark ∈ ktG) ∧ Cond.initialized yX11_isMark.cls ∈ ktG ∧ Cond.code yX11_isMark cX11_isMark 2 (some .boolean) ∈ ktG := ⟨(kwm 837 (by decide +kernel) (by decide +kernel)), ⟨(kwm 839 (by decide +kernel) (by decide +kernel)), (kwm 21 (by decide +kernel) (by decide +kernel))⟩, (kwm 123 (by decide +kernel) (by decide +kernel)), kwm 840 (by decide +kernel) (by decide +kernel)⟩
theorem kh_X11_isMark : yX11_isMark.cls ≠ "java/lang/invoke/MethodHandle" ∧ yX11_isMark.cls ≠ "java/lang/invoke/VarHandle" ∧ (parseMethodDescriptor yX11_isMark.desc).map (fun d => d.parameters.length) = some 1 := by decide +kernel
theorem kl_RX11_206 : KLk RX11 206 8 5 := ⟨RX8, TX8, 6, rfl, by decide, Or.inr (by decide +kernel)⟩
theorem kl_RX11_203 : KLk RX11 203 2 2 := ⟨RX2, TX2, 12, rfl, by decide, Or.inr (by decide +kernel)⟩
def f_X11_mark (h : KH) (v0 : Nat) (v1 : Int32) (v2 : Int32) : Option (Int32) :=
  if kkind v0 = 11 then kb (f_X11_isMark h v0 v1) fun r2 =>
  if r2 = 0 then
  some (-1 : Int32)
  else
  if v2 < 0 then
  some (-1 : Int32)
  else
  if v2 ≤ (3 : Int32) then
  if (2 : Int32) ≤ v2 then
  if (kR h v0 7) < 999999 then if kkind (kR h v0 7) = 8 then if (kR h (kR h v0 7) 5) < 999999 then if kkind (kR h (kR h v0 7) 5) = 20 then if ((((v1 * (2 : Int32)) + v2) - (2 : Int32)) < 0 ∨ klen (kR h (kR h v0 7) 5) ≤ ((((v1 * (2 : Int32)) + v2) - (2 : Int32))).toNatClampNeg) then none else some (kI h (kR h (kR h v0 7) 5) (((((v1 * (2 : Int32)) + v2) - (2 : Int32))).toNatClampNeg)) else none else none else none else none
  else
  if (kR h v0 5) < 999999 then if kkind (kR h v0 5) = 2 then if (kR h (kR h v0 5) 2) < 999999 then if kkind (kR h (kR h v0 5) 2) = 24 then if (v1 < 0 ∨ klen (kR h (kR h v0 5) 2) ≤ (v1).toNatClampNeg) then none else if (kR h (kR h (kR h v0 5) 2) ((v1).toNatClampNeg)) < 999999 then if kkind (kR h (kR h (kR h v0 5) 2) ((v1).toNatClampNeg)) = 20 then if ((v2 + (1 : Int32)) < 0 ∨ klen (kR h (kR h (kR h v0 5) 2) ((v1).toNatClampNeg)) ≤ ((v2 + (1 : Int32))).toNatClampNeg) then none else some (kI h (kR h (kR h (kR h v0 5) 2) ((v1).toNatClampNeg)) (((v2 + (1 : Int32))).toNatClampNeg)) else none else none else none else none else none else none
  else
  some (-1 : Int32) else none
set_option maxHeartbeats 4000000 in
set_option maxRecDepth 100000 in
theorem s0_X11_mark {Z : Nat → (Nat → Nat) → State → Prop} (h : KH) (v0 : Nat) (v1 : Int32) (v2 : Int32) {t : Int32} (hn : h.1 = 243) (H : f_X11_mark h v0 v1 v2 = some t) : KX Z RX11 cX11_mark 3 false 2 (KRi cX11_mark t h) 0 [(0, .ref v0), (1, .int v1), (2, .int v2)] [] h := by
  unfold f_X11_mark at H
  refine x_aload_n (q := 1) dX11_mark_0 rfl rfl ?_
  refine x_iload_n (q := 2) dX11_mark_1 rfl rfl ?_
  replace H := kif H; obtain ⟨g1, H⟩ := H
  replace H := kbe H; obtain ⟨r2, c3, H⟩ := H
  have m4 := s_X11_isMark (Z := Z) h v0 v1 hn c3
  refine x_callV (q := 5) (as := [.int v1]) (rest := []) dX11_mark_2 rfl kc_RX11_200 kh_X11_isMark (by decide) (Nat.le_of_ble_eq_true rfl) m4 (ci := 11) (by exact ⟨rfl, by decide⟩) (k243 g1 (by decide) hn) ?_
  replace H := kite H; rcases H with ⟨g5, H⟩ | ⟨g5, H⟩
  · refine x_if_eq_t dX11_mark_5 (q := 17) (by decide) g5 ?_
    refine x_iconst (q := 18) (v := (-1 : Int32)) dX11_mark_17 rfl (by decide) ?_
    cases H
    exact x_end ⟨dX11_mark_18, rfl, rfl⟩
  · refine x_if_eq_f (q := 8) dX11_mark_5 (t := 17) (by decide) rfl g5 ?_
    refine x_iload_n (q := 9) dX11_mark_8 rfl rfl ?_
    replace H := kite H; rcases H with ⟨g6, H⟩ | ⟨g6, H⟩
    · refine x_if_lt_t dX11_mark_9 (q := 17) (by decide) g6 ?_
      refine x_iconst (q := 18) (v := (-1 : Int32)) dX11_mark_17 rfl (by decide) ?_
      cases H
      exact x_end ⟨dX11_mark_18, rfl, rfl⟩
    · refine x_if_lt_f (q := 12) dX11_mark_9 (t := 17) (by decide) rfl g6 ?_
      refine x_iload_n (q := 13) dX11_mark_12 rfl rfl ?_
      refine x_iconst (q := 14) (v := (3 : Int32)) dX11_mark_13 rfl (by decide) ?_
      replace H := kite H; rcases H with ⟨g7, H⟩ | ⟨g7, H⟩
      · refine x_icmp_le_t dX11_mark_14 (q := 19) (by decide) g7 ?_
        refine x_iload_n (q := 20) dX11_mark_19 rfl rfl ?_
        refine x_iconst (q := 21) (v := (2 : Int32)) dX11_mark_20 rfl (by decide) ?_
        replace H := kite H; rcases H with ⟨g8, H⟩ | ⟨g8, H⟩
        · refine x_icmp_ge_t dX11_mark_21 (q := 40) (by decide) g8 ?_
          refine x_aload_n (q := 41) dX11_mark_40 rfl rfl ?_
          replace H := kif H; obtain ⟨g9, H⟩ := H
          refine x_getR (q := 44) dX11_mark_41 rfl kl_RX11_67 rfl (k243 g1 (by decide) hn) g9 ?_
          replace H := kif H; obtain ⟨g10, H⟩ := H
          replace H := kif H; obtain ⟨g11, H⟩ := H
          refine x_getR (q := 47) dX11_mark_44 rfl kl_RX11_206 rfl (k243 g10 (by decide) hn) g11 ?_
          refine x_iload_n (q := 48) dX11_mark_47 rfl rfl ?_
          refine x_iconst (q := 49) (v := (2 : Int32)) dX11_mark_48 rfl (by decide) ?_
          refine x_imul (q := 50) dX11_mark_49 rfl ?_
          refine x_iload_n (q := 51) dX11_mark_50 rfl rfl ?_
          refine x_iadd (q := 52) dX11_mark_51 rfl ?_
          refine x_iconst (q := 53) (v := (2 : Int32)) dX11_mark_52 rfl (by decide) ?_
          refine x_isub (q := 54) dX11_mark_53 rfl ?_
          replace H := kif H; obtain ⟨g12, H⟩ := H
          replace H := kifn H; obtain ⟨g13, H⟩ := H
          refine x_iald (q := 55) dX11_mark_54 rfl (k243 g12 (by decide) hn) g13 ?_
          cases H
          exact x_end ⟨dX11_mark_55, rfl, rfl⟩
        · refine x_icmp_ge_f (q := 24) dX11_mark_21 (t := 40) (by decide) rfl g8 ?_
          refine x_aload_n (q := 25) dX11_mark_24 rfl rfl ?_
          replace H := kif H; obtain ⟨g14, H⟩ := H
          refine x_getR (q := 28) dX11_mark_25 rfl kl_RX11_57 rfl (k243 g1 (by decide) hn) g14 ?_
          replace H := kif H; obtain ⟨g15, H⟩ := H
          replace H := kif H; obtain ⟨g16, H⟩ := H
          refine x_getR (q := 31) dX11_mark_28 rfl kl_RX11_203 rfl (k243 g15 (by decide) hn) g16 ?_
          refine x_iload_n (q := 32) dX11_mark_31 rfl rfl ?_
          replace H := kif H; obtain ⟨g17, H⟩ := H
          replace H := kifn H; obtain ⟨g18, H⟩ := H
          replace H := kif H; obtain ⟨g19, H⟩ := H
          refine x_aald (q := 33) dX11_mark_32 rfl (Or.inl rfl) (k243 g17 (by decide) hn) g18 g19 ?_
          refine x_iload_n (q := 34) dX11_mark_33 rfl rfl ?_
          refine x_iconst (q := 35) (v := (1 : Int32)) dX11_mark_34 rfl (by decide) ?_
          refine x_iadd (q := 36) dX11_mark_35 rfl ?_
          replace H := kif H; obtain ⟨g20, H⟩ := H
          replace H := kifn H; obtain ⟨g21, H⟩ := H
          refine x_iald (q := 37) dX11_mark_36 rfl (k243 g20 (by decide) hn) g21 ?_
          refine x_goto dX11_mark_37 (q := 55) (by decide) ?_
          cases H
          exact x_end ⟨dX11_mark_55, rfl, rfl⟩
      · refine x_icmp_le_f (q := 17) dX11_mark_14 (t := 19) (by decide) rfl g7 ?_
        refine x_iconst (q := 18) (v := (-1 : Int32)) dX11_mark_17 rfl (by decide) ?_
        cases H
        exact x_end ⟨dX11_mark_18, rfl, rfl⟩
theorem s_X11_mark {Z : Nat → (Nat → Nat) → State → Prop} (h : KH) (v0 : Nat) (v1 : Int32) (v2 : Int32) {t : Int32} (hn : h.1 = 243) (H : f_X11_mark h v0 v1 v2 = some t) : KM Z yX11_mark cX11_mark 3 (some .int) 2 [.ref v0, .int v1, .int v2] h (some (.int t)) h :=
  kx_i (own := RX11) (ini := false) (by decide +kernel) (by decide +kernel) rfl (Nat.le_of_ble_eq_true rfl) (s0_X11_mark h v0 v1 v2 hn H)
theorem dX11_isBit_0 : decode cX11_isBit 0 = .ok (.iload_n 0, 1) := by decide +kernel
theorem dX11_isBit_1 : decode cX11_isBit 1 = .ok (.ifCond .eq 8, 3) := by decide +kernel
theorem dX11_isBit_4 : decode cX11_isBit 4 = .ok (.iload_n 0, 1) := by decide +kernel
theorem dX11_isBit_5 : decode cX11_isBit 5 = .ok (.iconst 1, 1) := by decide +kernel
theorem dX11_isBit_6 : decode cX11_isBit 6 = .ok (.if_icmp .ne 7, 3) := by decide +kernel
theorem dX11_isBit_9 : decode cX11_isBit 9 = .ok (.iconst 1, 1) := by decide +kernel
theorem dX11_isBit_10 : decode cX11_isBit 10 = .ok (.goto 4, 3) := by decide +kernel
theorem dX11_isBit_13 : decode cX11_isBit 13 = .ok (.iconst 0, 1) := by decide +kernel
theorem dX11_isBit_14 : decode cX11_isBit 14 = .ok (.ireturn, 1) := by decide +kernel
def f_X11_isBit_b9 (h : KH) : Option (Int32) :=
  some (1 : Int32)
set_option maxHeartbeats 4000000 in
set_option maxRecDepth 100000 in
theorem s_X11_isBit_b9 {Z : Nat → (Nat → Nat) → State → Prop} (h : KH) {t : Int32} (hn : h.1 = 243) (H : f_X11_isBit_b9 h = some t) : KX Z RX11 cX11_isBit 1 false 1 (KRz cX11_isBit t h) 9 [] [] h := by
  unfold f_X11_isBit_b9 at H
  refine x_iconst (q := 10) (v := (1 : Int32)) dX11_isBit_9 rfl (by decide) ?_
  refine x_goto dX11_isBit_10 (q := 14) (by decide) ?_
  cases H
  exact x_end ⟨(Or.inr rfl), dX11_isBit_14, rfl, rfl⟩
def f_X11_isBit (h : KH) (v0 : Int32) : Option (Int32) :=
  if v0 = 0 then
  f_X11_isBit_b9 h
  else
  if v0 = (1 : Int32) then
  f_X11_isBit_b9 h
  else
  some (0 : Int32)
set_option maxHeartbeats 4000000 in
set_option maxRecDepth 100000 in
theorem s0_X11_isBit {Z : Nat → (Nat → Nat) → State → Prop} (h : KH) (v0 : Int32) {t : Int32} (hn : h.1 = 243) (H : f_X11_isBit h v0 = some t) : KX Z RX11 cX11_isBit 1 false 1 (KRz cX11_isBit t h) 0 [(0, .int v0)] [] h := by
  unfold f_X11_isBit at H
  refine x_iload_n (q := 1) dX11_isBit_0 rfl rfl ?_
  replace H := kite H; rcases H with ⟨g1, H⟩ | ⟨g1, H⟩
  · refine x_if_eq_t dX11_isBit_1 (q := 9) (by decide) g1 ?_
    refine x_sub (ls2 := []) [] rfl ?_
    exact s_X11_isBit_b9 h hn H
  · refine x_if_eq_f (q := 4) dX11_isBit_1 (t := 9) (by decide) rfl g1 ?_
    refine x_iload_n (q := 5) dX11_isBit_4 rfl rfl ?_
    refine x_iconst (q := 6) (v := (1 : Int32)) dX11_isBit_5 rfl (by decide) ?_
    replace H := kite H; rcases H with ⟨g2, H⟩ | ⟨g2, H⟩
    · refine x_icmp_ne_f (q := 9) dX11_isBit_6 (t := 13) (by decide) rfl g2 ?_
      refine x_sub (ls2 := []) [] rfl ?_
      exact s_X11_isBit_b9 h hn H
    · refine x_icmp_ne_t dX11_isBit_6 (q := 13) (by decide) g2 ?_
      refine x_iconst (q := 14) (v := (0 : Int32)) dX11_isBit_13 rfl (by decide) ?_
      cases H
      exact x_end ⟨(Or.inl rfl), dX11_isBit_14, rfl, rfl⟩
theorem s_X11_isBit {Z : Nat → (Nat → Nat) → State → Prop} (h : KH) (v0 : Int32) {t : Int32} (hn : h.1 = 243) (H : f_X11_isBit h v0 = some t) : KM Z yX11_isBit cX11_isBit 1 (some .boolean) 1 [.int v0] h (some (.int t)) h :=
  kx_z (own := RX11) (ini := false) (by decide +kernel) (by decide +kernel) rfl (Nat.le_of_ble_eq_true rfl) (s0_X11_isBit h v0 hn H)
theorem dX11_yields_0 : decode cX11_yields 0 = .ok (.aload_n 0, 1) := by decide +kernel
theorem dX11_yields_1 : decode cX11_yields 1 = .ok (.iload_n 1, 1) := by decide +kernel
theorem dX11_yields_2 : decode cX11_yields 2 = .ok (.invokevirtual 180, 3) := by decide +kernel
theorem dX11_yields_5 : decode cX11_yields 5 = .ok (.ifCond .eq 18, 3) := by decide +kernel
theorem dX11_yields_8 : decode cX11_yields 8 = .ok (.aload_n 0, 1) := by decide +kernel
theorem dX11_yields_9 : decode cX11_yields 9 = .ok (.iload_n 2, 1) := by decide +kernel
theorem dX11_yields_10 : decode cX11_yields 10 = .ok (.invokevirtual 188, 3) := by decide +kernel
theorem dX11_yields_13 : decode cX11_yields 13 = .ok (.ifCond .eq 10, 3) := by decide +kernel
theorem dX11_yields_16 : decode cX11_yields 16 = .ok (.iload_n 3, 1) := by decide +kernel
theorem dX11_yields_17 : decode cX11_yields 17 = .ok (.invokestatic 209, 3) := by decide +kernel
theorem dX11_yields_20 : decode cX11_yields 20 = .ok (.ifCond .ne 5, 3) := by decide +kernel
theorem dX11_yields_23 : decode cX11_yields 23 = .ok (.iconst (-1), 1) := by decide +kernel
theorem dX11_yields_24 : decode cX11_yields 24 = .ok (.ireturn, 1) := by decide +kernel
theorem dX11_yields_25 : decode cX11_yields 25 = .ok (.aload_n 0, 1) := by decide +kernel
theorem dX11_yields_26 : decode cX11_yields 26 = .ok (.getfield 57, 3) := by decide +kernel
theorem dX11_yields_29 : decode cX11_yields 29 = .ok (.iload_n 2, 1) := by decide +kernel
theorem dX11_yields_30 : decode cX11_yields 30 = .ok (.aload_n 0, 1) := by decide +kernel
theorem dX11_yields_31 : decode cX11_yields 31 = .ok (.getfield 67, 3) := by decide +kernel
theorem dX11_yields_34 : decode cX11_yields 34 = .ok (.getfield 194, 3) := by decide +kernel
theorem dX11_yields_37 : decode cX11_yields 37 = .ok (.iload_n 2, 1) := by decide +kernel
theorem dX11_yields_38 : decode cX11_yields 38 = .ok (.iaload, 1) := by decide +kernel
theorem dX11_yields_39 : decode cX11_yields 39 = .ok (.invokevirtual 212, 3) := by decide +kernel
theorem dX11_yields_42 : decode cX11_yields 42 = .ok (.iload_n 1, 1) := by decide +kernel
theorem dX11_yields_43 : decode cX11_yields 43 = .ok (.iconst 2, 1) := by decide +kernel
theorem dX11_yields_44 : decode cX11_yields 44 = .ok (.imul, 1) := by decide +kernel
theorem dX11_yields_45 : decode cX11_yields 45 = .ok (.iload_n 3, 1) := by decide +kernel
theorem dX11_yields_46 : decode cX11_yields 46 = .ok (.iadd, 1) := by decide +kernel
theorem dX11_yields_47 : decode cX11_yields 47 = .ok (.ishr, 1) := by decide +kernel
theorem dX11_yields_48 : decode cX11_yields 48 = .ok (.iconst 1, 1) := by decide +kernel
theorem dX11_yields_49 : decode cX11_yields 49 = .ok (.iand, 1) := by decide +kernel
theorem dX11_yields_50 : decode cX11_yields 50 = .ok (.ireturn, 1) := by decide +kernel
theorem kc_RX11_209 : Cond.methodLink RX11 209 yX11_isBit ∈ ktG ∧ Cond.static yX11_isBit ∈ ktG ∧ Cond.initialized yX11_isBit.cls ∈ ktG ∧ Cond.code yX11_isBit cX11_isBit 1 (some .boolean) ∈ ktG := ⟨(kwm 845 (by decide +kernel) (by decide +kernel)), (kwm 846 (by decide +kernel) (by decide +kernel)), (kwm 123 (by decide +kernel) (by decide +kernel)), kwm 847 (by decide +kernel) (by decide +kernel)⟩
theorem kh_X11_isBit : yX11_isBit.cls ≠ "java/lang/invoke/MethodHandle" ∧ yX11_isBit.cls ≠ "java/lang/invoke/VarHandle" ∧ (parseMethodDescriptor yX11_isBit.desc).map (fun d => d.parameters.length) = some 1 := by decide +kernel
theorem kc_RX11_212 : Cond.methodLink RX11 212 yX2_yieldBits ∈ ktG ∧ (Cond.instanceMethod yX2_yieldBits ∈ ktG ∧ Cond.selects yX2_yieldBits.cls yX2_yieldBits yX2_yieldBits ∈ ktG) ∧ Cond.initialized yX2_yieldBits.cls ∈ ktG ∧ Cond.code yX2_yieldBits cX2_yieldBits 7 (some .int) ∈ ktG := ⟨(kwm 848 (by decide +kernel) (by decide +kernel)), ⟨(kwm 849 (by decide +kernel) (by decide +kernel)), (kwm 850 (by decide +kernel) (by decide +kernel))⟩, (kwm 134 (by decide +kernel) (by decide +kernel)), kwm 851 (by decide +kernel) (by decide +kernel)⟩
def f_X11_yields (h : KH) (v0 : Nat) (v1 : Int32) (v2 : Int32) (v3 : Int32) : Option (Int32 × KH) :=
  if kkind v0 = 11 then kb (f_X11_isKind h v0 v1) fun r2 =>
  if r2 = 0 then
  some ((-1 : Int32), h)
  else
  kb (f_X11_isTest h v0 v2) fun r6 =>
  if r6 = 0 then
  some ((-1 : Int32), h)
  else
  kb (f_X11_isBit h v3) fun r10 =>
  if r10 = 0 then
  some ((-1 : Int32), h)
  else
  if (kR h v0 5) < 999999 then if (kR h v0 7) < 999999 then if kkind (kR h v0 7) = 8 then if (kR h (kR h v0 7) 3) < 999999 then if kkind (kR h (kR h v0 7) 3) = 20 then if (v2 < 0 ∨ klen (kR h (kR h v0 7) 3) ≤ (v2).toNatClampNeg) then none else if kkind (kR h v0 5) = 2 then kb (f_X2_yieldBits h (kR h v0 5) v2 (kI h (kR h (kR h v0 7) 3) ((v2).toNatClampNeg))) fun r21 =>
  some (((r21.1 >>> (((v1 * (2 : Int32)) + v3) &&& 31)) &&& (1 : Int32)), r21.2) else none else none else none else none else none else none else none
set_option maxHeartbeats 4000000 in
set_option maxRecDepth 100000 in
theorem s0_X11_yields {Z : Nat → (Nat → Nat) → State → Prop} (h : KH) (v0 : Nat) (v1 : Int32) (v2 : Int32) (v3 : Int32) {t : Int32 × KH} (hn : h.1 = 243) (H : f_X11_yields h v0 v1 v2 v3 = some t) : KX Z RX11 cX11_yields 4 false 6 (KRi cX11_yields t.1 t.2) 0 [(0, .ref v0), (1, .int v1), (2, .int v2), (3, .int v3)] [] h := by
  unfold f_X11_yields at H
  refine x_aload_n (q := 1) dX11_yields_0 rfl rfl ?_
  refine x_iload_n (q := 2) dX11_yields_1 rfl rfl ?_
  replace H := kif H; obtain ⟨g1, H⟩ := H
  replace H := kbe H; obtain ⟨r2, c3, H⟩ := H
  have m4 := s_X11_isKind (Z := Z) h v0 v1 hn c3
  refine x_callV (q := 5) (as := [.int v1]) (rest := []) dX11_yields_2 rfl kc_RX11_180 kh_X11_isKind (by decide) (Nat.le_of_ble_eq_true rfl) m4 (ci := 11) (by exact ⟨rfl, by decide⟩) (k243 g1 (by decide) hn) ?_
  replace H := kite H; rcases H with ⟨g5, H⟩ | ⟨g5, H⟩
  · refine x_if_eq_t dX11_yields_5 (q := 23) (by decide) g5 ?_
    refine x_iconst (q := 24) (v := (-1 : Int32)) dX11_yields_23 rfl (by decide) ?_
    cases H
    exact x_end ⟨dX11_yields_24, rfl, rfl⟩
  · refine x_if_eq_f (q := 8) dX11_yields_5 (t := 23) (by decide) rfl g5 ?_
    refine x_aload_n (q := 9) dX11_yields_8 rfl rfl ?_
    refine x_iload_n (q := 10) dX11_yields_9 rfl rfl ?_
    replace H := kbe H; obtain ⟨r6, c7, H⟩ := H
    have m8 := s_X11_isTest (Z := Z) h v0 v2 hn c7
    refine x_callV (q := 13) (as := [.int v2]) (rest := []) dX11_yields_10 rfl kc_RX11_188 kh_X11_isTest (by decide) (Nat.le_of_ble_eq_true rfl) m8 (ci := 11) (by exact ⟨rfl, by decide⟩) (k243 g1 (by decide) hn) ?_
    replace H := kite H; rcases H with ⟨g9, H⟩ | ⟨g9, H⟩
    · refine x_if_eq_t dX11_yields_13 (q := 23) (by decide) g9 ?_
      refine x_iconst (q := 24) (v := (-1 : Int32)) dX11_yields_23 rfl (by decide) ?_
      cases H
      exact x_end ⟨dX11_yields_24, rfl, rfl⟩
    · refine x_if_eq_f (q := 16) dX11_yields_13 (t := 23) (by decide) rfl g9 ?_
      refine x_iload_n (q := 17) dX11_yields_16 rfl rfl ?_
      replace H := kbe H; obtain ⟨r10, c11, H⟩ := H
      have m12 := s_X11_isBit (Z := Z) h v3 hn c11
      refine x_callS (q := 20) (as := [.int v3]) (rest := []) dX11_yields_17 rfl kc_RX11_209 kh_X11_isBit (by decide) (Nat.le_of_ble_eq_true rfl) m12 ?_
      replace H := kite H; rcases H with ⟨g13, H⟩ | ⟨g13, H⟩
      · refine x_if_ne_f (q := 23) dX11_yields_20 (t := 25) (by decide) rfl g13 ?_
        refine x_iconst (q := 24) (v := (-1 : Int32)) dX11_yields_23 rfl (by decide) ?_
        cases H
        exact x_end ⟨dX11_yields_24, rfl, rfl⟩
      · refine x_if_ne_t dX11_yields_20 (q := 25) (by decide) g13 ?_
        refine x_aload_n (q := 26) dX11_yields_25 rfl rfl ?_
        replace H := kif H; obtain ⟨g14, H⟩ := H
        refine x_getR (q := 29) dX11_yields_26 rfl kl_RX11_57 rfl (k243 g1 (by decide) hn) g14 ?_
        refine x_iload_n (q := 30) dX11_yields_29 rfl rfl ?_
        refine x_aload_n (q := 31) dX11_yields_30 rfl rfl ?_
        replace H := kif H; obtain ⟨g15, H⟩ := H
        refine x_getR (q := 34) dX11_yields_31 rfl kl_RX11_67 rfl (k243 g1 (by decide) hn) g15 ?_
        replace H := kif H; obtain ⟨g16, H⟩ := H
        replace H := kif H; obtain ⟨g17, H⟩ := H
        refine x_getR (q := 37) dX11_yields_34 rfl kl_RX11_194 rfl (k243 g16 (by decide) hn) g17 ?_
        refine x_iload_n (q := 38) dX11_yields_37 rfl rfl ?_
        replace H := kif H; obtain ⟨g18, H⟩ := H
        replace H := kifn H; obtain ⟨g19, H⟩ := H
        refine x_iald (q := 39) dX11_yields_38 rfl (k243 g18 (by decide) hn) g19 ?_
        replace H := kif H; obtain ⟨g20, H⟩ := H
        replace H := kbe H; obtain ⟨r21, c22, H⟩ := H
        have m23 := s_X2_yieldBits (Z := Z) h (kR h v0 5) v2 (kI h (kR h (kR h v0 7) 3) ((v2).toNatClampNeg)) hn c22
        refine x_callV (q := 42) (as := [.int v2, .int (kI h (kR h (kR h v0 7) 3) ((v2).toNatClampNeg))]) (rest := []) dX11_yields_39 rfl kc_RX11_212 kh_X2_yieldBits (by decide) (Nat.le_of_ble_eq_true rfl) m23 (ci := 2) (by exact ⟨rfl, by decide⟩) (k243 g20 (by decide) hn) ?_
        have n24 : (r21.2).1 = 243 := m23.1.full hn
        refine x_iload_n (q := 43) dX11_yields_42 rfl rfl ?_
        refine x_iconst (q := 44) (v := (2 : Int32)) dX11_yields_43 rfl (by decide) ?_
        refine x_imul (q := 45) dX11_yields_44 rfl ?_
        refine x_iload_n (q := 46) dX11_yields_45 rfl rfl ?_
        refine x_iadd (q := 47) dX11_yields_46 rfl ?_
        refine x_ishr (q := 48) dX11_yields_47 rfl ?_
        refine x_iconst (q := 49) (v := (1 : Int32)) dX11_yields_48 rfl (by decide) ?_
        refine x_iand (q := 50) dX11_yields_49 rfl ?_
        cases H
        exact x_end ⟨dX11_yields_50, rfl, rfl⟩
theorem s_X11_yields {Z : Nat → (Nat → Nat) → State → Prop} (h : KH) (v0 : Nat) (v1 : Int32) (v2 : Int32) (v3 : Int32) {t : Int32 × KH} (hn : h.1 = 243) (H : f_X11_yields h v0 v1 v2 v3 = some t) : KM Z yX11_yields cX11_yields 4 (some .int) 6 [.ref v0, .int v1, .int v2, .int v3] h (some (.int t.1)) t.2 :=
  kx_i (own := RX11) (ini := false) (by decide +kernel) (by decide +kernel) rfl (Nat.le_of_ble_eq_true rfl) (s0_X11_yields h v0 v1 v2 v3 hn H)
theorem dX11_kept_0 : decode cX11_kept 0 = .ok (.aload_n 0, 1) := by decide +kernel
theorem dX11_kept_1 : decode cX11_kept 1 = .ok (.invokevirtual 173, 3) := by decide +kernel
theorem dX11_kept_4 : decode cX11_kept 4 = .ok (.istore_n 3, 1) := by decide +kernel
theorem dX11_kept_5 : decode cX11_kept 5 = .ok (.iload_n 1, 1) := by decide +kernel
theorem dX11_kept_6 : decode cX11_kept 6 = .ok (.ifCond .lt 17, 3) := by decide +kernel
theorem dX11_kept_9 : decode cX11_kept 9 = .ok (.iload_n 1, 1) := by decide +kernel
theorem dX11_kept_10 : decode cX11_kept 10 = .ok (.iload_n 3, 1) := by decide +kernel
theorem dX11_kept_11 : decode cX11_kept 11 = .ok (.if_icmp .ge 12, 3) := by decide +kernel
theorem dX11_kept_14 : decode cX11_kept 14 = .ok (.iload_n 2, 1) := by decide +kernel
theorem dX11_kept_15 : decode cX11_kept 15 = .ok (.ifCond .lt 8, 3) := by decide +kernel
theorem dX11_kept_18 : decode cX11_kept 18 = .ok (.iload_n 2, 1) := by decide +kernel
theorem dX11_kept_19 : decode cX11_kept 19 = .ok (.iconst 3, 1) := by decide +kernel
theorem dX11_kept_20 : decode cX11_kept 20 = .ok (.if_icmp .le 5, 3) := by decide +kernel
theorem dX11_kept_23 : decode cX11_kept 23 = .ok (.iconst (-1), 1) := by decide +kernel
theorem dX11_kept_24 : decode cX11_kept 24 = .ok (.ireturn, 1) := by decide +kernel
theorem dX11_kept_25 : decode cX11_kept 25 = .ok (.aload_n 0, 1) := by decide +kernel
theorem dX11_kept_26 : decode cX11_kept 26 = .ok (.getfield 77, 3) := by decide +kernel
theorem dX11_kept_29 : decode cX11_kept 29 = .ok (.aload_n 0, 1) := by decide +kernel
theorem dX11_kept_30 : decode cX11_kept 30 = .ok (.getfield 67, 3) := by decide +kernel
theorem dX11_kept_33 : decode cX11_kept 33 = .ok (.getfield 215, 3) := by decide +kernel
theorem dX11_kept_36 : decode cX11_kept 36 = .ok (.iload_n 3, 1) := by decide +kernel
theorem dX11_kept_37 : decode cX11_kept 37 = .ok (.isub, 1) := by decide +kernel
theorem dX11_kept_38 : decode cX11_kept 38 = .ok (.iload_n 1, 1) := by decide +kernel
theorem dX11_kept_39 : decode cX11_kept 39 = .ok (.iadd, 1) := by decide +kernel
theorem dX11_kept_40 : decode cX11_kept 40 = .ok (.iload_n 2, 1) := by decide +kernel
theorem dX11_kept_41 : decode cX11_kept 41 = .ok (.invokevirtual 218, 3) := by decide +kernel
theorem dX11_kept_44 : decode cX11_kept 44 = .ok (.ireturn, 1) := by decide +kernel
theorem kc_RX11_218 : Cond.methodLink RX11 218 yX5_cell ∈ ktG ∧ (Cond.instanceMethod yX5_cell ∈ ktG ∧ Cond.selects yX5_cell.cls yX5_cell yX5_cell ∈ ktG) ∧ Cond.initialized yX5_cell.cls ∈ ktG ∧ Cond.code yX5_cell cX5_cell 3 (some .int) ∈ ktG := ⟨(kwm 887 (by decide +kernel) (by decide +kernel)), ⟨(kwm 888 (by decide +kernel) (by decide +kernel)), (kwm 889 (by decide +kernel) (by decide +kernel))⟩, (kwm 136 (by decide +kernel) (by decide +kernel)), kwm 890 (by decide +kernel) (by decide +kernel)⟩
theorem kh_X5_cell : yX5_cell.cls ≠ "java/lang/invoke/MethodHandle" ∧ yX5_cell.cls ≠ "java/lang/invoke/VarHandle" ∧ (parseMethodDescriptor yX5_cell.desc).map (fun d => d.parameters.length) = some 2 := by decide +kernel
def f_X11_kept (h : KH) (v0 : Nat) (v1 : Int32) (v2 : Int32) : Option (Int32) :=
  if kkind v0 = 11 then kb (f_X11_keptCount h v0) fun r2 =>
  if v1 < 0 then
  some (-1 : Int32)
  else
  if r2 ≤ v1 then
  some (-1 : Int32)
  else
  if v2 < 0 then
  some (-1 : Int32)
  else
  if v2 ≤ (3 : Int32) then
  if (kR h v0 9) < 999999 then if (kR h v0 7) < 999999 then if kkind (kR h v0 7) = 8 then if kkind (kR h v0 9) = 5 then kb (f_X5_cell h (kR h v0 9) (((kI h (kR h v0 7) 2) - r2) + v1) v2) fun r13 =>
  some r13 else none else none else none else none
  else
  some (-1 : Int32) else none
set_option maxHeartbeats 4000000 in
set_option maxRecDepth 100000 in
theorem s0_X11_kept {Z : Nat → (Nat → Nat) → State → Prop} (h : KH) (v0 : Nat) (v1 : Int32) (v2 : Int32) {t : Int32} (hn : h.1 = 243) (H : f_X11_kept h v0 v1 v2 = some t) : KX Z RX11 cX11_kept 4 false 3 (KRi cX11_kept t h) 0 [(0, .ref v0), (1, .int v1), (2, .int v2)] [] h := by
  unfold f_X11_kept at H
  refine x_aload_n (q := 1) dX11_kept_0 rfl rfl ?_
  replace H := kif H; obtain ⟨g1, H⟩ := H
  replace H := kbe H; obtain ⟨r2, c3, H⟩ := H
  have m4 := s_X11_keptCount (Z := Z) h v0 hn c3
  refine x_callV (q := 4) (as := []) (rest := []) dX11_kept_1 rfl kc_RX11_173 kh_X11_keptCount (by decide) (Nat.le_of_ble_eq_true rfl) m4 (ci := 11) (by exact ⟨rfl, by decide⟩) (k243 g1 (by decide) hn) ?_
  refine x_istore_n (q := 5) (i := 3) (ls2 := [(3, .int r2), (0, .ref v0), (1, .int v1), (2, .int v2)]) dX11_kept_4 rfl rfl (by decide) rfl ?_
  refine x_iload_n (q := 6) dX11_kept_5 rfl rfl ?_
  replace H := kite H; rcases H with ⟨g5, H⟩ | ⟨g5, H⟩
  · refine x_if_lt_t dX11_kept_6 (q := 23) (by decide) g5 ?_
    refine x_iconst (q := 24) (v := (-1 : Int32)) dX11_kept_23 rfl (by decide) ?_
    cases H
    exact x_end ⟨dX11_kept_24, rfl, rfl⟩
  · refine x_if_lt_f (q := 9) dX11_kept_6 (t := 23) (by decide) rfl g5 ?_
    refine x_iload_n (q := 10) dX11_kept_9 rfl rfl ?_
    refine x_iload_n (q := 11) dX11_kept_10 rfl rfl ?_
    replace H := kite H; rcases H with ⟨g6, H⟩ | ⟨g6, H⟩
    · refine x_icmp_ge_t dX11_kept_11 (q := 23) (by decide) g6 ?_
      refine x_iconst (q := 24) (v := (-1 : Int32)) dX11_kept_23 rfl (by decide) ?_
      cases H
      exact x_end ⟨dX11_kept_24, rfl, rfl⟩
    · refine x_icmp_ge_f (q := 14) dX11_kept_11 (t := 23) (by decide) rfl g6 ?_
      refine x_iload_n (q := 15) dX11_kept_14 rfl rfl ?_
      replace H := kite H; rcases H with ⟨g7, H⟩ | ⟨g7, H⟩
      · refine x_if_lt_t dX11_kept_15 (q := 23) (by decide) g7 ?_
        refine x_iconst (q := 24) (v := (-1 : Int32)) dX11_kept_23 rfl (by decide) ?_
        cases H
        exact x_end ⟨dX11_kept_24, rfl, rfl⟩
      · refine x_if_lt_f (q := 18) dX11_kept_15 (t := 23) (by decide) rfl g7 ?_
        refine x_iload_n (q := 19) dX11_kept_18 rfl rfl ?_
        refine x_iconst (q := 20) (v := (3 : Int32)) dX11_kept_19 rfl (by decide) ?_
        replace H := kite H; rcases H with ⟨g8, H⟩ | ⟨g8, H⟩
        · refine x_icmp_le_t dX11_kept_20 (q := 25) (by decide) g8 ?_
          refine x_aload_n (q := 26) dX11_kept_25 rfl rfl ?_
          replace H := kif H; obtain ⟨g9, H⟩ := H
          refine x_getR (q := 29) dX11_kept_26 rfl kl_RX11_77 rfl (k243 g1 (by decide) hn) g9 ?_
          refine x_aload_n (q := 30) dX11_kept_29 rfl rfl ?_
          replace H := kif H; obtain ⟨g10, H⟩ := H
          refine x_getR (q := 33) dX11_kept_30 rfl kl_RX11_67 rfl (k243 g1 (by decide) hn) g10 ?_
          replace H := kif H; obtain ⟨g11, H⟩ := H
          refine x_getI (q := 36) dX11_kept_33 rfl kl_RX11_215 (Or.inl rfl) (k243 g11 (by decide) hn) ?_
          refine x_iload_n (q := 37) dX11_kept_36 rfl rfl ?_
          refine x_isub (q := 38) dX11_kept_37 rfl ?_
          refine x_iload_n (q := 39) dX11_kept_38 rfl rfl ?_
          refine x_iadd (q := 40) dX11_kept_39 rfl ?_
          refine x_iload_n (q := 41) dX11_kept_40 rfl rfl ?_
          replace H := kif H; obtain ⟨g12, H⟩ := H
          replace H := kbe H; obtain ⟨r13, c14, H⟩ := H
          have m15 := s_X5_cell (Z := Z) h (kR h v0 9) (((kI h (kR h v0 7) 2) - r2) + v1) v2 hn c14
          refine x_callV (q := 44) (as := [.int (((kI h (kR h v0 7) 2) - r2) + v1), .int v2]) (rest := []) dX11_kept_41 rfl kc_RX11_218 kh_X5_cell (by decide) (Nat.le_of_ble_eq_true rfl) m15 (ci := 5) (by exact ⟨rfl, by decide⟩) (k243 g12 (by decide) hn) ?_
          cases H
          exact x_end ⟨dX11_kept_44, rfl, rfl⟩
        · refine x_icmp_le_f (q := 23) dX11_kept_20 (t := 25) (by decide) rfl g8 ?_
          refine x_iconst (q := 24) (v := (-1 : Int32)) dX11_kept_23 rfl (by decide) ?_
          cases H
          exact x_end ⟨dX11_kept_24, rfl, rfl⟩
theorem s_X11_kept {Z : Nat → (Nat → Nat) → State → Prop} (h : KH) (v0 : Nat) (v1 : Int32) (v2 : Int32) {t : Int32} (hn : h.1 = 243) (H : f_X11_kept h v0 v1 v2 = some t) : KM Z yX11_kept cX11_kept 4 (some .int) 3 [.ref v0, .int v1, .int v2] h (some (.int t)) h :=
  kx_i (own := RX11) (ini := false) (by decide +kernel) (by decide +kernel) rfl (Nat.le_of_ble_eq_true rfl) (s0_X11_kept h v0 v1 v2 hn H)
theorem dX11_weight_0 : decode cX11_weight 0 = .ok (.iload_n 1, 1) := by decide +kernel
theorem dX11_weight_1 : decode cX11_weight 1 = .ok (.invokestatic 209, 3) := by decide +kernel
theorem dX11_weight_4 : decode cX11_weight 4 = .ok (.ifCond .eq 19, 3) := by decide +kernel
theorem dX11_weight_7 : decode cX11_weight 7 = .ok (.aload_n 0, 1) := by decide +kernel
theorem dX11_weight_8 : decode cX11_weight 8 = .ok (.iload_n 2, 1) := by decide +kernel
theorem dX11_weight_9 : decode cX11_weight 9 = .ok (.invokevirtual 180, 3) := by decide +kernel
theorem dX11_weight_12 : decode cX11_weight 12 = .ok (.ifCond .eq 11, 3) := by decide +kernel
theorem dX11_weight_15 : decode cX11_weight 15 = .ok (.aload_n 0, 1) := by decide +kernel
theorem dX11_weight_16 : decode cX11_weight 16 = .ok (.iload_n 3, 1) := by decide +kernel
theorem dX11_weight_17 : decode cX11_weight 17 = .ok (.invokevirtual 180, 3) := by decide +kernel
theorem dX11_weight_20 : decode cX11_weight 20 = .ok (.ifCond .ne 7, 3) := by decide +kernel
theorem dX11_weight_23 : decode cX11_weight 23 = .ok (.ldc2_w 221, 3) := by decide +kernel
theorem dX11_weight_26 : decode cX11_weight 26 = .ok (.lreturn, 1) := by decide +kernel
theorem dX11_weight_27 : decode cX11_weight 27 = .ok (.aload_n 0, 1) := by decide +kernel
theorem dX11_weight_28 : decode cX11_weight 28 = .ok (.getfield 91, 3) := by decide +kernel
theorem dX11_weight_31 : decode cX11_weight 31 = .ok (.aload_n 0, 1) := by decide +kernel
theorem dX11_weight_32 : decode cX11_weight 32 = .ok (.getfield 57, 3) := by decide +kernel
theorem dX11_weight_35 : decode cX11_weight 35 = .ok (.aload_n 0, 1) := by decide +kernel
theorem dX11_weight_36 : decode cX11_weight 36 = .ok (.getfield 67, 3) := by decide +kernel
theorem dX11_weight_39 : decode cX11_weight 39 = .ok (.invokevirtual 223, 3) := by decide +kernel
theorem dX11_weight_42 : decode cX11_weight 42 = .ok (.aload_n 0, 1) := by decide +kernel
theorem dX11_weight_43 : decode cX11_weight 43 = .ok (.getfield 91, 3) := by decide +kernel
theorem dX11_weight_46 : decode cX11_weight 46 = .ok (.iload_n 1, 1) := by decide +kernel
theorem dX11_weight_47 : decode cX11_weight 47 = .ok (.iload_n 2, 1) := by decide +kernel
theorem dX11_weight_48 : decode cX11_weight 48 = .ok (.iload_n 3, 1) := by decide +kernel
theorem dX11_weight_49 : decode cX11_weight 49 = .ok (.invokevirtual 227, 3) := by decide +kernel
theorem dX11_weight_52 : decode cX11_weight 52 = .ok (.lreturn, 1) := by decide +kernel
theorem kk_RX11_221 : Jvm.Cond.constantLong RX11 221 (-1000000000000000 : Int64) ∈ ktG := kwm 898 (by decide +kernel) (by decide +kernel)
theorem kl_RX11_91 : KLk RX11 91 11 11 := ⟨RX11, TX11, 18, rfl, by decide, Or.inl (kwm 539 (by decide +kernel) (by decide +kernel))⟩
theorem kc_RX11_223 : Cond.methodLink RX11 223 yX10_weigh ∈ ktG ∧ (Cond.instanceMethod yX10_weigh ∈ ktG ∧ Cond.selects yX10_weigh.cls yX10_weigh yX10_weigh ∈ ktG) ∧ Cond.initialized yX10_weigh.cls ∈ ktG ∧ Cond.code yX10_weigh cX10_weigh 10 none ∈ ktG := ⟨(kwm 899 (by decide +kernel) (by decide +kernel)), ⟨(kwm 900 (by decide +kernel) (by decide +kernel)), (kwm 901 (by decide +kernel) (by decide +kernel))⟩, (kwm 138 (by decide +kernel) (by decide +kernel)), kwm 902 (by decide +kernel) (by decide +kernel)⟩
theorem kh_X10_weigh : yX10_weigh.cls ≠ "java/lang/invoke/MethodHandle" ∧ yX10_weigh.cls ≠ "java/lang/invoke/VarHandle" ∧ (parseMethodDescriptor yX10_weigh.desc).map (fun d => d.parameters.length) = some 2 := by decide +kernel
theorem kc_RX11_227 : Cond.methodLink RX11 227 yX10_weightOf ∈ ktG ∧ (Cond.instanceMethod yX10_weightOf ∈ ktG ∧ Cond.selects yX10_weightOf.cls yX10_weightOf yX10_weightOf ∈ ktG) ∧ Cond.initialized yX10_weightOf.cls ∈ ktG ∧ Cond.code yX10_weightOf cX10_weightOf 4 (some .long) ∈ ktG := ⟨(kwm 916 (by decide +kernel) (by decide +kernel)), ⟨(kwm 917 (by decide +kernel) (by decide +kernel)), (kwm 918 (by decide +kernel) (by decide +kernel))⟩, (kwm 138 (by decide +kernel) (by decide +kernel)), kwm 919 (by decide +kernel) (by decide +kernel)⟩
theorem kh_X10_weightOf : yX10_weightOf.cls ≠ "java/lang/invoke/MethodHandle" ∧ yX10_weightOf.cls ≠ "java/lang/invoke/VarHandle" ∧ (parseMethodDescriptor yX10_weightOf.desc).map (fun d => d.parameters.length) = some 3 := by decide +kernel
def f_X11_weight (h : KH) (v0 : Nat) (v1 : Int32) (v2 : Int32) (v3 : Int32) : Option (Int64 × KH) :=
  kb (f_X11_isBit h v1) fun r1 =>
  if r1 = 0 then
  some ((-1000000000000000 : Int64), h)
  else
  if kkind v0 = 11 then kb (f_X11_isKind h v0 v2) fun r6 =>
  if r6 = 0 then
  some ((-1000000000000000 : Int64), h)
  else
  kb (f_X11_isKind h v0 v3) fun r10 =>
  if r10 = 0 then
  some ((-1000000000000000 : Int64), h)
  else
  if (kR h v0 11) < 999999 then if (kR h v0 5) < 999999 then if (kR h v0 7) < 999999 then if kkind (kR h v0 11) = 10 then kb (f_X10_weigh h (kR h v0 11) (kR h v0 5) (kR h v0 7)) fun r18 =>
  if (kR r18 v0 11) < 999999 then if kkind (kR r18 v0 11) = 10 then kb (f_X10_weightOf r18 (kR r18 v0 11) v1 v2 v3) fun r24 =>
  some (r24, r18) else none else none else none else none else none else none else none
set_option maxHeartbeats 4000000 in
set_option maxRecDepth 100000 in
theorem s0_X11_weight {Z : Nat → (Nat → Nat) → State → Prop} (h : KH) (v0 : Nat) (v1 : Int32) (v2 : Int32) (v3 : Int32) {t : Int64 × KH} (hn : h.1 = 243) (H : f_X11_weight h v0 v1 v2 v3 = some t) : KX Z RX11 cX11_weight 4 false 7 (KRl cX11_weight t.1 t.2) 0 [(0, .ref v0), (1, .int v1), (2, .int v2), (3, .int v3)] [] h := by
  unfold f_X11_weight at H
  refine x_iload_n (q := 1) dX11_weight_0 rfl rfl ?_
  replace H := kbe H; obtain ⟨r1, c2, H⟩ := H
  have m3 := s_X11_isBit (Z := Z) h v1 hn c2
  refine x_callS (q := 4) (as := [.int v1]) (rest := []) dX11_weight_1 rfl kc_RX11_209 kh_X11_isBit (by decide) (Nat.le_of_ble_eq_true rfl) m3 ?_
  replace H := kite H; rcases H with ⟨g4, H⟩ | ⟨g4, H⟩
  · refine x_if_eq_t dX11_weight_4 (q := 23) (by decide) g4 ?_
    refine x_ldc2 (q := 26) (v := (-1000000000000000 : Int64)) dX11_weight_23 rfl kk_RX11_221 ?_
    cases H
    exact x_end ⟨dX11_weight_26, rfl, rfl⟩
  · refine x_if_eq_f (q := 7) dX11_weight_4 (t := 23) (by decide) rfl g4 ?_
    refine x_aload_n (q := 8) dX11_weight_7 rfl rfl ?_
    refine x_iload_n (q := 9) dX11_weight_8 rfl rfl ?_
    replace H := kif H; obtain ⟨g5, H⟩ := H
    replace H := kbe H; obtain ⟨r6, c7, H⟩ := H
    have m8 := s_X11_isKind (Z := Z) h v0 v2 hn c7
    refine x_callV (q := 12) (as := [.int v2]) (rest := []) dX11_weight_9 rfl kc_RX11_180 kh_X11_isKind (by decide) (Nat.le_of_ble_eq_true rfl) m8 (ci := 11) (by exact ⟨rfl, by decide⟩) (k243 g5 (by decide) hn) ?_
    replace H := kite H; rcases H with ⟨g9, H⟩ | ⟨g9, H⟩
    · refine x_if_eq_t dX11_weight_12 (q := 23) (by decide) g9 ?_
      refine x_ldc2 (q := 26) (v := (-1000000000000000 : Int64)) dX11_weight_23 rfl kk_RX11_221 ?_
      cases H
      exact x_end ⟨dX11_weight_26, rfl, rfl⟩
    · refine x_if_eq_f (q := 15) dX11_weight_12 (t := 23) (by decide) rfl g9 ?_
      refine x_aload_n (q := 16) dX11_weight_15 rfl rfl ?_
      refine x_iload_n (q := 17) dX11_weight_16 rfl rfl ?_
      replace H := kbe H; obtain ⟨r10, c11, H⟩ := H
      have m12 := s_X11_isKind (Z := Z) h v0 v3 hn c11
      refine x_callV (q := 20) (as := [.int v3]) (rest := []) dX11_weight_17 rfl kc_RX11_180 kh_X11_isKind (by decide) (Nat.le_of_ble_eq_true rfl) m12 (ci := 11) (by exact ⟨rfl, by decide⟩) (k243 g5 (by decide) hn) ?_
      replace H := kite H; rcases H with ⟨g13, H⟩ | ⟨g13, H⟩
      · refine x_if_ne_f (q := 23) dX11_weight_20 (t := 27) (by decide) rfl g13 ?_
        refine x_ldc2 (q := 26) (v := (-1000000000000000 : Int64)) dX11_weight_23 rfl kk_RX11_221 ?_
        cases H
        exact x_end ⟨dX11_weight_26, rfl, rfl⟩
      · refine x_if_ne_t dX11_weight_20 (q := 27) (by decide) g13 ?_
        refine x_aload_n (q := 28) dX11_weight_27 rfl rfl ?_
        replace H := kif H; obtain ⟨g14, H⟩ := H
        refine x_getR (q := 31) dX11_weight_28 rfl kl_RX11_91 rfl (k243 g5 (by decide) hn) g14 ?_
        refine x_aload_n (q := 32) dX11_weight_31 rfl rfl ?_
        replace H := kif H; obtain ⟨g15, H⟩ := H
        refine x_getR (q := 35) dX11_weight_32 rfl kl_RX11_57 rfl (k243 g5 (by decide) hn) g15 ?_
        refine x_aload_n (q := 36) dX11_weight_35 rfl rfl ?_
        replace H := kif H; obtain ⟨g16, H⟩ := H
        refine x_getR (q := 39) dX11_weight_36 rfl kl_RX11_67 rfl (k243 g5 (by decide) hn) g16 ?_
        replace H := kif H; obtain ⟨g17, H⟩ := H
        replace H := kbe H; obtain ⟨r18, c19, H⟩ := H
        have m20 := s_X10_weigh (Z := Z) h (kR h v0 11) (kR h v0 5) (kR h v0 7) hn c19
        refine x_callV (q := 42) (as := [.ref (kR h v0 5), .ref (kR h v0 7)]) (rest := []) dX11_weight_39 rfl kc_RX11_223 kh_X10_weigh (by decide) (Nat.le_of_ble_eq_true rfl) m20 (ci := 10) (by exact ⟨rfl, by decide⟩) (k243 g17 (by decide) hn) ?_
        have n21 : (r18).1 = 243 := m20.1.full hn
        refine x_aload_n (q := 43) dX11_weight_42 rfl rfl ?_
        replace H := kif H; obtain ⟨g22, H⟩ := H
        refine x_getR (q := 46) dX11_weight_43 rfl kl_RX11_91 rfl (k243 g5 (by decide) n21) g22 ?_
        refine x_iload_n (q := 47) dX11_weight_46 rfl rfl ?_
        refine x_iload_n (q := 48) dX11_weight_47 rfl rfl ?_
        refine x_iload_n (q := 49) dX11_weight_48 rfl rfl ?_
        replace H := kif H; obtain ⟨g23, H⟩ := H
        replace H := kbe H; obtain ⟨r24, c25, H⟩ := H
        have m26 := s_X10_weightOf (Z := Z) r18 (kR r18 v0 11) v1 v2 v3 n21 c25
        refine x_callV (q := 52) (as := [.int v1, .int v2, .int v3]) (rest := []) dX11_weight_49 rfl kc_RX11_227 kh_X10_weightOf (by decide) (Nat.le_of_ble_eq_true rfl) m26 (ci := 10) (by exact ⟨rfl, by decide⟩) (k243 g23 (by decide) n21) ?_
        cases H
        exact x_end ⟨dX11_weight_52, rfl, rfl⟩
theorem s_X11_weight {Z : Nat → (Nat → Nat) → State → Prop} (h : KH) (v0 : Nat) (v1 : Int32) (v2 : Int32) (v3 : Int32) {t : Int64 × KH} (hn : h.1 = 243) (H : f_X11_weight h v0 v1 v2 v3 = some t) : KM Z yX11_weight cX11_weight 4 (some .long) 7 [.ref v0, .int v1, .int v2, .int v3] h (some (.long t.1)) t.2 :=
  kx_l (own := RX11) (ini := false) (by decide +kernel) (by decide +kernel) rfl (Nat.le_of_ble_eq_true rfl) (s0_X11_weight h v0 v1 v2 v3 hn H)
theorem dX11_odds_0 : decode cX11_odds 0 = .ok (.iload_n 1, 1) := by decide +kernel
theorem dX11_odds_1 : decode cX11_odds 1 = .ok (.invokestatic 209, 3) := by decide +kernel
theorem dX11_odds_4 : decode cX11_odds 4 = .ok (.ifCond .ne 5, 3) := by decide +kernel
theorem dX11_odds_7 : decode cX11_odds 7 = .ok (.iconst (-1), 1) := by decide +kernel
theorem dX11_odds_8 : decode cX11_odds 8 = .ok (.ireturn, 1) := by decide +kernel
theorem dX11_odds_9 : decode cX11_odds 9 = .ok (.aload_n 0, 1) := by decide +kernel
theorem dX11_odds_10 : decode cX11_odds 10 = .ok (.getfield 91, 3) := by decide +kernel
theorem dX11_odds_13 : decode cX11_odds 13 = .ok (.aload_n 0, 1) := by decide +kernel
theorem dX11_odds_14 : decode cX11_odds 14 = .ok (.getfield 57, 3) := by decide +kernel
theorem dX11_odds_17 : decode cX11_odds 17 = .ok (.aload_n 0, 1) := by decide +kernel
theorem dX11_odds_18 : decode cX11_odds 18 = .ok (.getfield 67, 3) := by decide +kernel
theorem dX11_odds_21 : decode cX11_odds 21 = .ok (.invokevirtual 223, 3) := by decide +kernel
theorem dX11_odds_24 : decode cX11_odds 24 = .ok (.aload_n 0, 1) := by decide +kernel
theorem dX11_odds_25 : decode cX11_odds 25 = .ok (.getfield 91, 3) := by decide +kernel
theorem dX11_odds_28 : decode cX11_odds 28 = .ok (.aload_n 0, 1) := by decide +kernel
theorem dX11_odds_29 : decode cX11_odds 29 = .ok (.getfield 91, 3) := by decide +kernel
theorem dX11_odds_32 : decode cX11_odds 32 = .ok (.iload_n 1, 1) := by decide +kernel
theorem dX11_odds_33 : decode cX11_odds 33 = .ok (.invokevirtual 231, 3) := by decide +kernel
theorem dX11_odds_36 : decode cX11_odds 36 = .ok (.invokevirtual 235, 3) := by decide +kernel
theorem dX11_odds_39 : decode cX11_odds 39 = .ok (.ireturn, 1) := by decide +kernel
theorem kc_RX11_231 : Cond.methodLink RX11 231 yX10_sumOf ∈ ktG ∧ (Cond.instanceMethod yX10_sumOf ∈ ktG ∧ Cond.selects yX10_sumOf.cls yX10_sumOf yX10_sumOf ∈ ktG) ∧ Cond.initialized yX10_sumOf.cls ∈ ktG ∧ Cond.code yX10_sumOf cX10_sumOf 2 (some .long) ∈ ktG := ⟨(kwm 924 (by decide +kernel) (by decide +kernel)), ⟨(kwm 925 (by decide +kernel) (by decide +kernel)), (kwm 926 (by decide +kernel) (by decide +kernel))⟩, (kwm 138 (by decide +kernel) (by decide +kernel)), kwm 927 (by decide +kernel) (by decide +kernel)⟩
theorem kh_X10_sumOf : yX10_sumOf.cls ≠ "java/lang/invoke/MethodHandle" ∧ yX10_sumOf.cls ≠ "java/lang/invoke/VarHandle" ∧ (parseMethodDescriptor yX10_sumOf.desc).map (fun d => d.parameters.length) = some 1 := by decide +kernel
theorem kc_RX11_235 : Cond.methodLink RX11 235 yX10_share ∈ ktG ∧ (Cond.instanceMethod yX10_share ∈ ktG ∧ Cond.selects yX10_share.cls yX10_share yX10_share ∈ ktG) ∧ Cond.initialized yX10_share.cls ∈ ktG ∧ Cond.code yX10_share cX10_share 3 (some .int) ∈ ktG := ⟨(kwm 928 (by decide +kernel) (by decide +kernel)), ⟨(kwm 929 (by decide +kernel) (by decide +kernel)), (kwm 930 (by decide +kernel) (by decide +kernel))⟩, (kwm 138 (by decide +kernel) (by decide +kernel)), kwm 931 (by decide +kernel) (by decide +kernel)⟩
def f_X11_odds (h : KH) (v0 : Nat) (v1 : Int32) : Option (Int32 × KH) :=
  kb (f_X11_isBit h v1) fun r1 =>
  if r1 = 0 then
  some ((-1 : Int32), h)
  else
  if kkind v0 = 11 then if (kR h v0 11) < 999999 then if (kR h v0 5) < 999999 then if (kR h v0 7) < 999999 then if kkind (kR h v0 11) = 10 then kb (f_X10_weigh h (kR h v0 11) (kR h v0 5) (kR h v0 7)) fun r10 =>
  if (kR r10 v0 11) < 999999 then if kkind (kR r10 v0 11) = 10 then kb (f_X10_sumOf r10 (kR r10 v0 11) v1) fun r16 =>
  kb (f_X10_share r10 (kR r10 v0 11) r16) fun r19 =>
  some (r19, r10) else none else none else none else none else none else none else none
set_option maxHeartbeats 4000000 in
set_option maxRecDepth 100000 in
theorem s0_X11_odds {Z : Nat → (Nat → Nat) → State → Prop} (h : KH) (v0 : Nat) (v1 : Int32) {t : Int32 × KH} (hn : h.1 = 243) (H : f_X11_odds h v0 v1 = some t) : KX Z RX11 cX11_odds 2 false 7 (KRi cX11_odds t.1 t.2) 0 [(0, .ref v0), (1, .int v1)] [] h := by
  unfold f_X11_odds at H
  refine x_iload_n (q := 1) dX11_odds_0 rfl rfl ?_
  replace H := kbe H; obtain ⟨r1, c2, H⟩ := H
  have m3 := s_X11_isBit (Z := Z) h v1 hn c2
  refine x_callS (q := 4) (as := [.int v1]) (rest := []) dX11_odds_1 rfl kc_RX11_209 kh_X11_isBit (by decide) (Nat.le_of_ble_eq_true rfl) m3 ?_
  replace H := kite H; rcases H with ⟨g4, H⟩ | ⟨g4, H⟩
  · refine x_if_ne_f (q := 7) dX11_odds_4 (t := 9) (by decide) rfl g4 ?_
    refine x_iconst (q := 8) (v := (-1 : Int32)) dX11_odds_7 rfl (by decide) ?_
    cases H
    exact x_end ⟨dX11_odds_8, rfl, rfl⟩
  · refine x_if_ne_t dX11_odds_4 (q := 9) (by decide) g4 ?_
    refine x_aload_n (q := 10) dX11_odds_9 rfl rfl ?_
    replace H := kif H; obtain ⟨g5, H⟩ := H
    replace H := kif H; obtain ⟨g6, H⟩ := H
    refine x_getR (q := 13) dX11_odds_10 rfl kl_RX11_91 rfl (k243 g5 (by decide) hn) g6 ?_
    refine x_aload_n (q := 14) dX11_odds_13 rfl rfl ?_
    replace H := kif H; obtain ⟨g7, H⟩ := H
    refine x_getR (q := 17) dX11_odds_14 rfl kl_RX11_57 rfl (k243 g5 (by decide) hn) g7 ?_
    refine x_aload_n (q := 18) dX11_odds_17 rfl rfl ?_
    replace H := kif H; obtain ⟨g8, H⟩ := H
    refine x_getR (q := 21) dX11_odds_18 rfl kl_RX11_67 rfl (k243 g5 (by decide) hn) g8 ?_
    replace H := kif H; obtain ⟨g9, H⟩ := H
    replace H := kbe H; obtain ⟨r10, c11, H⟩ := H
    have m12 := s_X10_weigh (Z := Z) h (kR h v0 11) (kR h v0 5) (kR h v0 7) hn c11
    refine x_callV (q := 24) (as := [.ref (kR h v0 5), .ref (kR h v0 7)]) (rest := []) dX11_odds_21 rfl kc_RX11_223 kh_X10_weigh (by decide) (Nat.le_of_ble_eq_true rfl) m12 (ci := 10) (by exact ⟨rfl, by decide⟩) (k243 g9 (by decide) hn) ?_
    have n13 : (r10).1 = 243 := m12.1.full hn
    refine x_aload_n (q := 25) dX11_odds_24 rfl rfl ?_
    replace H := kif H; obtain ⟨g14, H⟩ := H
    refine x_getR (q := 28) dX11_odds_25 rfl kl_RX11_91 rfl (k243 g5 (by decide) n13) g14 ?_
    refine x_aload_n (q := 29) dX11_odds_28 rfl rfl ?_
    refine x_getR (q := 32) dX11_odds_29 rfl kl_RX11_91 rfl (k243 g5 (by decide) n13) g14 ?_
    refine x_iload_n (q := 33) dX11_odds_32 rfl rfl ?_
    replace H := kif H; obtain ⟨g15, H⟩ := H
    replace H := kbe H; obtain ⟨r16, c17, H⟩ := H
    have m18 := s_X10_sumOf (Z := Z) r10 (kR r10 v0 11) v1 n13 c17
    refine x_callV (q := 36) (as := [.int v1]) (rest := [.ref (kR r10 v0 11)]) dX11_odds_33 rfl kc_RX11_231 kh_X10_sumOf (by decide) (Nat.le_of_ble_eq_true rfl) m18 (ci := 10) (by exact ⟨rfl, by decide⟩) (k243 g15 (by decide) n13) ?_
    replace H := kbe H; obtain ⟨r19, c20, H⟩ := H
    have m21 := s_X10_share (Z := Z) r10 (kR r10 v0 11) r16 n13 c20
    refine x_callV (q := 39) (as := [.long r16]) (rest := []) dX11_odds_36 rfl kc_RX11_235 kh_X10_share (by decide) (Nat.le_of_ble_eq_true rfl) m21 (ci := 10) (by exact ⟨rfl, by decide⟩) (k243 g15 (by decide) n13) ?_
    cases H
    exact x_end ⟨dX11_odds_39, rfl, rfl⟩
theorem s_X11_odds {Z : Nat → (Nat → Nat) → State → Prop} (h : KH) (v0 : Nat) (v1 : Int32) {t : Int32 × KH} (hn : h.1 = 243) (H : f_X11_odds h v0 v1 = some t) : KM Z yX11_odds cX11_odds 2 (some .int) 7 [.ref v0, .int v1] h (some (.int t.1)) t.2 :=
  kx_i (own := RX11) (ini := false) (by decide +kernel) (by decide +kernel) rfl (Nat.le_of_ble_eq_true rfl) (s0_X11_odds h v0 v1 hn H)
theorem dX11_kinds_0 : decode cX11_kinds 0 = .ok (.iload_n 1, 1) := by decide +kernel
theorem dX11_kinds_1 : decode cX11_kinds 1 = .ok (.invokestatic 209, 3) := by decide +kernel
theorem dX11_kinds_4 : decode cX11_kinds 4 = .ok (.ifCond .eq 11, 3) := by decide +kernel
theorem dX11_kinds_7 : decode cX11_kinds 7 = .ok (.aload_n 0, 1) := by decide +kernel
theorem dX11_kinds_8 : decode cX11_kinds 8 = .ok (.iload_n 2, 1) := by decide +kernel
theorem dX11_kinds_9 : decode cX11_kinds 9 = .ok (.invokevirtual 180, 3) := by decide +kernel
theorem dX11_kinds_12 : decode cX11_kinds 12 = .ok (.ifCond .ne 5, 3) := by decide +kernel
theorem dX11_kinds_15 : decode cX11_kinds 15 = .ok (.iconst (-1), 1) := by decide +kernel
theorem dX11_kinds_16 : decode cX11_kinds 16 = .ok (.ireturn, 1) := by decide +kernel
theorem dX11_kinds_17 : decode cX11_kinds 17 = .ok (.aload_n 0, 1) := by decide +kernel
theorem dX11_kinds_18 : decode cX11_kinds 18 = .ok (.getfield 91, 3) := by decide +kernel
theorem dX11_kinds_21 : decode cX11_kinds 21 = .ok (.aload_n 0, 1) := by decide +kernel
theorem dX11_kinds_22 : decode cX11_kinds 22 = .ok (.getfield 57, 3) := by decide +kernel
theorem dX11_kinds_25 : decode cX11_kinds 25 = .ok (.aload_n 0, 1) := by decide +kernel
theorem dX11_kinds_26 : decode cX11_kinds 26 = .ok (.getfield 67, 3) := by decide +kernel
theorem dX11_kinds_29 : decode cX11_kinds 29 = .ok (.invokevirtual 223, 3) := by decide +kernel
theorem dX11_kinds_32 : decode cX11_kinds 32 = .ok (.aload_n 0, 1) := by decide +kernel
theorem dX11_kinds_33 : decode cX11_kinds 33 = .ok (.getfield 91, 3) := by decide +kernel
theorem dX11_kinds_36 : decode cX11_kinds 36 = .ok (.aload_n 0, 1) := by decide +kernel
theorem dX11_kinds_37 : decode cX11_kinds 37 = .ok (.getfield 91, 3) := by decide +kernel
theorem dX11_kinds_40 : decode cX11_kinds 40 = .ok (.iload_n 1, 1) := by decide +kernel
theorem dX11_kinds_41 : decode cX11_kinds 41 = .ok (.iload_n 2, 1) := by decide +kernel
theorem dX11_kinds_42 : decode cX11_kinds 42 = .ok (.invokevirtual 239, 3) := by decide +kernel
theorem dX11_kinds_45 : decode cX11_kinds 45 = .ok (.invokevirtual 235, 3) := by decide +kernel
theorem dX11_kinds_48 : decode cX11_kinds 48 = .ok (.ireturn, 1) := by decide +kernel
theorem kc_RX11_239 : Cond.methodLink RX11 239 yX10_sumOfKind ∈ ktG ∧ (Cond.instanceMethod yX10_sumOfKind ∈ ktG ∧ Cond.selects yX10_sumOfKind.cls yX10_sumOfKind yX10_sumOfKind ∈ ktG) ∧ Cond.initialized yX10_sumOfKind.cls ∈ ktG ∧ Cond.code yX10_sumOfKind cX10_sumOfKind 6 (some .long) ∈ ktG := ⟨(kwm 944 (by decide +kernel) (by decide +kernel)), ⟨(kwm 945 (by decide +kernel) (by decide +kernel)), (kwm 946 (by decide +kernel) (by decide +kernel))⟩, (kwm 138 (by decide +kernel) (by decide +kernel)), kwm 947 (by decide +kernel) (by decide +kernel)⟩
theorem kh_X10_sumOfKind : yX10_sumOfKind.cls ≠ "java/lang/invoke/MethodHandle" ∧ yX10_sumOfKind.cls ≠ "java/lang/invoke/VarHandle" ∧ (parseMethodDescriptor yX10_sumOfKind.desc).map (fun d => d.parameters.length) = some 2 := by decide +kernel
def f_X11_kinds (h : KH) (v0 : Nat) (v1 : Int32) (v2 : Int32) : Option (Int32 × KH) :=
  kb (f_X11_isBit h v1) fun r1 =>
  if r1 = 0 then
  some ((-1 : Int32), h)
  else
  if kkind v0 = 11 then kb (f_X11_isKind h v0 v2) fun r6 =>
  if r6 = 0 then
  some ((-1 : Int32), h)
  else
  if (kR h v0 11) < 999999 then if (kR h v0 5) < 999999 then if (kR h v0 7) < 999999 then if kkind (kR h v0 11) = 10 then kb (f_X10_weigh h (kR h v0 11) (kR h v0 5) (kR h v0 7)) fun r14 =>
  if (kR r14 v0 11) < 999999 then if kkind (kR r14 v0 11) = 10 then kb (f_X10_sumOfKind r14 (kR r14 v0 11) v1 v2) fun r20 =>
  kb (f_X10_share r14 (kR r14 v0 11) r20) fun r23 =>
  some (r23, r14) else none else none else none else none else none else none else none
set_option maxHeartbeats 4000000 in
set_option maxRecDepth 100000 in
theorem s0_X11_kinds {Z : Nat → (Nat → Nat) → State → Prop} (h : KH) (v0 : Nat) (v1 : Int32) (v2 : Int32) {t : Int32 × KH} (hn : h.1 = 243) (H : f_X11_kinds h v0 v1 v2 = some t) : KX Z RX11 cX11_kinds 3 false 7 (KRi cX11_kinds t.1 t.2) 0 [(0, .ref v0), (1, .int v1), (2, .int v2)] [] h := by
  unfold f_X11_kinds at H
  refine x_iload_n (q := 1) dX11_kinds_0 rfl rfl ?_
  replace H := kbe H; obtain ⟨r1, c2, H⟩ := H
  have m3 := s_X11_isBit (Z := Z) h v1 hn c2
  refine x_callS (q := 4) (as := [.int v1]) (rest := []) dX11_kinds_1 rfl kc_RX11_209 kh_X11_isBit (by decide) (Nat.le_of_ble_eq_true rfl) m3 ?_
  replace H := kite H; rcases H with ⟨g4, H⟩ | ⟨g4, H⟩
  · refine x_if_eq_t dX11_kinds_4 (q := 15) (by decide) g4 ?_
    refine x_iconst (q := 16) (v := (-1 : Int32)) dX11_kinds_15 rfl (by decide) ?_
    cases H
    exact x_end ⟨dX11_kinds_16, rfl, rfl⟩
  · refine x_if_eq_f (q := 7) dX11_kinds_4 (t := 15) (by decide) rfl g4 ?_
    refine x_aload_n (q := 8) dX11_kinds_7 rfl rfl ?_
    refine x_iload_n (q := 9) dX11_kinds_8 rfl rfl ?_
    replace H := kif H; obtain ⟨g5, H⟩ := H
    replace H := kbe H; obtain ⟨r6, c7, H⟩ := H
    have m8 := s_X11_isKind (Z := Z) h v0 v2 hn c7
    refine x_callV (q := 12) (as := [.int v2]) (rest := []) dX11_kinds_9 rfl kc_RX11_180 kh_X11_isKind (by decide) (Nat.le_of_ble_eq_true rfl) m8 (ci := 11) (by exact ⟨rfl, by decide⟩) (k243 g5 (by decide) hn) ?_
    replace H := kite H; rcases H with ⟨g9, H⟩ | ⟨g9, H⟩
    · refine x_if_ne_f (q := 15) dX11_kinds_12 (t := 17) (by decide) rfl g9 ?_
      refine x_iconst (q := 16) (v := (-1 : Int32)) dX11_kinds_15 rfl (by decide) ?_
      cases H
      exact x_end ⟨dX11_kinds_16, rfl, rfl⟩
    · refine x_if_ne_t dX11_kinds_12 (q := 17) (by decide) g9 ?_
      refine x_aload_n (q := 18) dX11_kinds_17 rfl rfl ?_
      replace H := kif H; obtain ⟨g10, H⟩ := H
      refine x_getR (q := 21) dX11_kinds_18 rfl kl_RX11_91 rfl (k243 g5 (by decide) hn) g10 ?_
      refine x_aload_n (q := 22) dX11_kinds_21 rfl rfl ?_
      replace H := kif H; obtain ⟨g11, H⟩ := H
      refine x_getR (q := 25) dX11_kinds_22 rfl kl_RX11_57 rfl (k243 g5 (by decide) hn) g11 ?_
      refine x_aload_n (q := 26) dX11_kinds_25 rfl rfl ?_
      replace H := kif H; obtain ⟨g12, H⟩ := H
      refine x_getR (q := 29) dX11_kinds_26 rfl kl_RX11_67 rfl (k243 g5 (by decide) hn) g12 ?_
      replace H := kif H; obtain ⟨g13, H⟩ := H
      replace H := kbe H; obtain ⟨r14, c15, H⟩ := H
      have m16 := s_X10_weigh (Z := Z) h (kR h v0 11) (kR h v0 5) (kR h v0 7) hn c15
      refine x_callV (q := 32) (as := [.ref (kR h v0 5), .ref (kR h v0 7)]) (rest := []) dX11_kinds_29 rfl kc_RX11_223 kh_X10_weigh (by decide) (Nat.le_of_ble_eq_true rfl) m16 (ci := 10) (by exact ⟨rfl, by decide⟩) (k243 g13 (by decide) hn) ?_
      have n17 : (r14).1 = 243 := m16.1.full hn
      refine x_aload_n (q := 33) dX11_kinds_32 rfl rfl ?_
      replace H := kif H; obtain ⟨g18, H⟩ := H
      refine x_getR (q := 36) dX11_kinds_33 rfl kl_RX11_91 rfl (k243 g5 (by decide) n17) g18 ?_
      refine x_aload_n (q := 37) dX11_kinds_36 rfl rfl ?_
      refine x_getR (q := 40) dX11_kinds_37 rfl kl_RX11_91 rfl (k243 g5 (by decide) n17) g18 ?_
      refine x_iload_n (q := 41) dX11_kinds_40 rfl rfl ?_
      refine x_iload_n (q := 42) dX11_kinds_41 rfl rfl ?_
      replace H := kif H; obtain ⟨g19, H⟩ := H
      replace H := kbe H; obtain ⟨r20, c21, H⟩ := H
      have m22 := s_X10_sumOfKind (Z := Z) r14 (kR r14 v0 11) v1 v2 n17 c21
      refine x_callV (q := 45) (as := [.int v1, .int v2]) (rest := [.ref (kR r14 v0 11)]) dX11_kinds_42 rfl kc_RX11_239 kh_X10_sumOfKind (by decide) (Nat.le_of_ble_eq_true rfl) m22 (ci := 10) (by exact ⟨rfl, by decide⟩) (k243 g19 (by decide) n17) ?_
      replace H := kbe H; obtain ⟨r23, c24, H⟩ := H
      have m25 := s_X10_share (Z := Z) r14 (kR r14 v0 11) r20 n17 c24
      refine x_callV (q := 48) (as := [.long r20]) (rest := []) dX11_kinds_45 rfl kc_RX11_235 kh_X10_share (by decide) (Nat.le_of_ble_eq_true rfl) m25 (ci := 10) (by exact ⟨rfl, by decide⟩) (k243 g19 (by decide) n17) ?_
      cases H
      exact x_end ⟨dX11_kinds_48, rfl, rfl⟩
theorem s_X11_kinds {Z : Nat → (Nat → Nat) → State → Prop} (h : KH) (v0 : Nat) (v1 : Int32) (v2 : Int32) {t : Int32 × KH} (hn : h.1 = 243) (H : f_X11_kinds h v0 v1 v2 = some t) : KM Z yX11_kinds cX11_kinds 3 (some .int) 7 [.ref v0, .int v1, .int v2] h (some (.int t.1)) t.2 :=
  kx_i (own := RX11) (ini := false) (by decide +kernel) (by decide +kernel) rfl (Nat.le_of_ble_eq_true rfl) (s0_X11_kinds h v0 v1 v2 hn H)
theorem dX11_would_0 : decode cX11_would 0 = .ok (.iload_n 1, 1) := by decide +kernel
theorem dX11_would_1 : decode cX11_would 1 = .ok (.invokestatic 209, 3) := by decide +kernel
theorem dX11_would_4 : decode cX11_would 4 = .ok (.ifCond .eq 11, 3) := by decide +kernel
theorem dX11_would_7 : decode cX11_would 7 = .ok (.aload_n 0, 1) := by decide +kernel
theorem dX11_would_8 : decode cX11_would 8 = .ok (.iload_n 2, 1) := by decide +kernel
theorem dX11_would_9 : decode cX11_would 9 = .ok (.invokevirtual 188, 3) := by decide +kernel
theorem dX11_would_12 : decode cX11_would 12 = .ok (.ifCond .ne 5, 3) := by decide +kernel
theorem dX11_would_15 : decode cX11_would 15 = .ok (.iconst (-1), 1) := by decide +kernel
theorem dX11_would_16 : decode cX11_would 16 = .ok (.ireturn, 1) := by decide +kernel
theorem dX11_would_17 : decode cX11_would 17 = .ok (.aload_n 0, 1) := by decide +kernel
theorem dX11_would_18 : decode cX11_would 18 = .ok (.getfield 91, 3) := by decide +kernel
theorem dX11_would_21 : decode cX11_would 21 = .ok (.aload_n 0, 1) := by decide +kernel
theorem dX11_would_22 : decode cX11_would 22 = .ok (.getfield 57, 3) := by decide +kernel
theorem dX11_would_25 : decode cX11_would 25 = .ok (.aload_n 0, 1) := by decide +kernel
theorem dX11_would_26 : decode cX11_would 26 = .ok (.getfield 67, 3) := by decide +kernel
theorem dX11_would_29 : decode cX11_would 29 = .ok (.invokevirtual 223, 3) := by decide +kernel
theorem dX11_would_32 : decode cX11_would 32 = .ok (.aload_n 0, 1) := by decide +kernel
theorem dX11_would_33 : decode cX11_would 33 = .ok (.getfield 91, 3) := by decide +kernel
theorem dX11_would_36 : decode cX11_would 36 = .ok (.aload_n 0, 1) := by decide +kernel
theorem dX11_would_37 : decode cX11_would 37 = .ok (.getfield 91, 3) := by decide +kernel
theorem dX11_would_40 : decode cX11_would 40 = .ok (.iload_n 1, 1) := by decide +kernel
theorem dX11_would_41 : decode cX11_would 41 = .ok (.iload_n 2, 1) := by decide +kernel
theorem dX11_would_42 : decode cX11_would 42 = .ok (.invokevirtual 243, 3) := by decide +kernel
theorem dX11_would_45 : decode cX11_would 45 = .ok (.invokevirtual 235, 3) := by decide +kernel
theorem dX11_would_48 : decode cX11_would 48 = .ok (.ireturn, 1) := by decide +kernel
theorem kc_RX11_243 : Cond.methodLink RX11 243 yX10_sumOfYielding ∈ ktG ∧ (Cond.instanceMethod yX10_sumOfYielding ∈ ktG ∧ Cond.selects yX10_sumOfYielding.cls yX10_sumOfYielding yX10_sumOfYielding ∈ ktG) ∧ Cond.initialized yX10_sumOfYielding.cls ∈ ktG ∧ Cond.code yX10_sumOfYielding cX10_sumOfYielding 7 (some .long) ∈ ktG := ⟨(kwm 956 (by decide +kernel) (by decide +kernel)), ⟨(kwm 957 (by decide +kernel) (by decide +kernel)), (kwm 958 (by decide +kernel) (by decide +kernel))⟩, (kwm 138 (by decide +kernel) (by decide +kernel)), kwm 959 (by decide +kernel) (by decide +kernel)⟩
theorem kh_X10_sumOfYielding : yX10_sumOfYielding.cls ≠ "java/lang/invoke/MethodHandle" ∧ yX10_sumOfYielding.cls ≠ "java/lang/invoke/VarHandle" ∧ (parseMethodDescriptor yX10_sumOfYielding.desc).map (fun d => d.parameters.length) = some 2 := by decide +kernel
def f_X11_would (h : KH) (v0 : Nat) (v1 : Int32) (v2 : Int32) : Option (Int32 × KH) :=
  kb (f_X11_isBit h v1) fun r1 =>
  if r1 = 0 then
  some ((-1 : Int32), h)
  else
  if kkind v0 = 11 then kb (f_X11_isTest h v0 v2) fun r6 =>
  if r6 = 0 then
  some ((-1 : Int32), h)
  else
  if (kR h v0 11) < 999999 then if (kR h v0 5) < 999999 then if (kR h v0 7) < 999999 then if kkind (kR h v0 11) = 10 then kb (f_X10_weigh h (kR h v0 11) (kR h v0 5) (kR h v0 7)) fun r14 =>
  if (kR r14 v0 11) < 999999 then if kkind (kR r14 v0 11) = 10 then kb (f_X10_sumOfYielding r14 (kR r14 v0 11) v1 v2) fun r20 =>
  kb (f_X10_share r14 (kR r14 v0 11) r20) fun r23 =>
  some (r23, r14) else none else none else none else none else none else none else none
set_option maxHeartbeats 4000000 in
set_option maxRecDepth 100000 in
theorem s0_X11_would {Z : Nat → (Nat → Nat) → State → Prop} (h : KH) (v0 : Nat) (v1 : Int32) (v2 : Int32) {t : Int32 × KH} (hn : h.1 = 243) (H : f_X11_would h v0 v1 v2 = some t) : KX Z RX11 cX11_would 3 false 7 (KRi cX11_would t.1 t.2) 0 [(0, .ref v0), (1, .int v1), (2, .int v2)] [] h := by
  unfold f_X11_would at H
  refine x_iload_n (q := 1) dX11_would_0 rfl rfl ?_
  replace H := kbe H; obtain ⟨r1, c2, H⟩ := H
  have m3 := s_X11_isBit (Z := Z) h v1 hn c2
  refine x_callS (q := 4) (as := [.int v1]) (rest := []) dX11_would_1 rfl kc_RX11_209 kh_X11_isBit (by decide) (Nat.le_of_ble_eq_true rfl) m3 ?_
  replace H := kite H; rcases H with ⟨g4, H⟩ | ⟨g4, H⟩
  · refine x_if_eq_t dX11_would_4 (q := 15) (by decide) g4 ?_
    refine x_iconst (q := 16) (v := (-1 : Int32)) dX11_would_15 rfl (by decide) ?_
    cases H
    exact x_end ⟨dX11_would_16, rfl, rfl⟩
  · refine x_if_eq_f (q := 7) dX11_would_4 (t := 15) (by decide) rfl g4 ?_
    refine x_aload_n (q := 8) dX11_would_7 rfl rfl ?_
    refine x_iload_n (q := 9) dX11_would_8 rfl rfl ?_
    replace H := kif H; obtain ⟨g5, H⟩ := H
    replace H := kbe H; obtain ⟨r6, c7, H⟩ := H
    have m8 := s_X11_isTest (Z := Z) h v0 v2 hn c7
    refine x_callV (q := 12) (as := [.int v2]) (rest := []) dX11_would_9 rfl kc_RX11_188 kh_X11_isTest (by decide) (Nat.le_of_ble_eq_true rfl) m8 (ci := 11) (by exact ⟨rfl, by decide⟩) (k243 g5 (by decide) hn) ?_
    replace H := kite H; rcases H with ⟨g9, H⟩ | ⟨g9, H⟩
    · refine x_if_ne_f (q := 15) dX11_would_12 (t := 17) (by decide) rfl g9 ?_
      refine x_iconst (q := 16) (v := (-1 : Int32)) dX11_would_15 rfl (by decide) ?_
      cases H
      exact x_end ⟨dX11_would_16, rfl, rfl⟩
    · refine x_if_ne_t dX11_would_12 (q := 17) (by decide) g9 ?_
      refine x_aload_n (q := 18) dX11_would_17 rfl rfl ?_
      replace H := kif H; obtain ⟨g10, H⟩ := H
      refine x_getR (q := 21) dX11_would_18 rfl kl_RX11_91 rfl (k243 g5 (by decide) hn) g10 ?_
      refine x_aload_n (q := 22) dX11_would_21 rfl rfl ?_
      replace H := kif H; obtain ⟨g11, H⟩ := H
      refine x_getR (q := 25) dX11_would_22 rfl kl_RX11_57 rfl (k243 g5 (by decide) hn) g11 ?_
      refine x_aload_n (q := 26) dX11_would_25 rfl rfl ?_
      replace H := kif H; obtain ⟨g12, H⟩ := H
      refine x_getR (q := 29) dX11_would_26 rfl kl_RX11_67 rfl (k243 g5 (by decide) hn) g12 ?_
      replace H := kif H; obtain ⟨g13, H⟩ := H
      replace H := kbe H; obtain ⟨r14, c15, H⟩ := H
      have m16 := s_X10_weigh (Z := Z) h (kR h v0 11) (kR h v0 5) (kR h v0 7) hn c15
      refine x_callV (q := 32) (as := [.ref (kR h v0 5), .ref (kR h v0 7)]) (rest := []) dX11_would_29 rfl kc_RX11_223 kh_X10_weigh (by decide) (Nat.le_of_ble_eq_true rfl) m16 (ci := 10) (by exact ⟨rfl, by decide⟩) (k243 g13 (by decide) hn) ?_
      have n17 : (r14).1 = 243 := m16.1.full hn
      refine x_aload_n (q := 33) dX11_would_32 rfl rfl ?_
      replace H := kif H; obtain ⟨g18, H⟩ := H
      refine x_getR (q := 36) dX11_would_33 rfl kl_RX11_91 rfl (k243 g5 (by decide) n17) g18 ?_
      refine x_aload_n (q := 37) dX11_would_36 rfl rfl ?_
      refine x_getR (q := 40) dX11_would_37 rfl kl_RX11_91 rfl (k243 g5 (by decide) n17) g18 ?_
      refine x_iload_n (q := 41) dX11_would_40 rfl rfl ?_
      refine x_iload_n (q := 42) dX11_would_41 rfl rfl ?_
      replace H := kif H; obtain ⟨g19, H⟩ := H
      replace H := kbe H; obtain ⟨r20, c21, H⟩ := H
      have m22 := s_X10_sumOfYielding (Z := Z) r14 (kR r14 v0 11) v1 v2 n17 c21
      refine x_callV (q := 45) (as := [.int v1, .int v2]) (rest := [.ref (kR r14 v0 11)]) dX11_would_42 rfl kc_RX11_243 kh_X10_sumOfYielding (by decide) (Nat.le_of_ble_eq_true rfl) m22 (ci := 10) (by exact ⟨rfl, by decide⟩) (k243 g19 (by decide) n17) ?_
      replace H := kbe H; obtain ⟨r23, c24, H⟩ := H
      have m25 := s_X10_share (Z := Z) r14 (kR r14 v0 11) r20 n17 c24
      refine x_callV (q := 48) (as := [.long r20]) (rest := []) dX11_would_45 rfl kc_RX11_235 kh_X10_share (by decide) (Nat.le_of_ble_eq_true rfl) m25 (ci := 10) (by exact ⟨rfl, by decide⟩) (k243 g19 (by decide) n17) ?_
      cases H
      exact x_end ⟨dX11_would_48, rfl, rfl⟩
theorem s_X11_would {Z : Nat → (Nat → Nat) → State → Prop} (h : KH) (v0 : Nat) (v1 : Int32) (v2 : Int32) {t : Int32 × KH} (hn : h.1 = 243) (H : f_X11_would h v0 v1 v2 = some t) : KM Z yX11_would cX11_would 3 (some .int) 7 [.ref v0, .int v1, .int v2] h (some (.int t.1)) t.2 :=
  kx_i (own := RX11) (ini := false) (by decide +kernel) (by decide +kernel) rfl (Nat.le_of_ble_eq_true rfl) (s0_X11_would h v0 v1 v2 hn H)
theorem dX11_merit_0 : decode cX11_merit 0 = .ok (.iload_n 1, 1) := by decide +kernel
theorem dX11_merit_1 : decode cX11_merit 1 = .ok (.ifCond .lt 28, 3) := by decide +kernel
theorem dX11_merit_4 : decode cX11_merit 4 = .ok (.iload_n 1, 1) := by decide +kernel
theorem dX11_merit_5 : decode cX11_merit 5 = .ok (.iconst 1, 1) := by decide +kernel
theorem dX11_merit_6 : decode cX11_merit 6 = .ok (.aload_n 0, 1) := by decide +kernel
theorem dX11_merit_7 : decode cX11_merit 7 = .ok (.getfield 57, 3) := by decide +kernel
theorem dX11_merit_10 : decode cX11_merit 10 = .ok (.getfield 146, 3) := by decide +kernel
theorem dX11_merit_13 : decode cX11_merit 13 = .ok (.ishl, 1) := by decide +kernel
theorem dX11_merit_14 : decode cX11_merit 14 = .ok (.if_icmp .ge 15, 3) := by decide +kernel
theorem dX11_merit_17 : decode cX11_merit 17 = .ok (.iload_n 1, 1) := by decide +kernel
theorem dX11_merit_18 : decode cX11_merit 18 = .ok (.aload_n 0, 1) := by decide +kernel
theorem dX11_merit_19 : decode cX11_merit 19 = .ok (.getfield 67, 3) := by decide +kernel
theorem dX11_merit_22 : decode cX11_merit 22 = .ok (.invokevirtual 161, 3) := by decide +kernel
theorem dX11_merit_25 : decode cX11_merit 25 = .ok (.iand, 1) := by decide +kernel
theorem dX11_merit_26 : decode cX11_merit 26 = .ok (.ifCond .eq 7, 3) := by decide +kernel
theorem dX11_merit_29 : decode cX11_merit 29 = .ok (.ldc2_w 221, 3) := by decide +kernel
theorem dX11_merit_32 : decode cX11_merit 32 = .ok (.lreturn, 1) := by decide +kernel
theorem dX11_merit_33 : decode cX11_merit 33 = .ok (.aload_n 0, 1) := by decide +kernel
theorem dX11_merit_34 : decode cX11_merit 34 = .ok (.getfield 91, 3) := by decide +kernel
theorem dX11_merit_37 : decode cX11_merit 37 = .ok (.aload_n 0, 1) := by decide +kernel
theorem dX11_merit_38 : decode cX11_merit 38 = .ok (.getfield 57, 3) := by decide +kernel
theorem dX11_merit_41 : decode cX11_merit 41 = .ok (.aload_n 0, 1) := by decide +kernel
theorem dX11_merit_42 : decode cX11_merit 42 = .ok (.getfield 67, 3) := by decide +kernel
theorem dX11_merit_45 : decode cX11_merit 45 = .ok (.invokevirtual 223, 3) := by decide +kernel
theorem dX11_merit_48 : decode cX11_merit 48 = .ok (.aload_n 0, 1) := by decide +kernel
theorem dX11_merit_49 : decode cX11_merit 49 = .ok (.getfield 91, 3) := by decide +kernel
theorem dX11_merit_52 : decode cX11_merit 52 = .ok (.invokevirtual 246, 3) := by decide +kernel
theorem dX11_merit_55 : decode cX11_merit 55 = .ok (.lconst 0, 1) := by decide +kernel
theorem dX11_merit_56 : decode cX11_merit 56 = .ok (.lcmp, 1) := by decide +kernel
theorem dX11_merit_57 : decode cX11_merit 57 = .ok (.ifCond .ne 9, 3) := by decide +kernel
theorem dX11_merit_60 : decode cX11_merit 60 = .ok (.ldc2_w 221, 3) := by decide +kernel
theorem dX11_merit_63 : decode cX11_merit 63 = .ok (.goto 15, 3) := by decide +kernel
theorem dX11_merit_66 : decode cX11_merit 66 = .ok (.aload_n 0, 1) := by decide +kernel
theorem dX11_merit_67 : decode cX11_merit 67 = .ok (.getfield 91, 3) := by decide +kernel
theorem dX11_merit_70 : decode cX11_merit 70 = .ok (.aload_n 0, 1) := by decide +kernel
theorem dX11_merit_71 : decode cX11_merit 71 = .ok (.getfield 57, 3) := by decide +kernel
theorem dX11_merit_74 : decode cX11_merit 74 = .ok (.iload_n 1, 1) := by decide +kernel
theorem dX11_merit_75 : decode cX11_merit 75 = .ok (.invokevirtual 250, 3) := by decide +kernel
theorem dX11_merit_78 : decode cX11_merit 78 = .ok (.lreturn, 1) := by decide +kernel
theorem kc_RX11_246 : Cond.methodLink RX11 246 yX10_total ∈ ktG ∧ (Cond.instanceMethod yX10_total ∈ ktG ∧ Cond.selects yX10_total.cls yX10_total yX10_total ∈ ktG) ∧ Cond.initialized yX10_total.cls ∈ ktG ∧ Cond.code yX10_total cX10_total 1 (some .long) ∈ ktG := ⟨(kwm 964 (by decide +kernel) (by decide +kernel)), ⟨(kwm 933 (by decide +kernel) (by decide +kernel)), (kwm 934 (by decide +kernel) (by decide +kernel))⟩, (kwm 138 (by decide +kernel) (by decide +kernel)), kwm 935 (by decide +kernel) (by decide +kernel)⟩
theorem kc_RX11_250 : Cond.methodLink RX11 250 yX10_meritOf ∈ ktG ∧ (Cond.instanceMethod yX10_meritOf ∈ ktG ∧ Cond.selects yX10_meritOf.cls yX10_meritOf yX10_meritOf ∈ ktG) ∧ Cond.initialized yX10_meritOf.cls ∈ ktG ∧ Cond.code yX10_meritOf cX10_meritOf 3 (some .long) ∈ ktG := ⟨(kwm 965 (by decide +kernel) (by decide +kernel)), ⟨(kwm 966 (by decide +kernel) (by decide +kernel)), (kwm 967 (by decide +kernel) (by decide +kernel))⟩, (kwm 138 (by decide +kernel) (by decide +kernel)), kwm 968 (by decide +kernel) (by decide +kernel)⟩
def f_X11_merit (h : KH) (v0 : Nat) (v1 : Int32) : Option (Int64 × KH) :=
  if v1 < 0 then
  some ((-1000000000000000 : Int64), h)
  else
  if kkind v0 = 11 then if (kR h v0 5) < 999999 then if kkind (kR h v0 5) = 2 then if ((1 : Int32) <<< ((kI h (kR h v0 5) 4) &&& 31)) ≤ v1 then
  some ((-1000000000000000 : Int64), h)
  else
  if (kR h v0 7) < 999999 then if kkind (kR h v0 7) = 8 then kb (f_X8_heardBits h (kR h v0 7)) fun r8 =>
  if (v1 &&& r8) = 0 then
  if (kR h v0 11) < 999999 then if kkind (kR h v0 11) = 10 then kb (f_X10_weigh h (kR h v0 11) (kR h v0 5) (kR h v0 7)) fun r14 =>
  if (kR r14 v0 11) < 999999 then if kkind (kR r14 v0 11) = 10 then kb (f_X10_total r14 (kR r14 v0 11)) fun r20 =>
  if (lg_cmp r20 (0 : Int64)) = 0 then
  some ((-1000000000000000 : Int64), r14)
  else
  if (kR r14 v0 5) < 999999 then kb (f_X10_meritOf r14 (kR r14 v0 11) (kR r14 v0 5) v1) fun r25 =>
  some (r25.1, r25.2) else none else none else none else none else none
  else
  some ((-1000000000000000 : Int64), h) else none else none else none else none else none
set_option maxHeartbeats 4000000 in
set_option maxRecDepth 100000 in
theorem s0_X11_merit {Z : Nat → (Nat → Nat) → State → Prop} (h : KH) (v0 : Nat) (v1 : Int32) {t : Int64 × KH} (hn : h.1 = 243) (H : f_X11_merit h v0 v1 = some t) : KX Z RX11 cX11_merit 2 false 7 (KRl cX11_merit t.1 t.2) 0 [(0, .ref v0), (1, .int v1)] [] h := by
  unfold f_X11_merit at H
  refine x_iload_n (q := 1) dX11_merit_0 rfl rfl ?_
  replace H := kite H; rcases H with ⟨g1, H⟩ | ⟨g1, H⟩
  · refine x_if_lt_t dX11_merit_1 (q := 29) (by decide) g1 ?_
    refine x_ldc2 (q := 32) (v := (-1000000000000000 : Int64)) dX11_merit_29 rfl kk_RX11_221 ?_
    cases H
    exact x_end ⟨dX11_merit_32, rfl, rfl⟩
  · refine x_if_lt_f (q := 4) dX11_merit_1 (t := 29) (by decide) rfl g1 ?_
    refine x_iload_n (q := 5) dX11_merit_4 rfl rfl ?_
    refine x_iconst (q := 6) (v := (1 : Int32)) dX11_merit_5 rfl (by decide) ?_
    refine x_aload_n (q := 7) dX11_merit_6 rfl rfl ?_
    replace H := kif H; obtain ⟨g2, H⟩ := H
    replace H := kif H; obtain ⟨g3, H⟩ := H
    refine x_getR (q := 10) dX11_merit_7 rfl kl_RX11_57 rfl (k243 g2 (by decide) hn) g3 ?_
    replace H := kif H; obtain ⟨g4, H⟩ := H
    refine x_getI (q := 13) dX11_merit_10 rfl kl_RX11_146 (Or.inl rfl) (k243 g4 (by decide) hn) ?_
    refine x_ishl (q := 14) dX11_merit_13 rfl ?_
    replace H := kite H; rcases H with ⟨g5, H⟩ | ⟨g5, H⟩
    · refine x_icmp_ge_t dX11_merit_14 (q := 29) (by decide) g5 ?_
      refine x_ldc2 (q := 32) (v := (-1000000000000000 : Int64)) dX11_merit_29 rfl kk_RX11_221 ?_
      cases H
      exact x_end ⟨dX11_merit_32, rfl, rfl⟩
    · refine x_icmp_ge_f (q := 17) dX11_merit_14 (t := 29) (by decide) rfl g5 ?_
      refine x_iload_n (q := 18) dX11_merit_17 rfl rfl ?_
      refine x_aload_n (q := 19) dX11_merit_18 rfl rfl ?_
      replace H := kif H; obtain ⟨g6, H⟩ := H
      refine x_getR (q := 22) dX11_merit_19 rfl kl_RX11_67 rfl (k243 g2 (by decide) hn) g6 ?_
      replace H := kif H; obtain ⟨g7, H⟩ := H
      replace H := kbe H; obtain ⟨r8, c9, H⟩ := H
      have m10 := s_X8_heardBits (Z := Z) h (kR h v0 7) hn c9
      refine x_callV (q := 25) (as := []) (rest := [.int v1]) dX11_merit_22 rfl kc_RX11_161 kh_X8_heardBits (by decide) (Nat.le_of_ble_eq_true rfl) m10 (ci := 8) (by exact ⟨rfl, by decide⟩) (k243 g7 (by decide) hn) ?_
      refine x_iand (q := 26) dX11_merit_25 rfl ?_
      replace H := kite H; rcases H with ⟨g11, H⟩ | ⟨g11, H⟩
      · refine x_if_eq_t dX11_merit_26 (q := 33) (by decide) g11 ?_
        refine x_aload_n (q := 34) dX11_merit_33 rfl rfl ?_
        replace H := kif H; obtain ⟨g12, H⟩ := H
        refine x_getR (q := 37) dX11_merit_34 rfl kl_RX11_91 rfl (k243 g2 (by decide) hn) g12 ?_
        refine x_aload_n (q := 38) dX11_merit_37 rfl rfl ?_
        refine x_getR (q := 41) dX11_merit_38 rfl kl_RX11_57 rfl (k243 g2 (by decide) hn) g3 ?_
        refine x_aload_n (q := 42) dX11_merit_41 rfl rfl ?_
        refine x_getR (q := 45) dX11_merit_42 rfl kl_RX11_67 rfl (k243 g2 (by decide) hn) g6 ?_
        replace H := kif H; obtain ⟨g13, H⟩ := H
        replace H := kbe H; obtain ⟨r14, c15, H⟩ := H
        have m16 := s_X10_weigh (Z := Z) h (kR h v0 11) (kR h v0 5) (kR h v0 7) hn c15
        refine x_callV (q := 48) (as := [.ref (kR h v0 5), .ref (kR h v0 7)]) (rest := []) dX11_merit_45 rfl kc_RX11_223 kh_X10_weigh (by decide) (Nat.le_of_ble_eq_true rfl) m16 (ci := 10) (by exact ⟨rfl, by decide⟩) (k243 g13 (by decide) hn) ?_
        have n17 : (r14).1 = 243 := m16.1.full hn
        refine x_aload_n (q := 49) dX11_merit_48 rfl rfl ?_
        replace H := kif H; obtain ⟨g18, H⟩ := H
        refine x_getR (q := 52) dX11_merit_49 rfl kl_RX11_91 rfl (k243 g2 (by decide) n17) g18 ?_
        replace H := kif H; obtain ⟨g19, H⟩ := H
        replace H := kbe H; obtain ⟨r20, c21, H⟩ := H
        have m22 := s_X10_total (Z := Z) r14 (kR r14 v0 11) n17 c21
        refine x_callV (q := 55) (as := []) (rest := []) dX11_merit_52 rfl kc_RX11_246 kh_X10_total (by decide) (Nat.le_of_ble_eq_true rfl) m22 (ci := 10) (by exact ⟨rfl, by decide⟩) (k243 g19 (by decide) n17) ?_
        refine x_lconst (q := 56) (v := (0 : Int64)) dX11_merit_55 rfl (by decide) ?_
        refine x_lcmp (q := 57) dX11_merit_56 rfl ?_
        replace H := kite H; rcases H with ⟨g23, H⟩ | ⟨g23, H⟩
        · refine x_if_ne_f (q := 60) dX11_merit_57 (t := 66) (by decide) rfl g23 ?_
          refine x_ldc2 (q := 63) (v := (-1000000000000000 : Int64)) dX11_merit_60 rfl kk_RX11_221 ?_
          refine x_goto dX11_merit_63 (q := 78) (by decide) ?_
          cases H
          exact x_end ⟨dX11_merit_78, rfl, rfl⟩
        · refine x_if_ne_t dX11_merit_57 (q := 66) (by decide) g23 ?_
          refine x_aload_n (q := 67) dX11_merit_66 rfl rfl ?_
          refine x_getR (q := 70) dX11_merit_67 rfl kl_RX11_91 rfl (k243 g2 (by decide) n17) g18 ?_
          refine x_aload_n (q := 71) dX11_merit_70 rfl rfl ?_
          replace H := kif H; obtain ⟨g24, H⟩ := H
          refine x_getR (q := 74) dX11_merit_71 rfl kl_RX11_57 rfl (k243 g2 (by decide) n17) g24 ?_
          refine x_iload_n (q := 75) dX11_merit_74 rfl rfl ?_
          replace H := kbe H; obtain ⟨r25, c26, H⟩ := H
          have m27 := s_X10_meritOf (Z := Z) r14 (kR r14 v0 11) (kR r14 v0 5) v1 n17 c26
          refine x_callV (q := 78) (as := [.ref (kR r14 v0 5), .int v1]) (rest := []) dX11_merit_75 rfl kc_RX11_250 kh_X10_meritOf (by decide) (Nat.le_of_ble_eq_true rfl) m27 (ci := 10) (by exact ⟨rfl, by decide⟩) (k243 g19 (by decide) n17) ?_
          have n28 : (r25.2).1 = 243 := m27.1.full n17
          cases H
          exact x_end ⟨dX11_merit_78, rfl, rfl⟩
      · refine x_if_eq_f (q := 29) dX11_merit_26 (t := 33) (by decide) rfl g11 ?_
        refine x_ldc2 (q := 32) (v := (-1000000000000000 : Int64)) dX11_merit_29 rfl kk_RX11_221 ?_
        cases H
        exact x_end ⟨dX11_merit_32, rfl, rfl⟩
theorem s_X11_merit {Z : Nat → (Nat → Nat) → State → Prop} (h : KH) (v0 : Nat) (v1 : Int32) {t : Int64 × KH} (hn : h.1 = 243) (H : f_X11_merit h v0 v1 = some t) : KM Z yX11_merit cX11_merit 2 (some .long) 7 [.ref v0, .int v1] h (some (.long t.1)) t.2 :=
  kx_l (own := RX11) (ini := false) (by decide +kernel) (by decide +kernel) rfl (Nat.le_of_ble_eq_true rfl) (s0_X11_merit h v0 v1 hn H)
theorem dX11_best_0 : decode cX11_best 0 = .ok (.aload_n 0, 1) := by decide +kernel
theorem dX11_best_1 : decode cX11_best 1 = .ok (.getfield 91, 3) := by decide +kernel
theorem dX11_best_4 : decode cX11_best 4 = .ok (.aload_n 0, 1) := by decide +kernel
theorem dX11_best_5 : decode cX11_best 5 = .ok (.getfield 57, 3) := by decide +kernel
theorem dX11_best_8 : decode cX11_best 8 = .ok (.aload_n 0, 1) := by decide +kernel
theorem dX11_best_9 : decode cX11_best 9 = .ok (.getfield 67, 3) := by decide +kernel
theorem dX11_best_12 : decode cX11_best 12 = .ok (.invokevirtual 223, 3) := by decide +kernel
theorem dX11_best_15 : decode cX11_best 15 = .ok (.aload_n 0, 1) := by decide +kernel
theorem dX11_best_16 : decode cX11_best 16 = .ok (.getfield 91, 3) := by decide +kernel
theorem dX11_best_19 : decode cX11_best 19 = .ok (.aload_n 0, 1) := by decide +kernel
theorem dX11_best_20 : decode cX11_best 20 = .ok (.getfield 57, 3) := by decide +kernel
theorem dX11_best_23 : decode cX11_best 23 = .ok (.aload_n 0, 1) := by decide +kernel
theorem dX11_best_24 : decode cX11_best 24 = .ok (.getfield 67, 3) := by decide +kernel
theorem dX11_best_27 : decode cX11_best 27 = .ok (.invokevirtual 161, 3) := by decide +kernel
theorem dX11_best_30 : decode cX11_best 30 = .ok (.invokevirtual 254, 3) := by decide +kernel
theorem dX11_best_33 : decode cX11_best 33 = .ok (.ireturn, 1) := by decide +kernel
theorem kc_RX11_254 : Cond.methodLink RX11 254 yX10_bestSet ∈ ktG ∧ (Cond.instanceMethod yX10_bestSet ∈ ktG ∧ Cond.selects yX10_bestSet.cls yX10_bestSet yX10_bestSet ∈ ktG) ∧ Cond.initialized yX10_bestSet.cls ∈ ktG ∧ Cond.code yX10_bestSet cX10_bestSet 9 (some .int) ∈ ktG := ⟨(kwm 983 (by decide +kernel) (by decide +kernel)), ⟨(kwm 984 (by decide +kernel) (by decide +kernel)), (kwm 985 (by decide +kernel) (by decide +kernel))⟩, (kwm 138 (by decide +kernel) (by decide +kernel)), kwm 986 (by decide +kernel) (by decide +kernel)⟩
theorem kh_X10_bestSet : yX10_bestSet.cls ≠ "java/lang/invoke/MethodHandle" ∧ yX10_bestSet.cls ≠ "java/lang/invoke/VarHandle" ∧ (parseMethodDescriptor yX10_bestSet.desc).map (fun d => d.parameters.length) = some 2 := by decide +kernel
def f_X11_best (h : KH) (v0 : Nat) : Option (Int32 × KH) :=
  if kkind v0 = 11 then if (kR h v0 11) < 999999 then if (kR h v0 5) < 999999 then if (kR h v0 7) < 999999 then if kkind (kR h v0 11) = 10 then kb (f_X10_weigh h (kR h v0 11) (kR h v0 5) (kR h v0 7)) fun r6 =>
  if (kR r6 v0 11) < 999999 then if (kR r6 v0 5) < 999999 then if (kR r6 v0 7) < 999999 then if kkind (kR r6 v0 7) = 8 then kb (f_X8_heardBits r6 (kR r6 v0 7)) fun r14 =>
  if kkind (kR r6 v0 11) = 10 then kb (f_X10_bestSet r6 (kR r6 v0 11) (kR r6 v0 5) r14) fun r18 =>
  some (r18.1, r18.2) else none else none else none else none else none else none else none else none else none else none
set_option maxHeartbeats 4000000 in
set_option maxRecDepth 100000 in
theorem s0_X11_best {Z : Nat → (Nat → Nat) → State → Prop} (h : KH) (v0 : Nat) {t : Int32 × KH} (hn : h.1 = 243) (H : f_X11_best h v0 = some t) : KX Z RX11 cX11_best 1 false 7 (KRi cX11_best t.1 t.2) 0 [(0, .ref v0)] [] h := by
  unfold f_X11_best at H
  refine x_aload_n (q := 1) dX11_best_0 rfl rfl ?_
  replace H := kif H; obtain ⟨g1, H⟩ := H
  replace H := kif H; obtain ⟨g2, H⟩ := H
  refine x_getR (q := 4) dX11_best_1 rfl kl_RX11_91 rfl (k243 g1 (by decide) hn) g2 ?_
  refine x_aload_n (q := 5) dX11_best_4 rfl rfl ?_
  replace H := kif H; obtain ⟨g3, H⟩ := H
  refine x_getR (q := 8) dX11_best_5 rfl kl_RX11_57 rfl (k243 g1 (by decide) hn) g3 ?_
  refine x_aload_n (q := 9) dX11_best_8 rfl rfl ?_
  replace H := kif H; obtain ⟨g4, H⟩ := H
  refine x_getR (q := 12) dX11_best_9 rfl kl_RX11_67 rfl (k243 g1 (by decide) hn) g4 ?_
  replace H := kif H; obtain ⟨g5, H⟩ := H
  replace H := kbe H; obtain ⟨r6, c7, H⟩ := H
  have m8 := s_X10_weigh (Z := Z) h (kR h v0 11) (kR h v0 5) (kR h v0 7) hn c7
  refine x_callV (q := 15) (as := [.ref (kR h v0 5), .ref (kR h v0 7)]) (rest := []) dX11_best_12 rfl kc_RX11_223 kh_X10_weigh (by decide) (Nat.le_of_ble_eq_true rfl) m8 (ci := 10) (by exact ⟨rfl, by decide⟩) (k243 g5 (by decide) hn) ?_
  have n9 : (r6).1 = 243 := m8.1.full hn
  refine x_aload_n (q := 16) dX11_best_15 rfl rfl ?_
  replace H := kif H; obtain ⟨g10, H⟩ := H
  refine x_getR (q := 19) dX11_best_16 rfl kl_RX11_91 rfl (k243 g1 (by decide) n9) g10 ?_
  refine x_aload_n (q := 20) dX11_best_19 rfl rfl ?_
  replace H := kif H; obtain ⟨g11, H⟩ := H
  refine x_getR (q := 23) dX11_best_20 rfl kl_RX11_57 rfl (k243 g1 (by decide) n9) g11 ?_
  refine x_aload_n (q := 24) dX11_best_23 rfl rfl ?_
  replace H := kif H; obtain ⟨g12, H⟩ := H
  refine x_getR (q := 27) dX11_best_24 rfl kl_RX11_67 rfl (k243 g1 (by decide) n9) g12 ?_
  replace H := kif H; obtain ⟨g13, H⟩ := H
  replace H := kbe H; obtain ⟨r14, c15, H⟩ := H
  have m16 := s_X8_heardBits (Z := Z) r6 (kR r6 v0 7) n9 c15
  refine x_callV (q := 30) (as := []) (rest := [.ref (kR r6 v0 5), .ref (kR r6 v0 11)]) dX11_best_27 rfl kc_RX11_161 kh_X8_heardBits (by decide) (Nat.le_of_ble_eq_true rfl) m16 (ci := 8) (by exact ⟨rfl, by decide⟩) (k243 g13 (by decide) n9) ?_
  replace H := kif H; obtain ⟨g17, H⟩ := H
  replace H := kbe H; obtain ⟨r18, c19, H⟩ := H
  have m20 := s_X10_bestSet (Z := Z) r6 (kR r6 v0 11) (kR r6 v0 5) r14 n9 c19
  refine x_callV (q := 33) (as := [.ref (kR r6 v0 5), .int r14]) (rest := []) dX11_best_30 rfl kc_RX11_254 kh_X10_bestSet (by decide) (Nat.le_of_ble_eq_true rfl) m20 (ci := 10) (by exact ⟨rfl, by decide⟩) (k243 g17 (by decide) n9) ?_
  have n21 : (r18.2).1 = 243 := m20.1.full n9
  cases H
  exact x_end ⟨dX11_best_33, rfl, rfl⟩
theorem s_X11_best {Z : Nat → (Nat → Nat) → State → Prop} (h : KH) (v0 : Nat) {t : Int32 × KH} (hn : h.1 = 243) (H : f_X11_best h v0 = some t) : KM Z yX11_best cX11_best 1 (some .int) 7 [.ref v0] h (some (.int t.1)) t.2 :=
  kx_i (own := RX11) (ini := false) (by decide +kernel) (by decide +kernel) rfl (Nat.le_of_ble_eq_true rfl) (s0_X11_best h v0 hn H)
theorem dX11_parts_0 : decode cX11_parts 0 = .ok (.aload_n 0, 1) := by decide +kernel
theorem dX11_parts_1 : decode cX11_parts 1 = .ok (.iload_n 1, 1) := by decide +kernel
theorem dX11_parts_2 : decode cX11_parts 2 = .ok (.invokevirtual 188, 3) := by decide +kernel
theorem dX11_parts_5 : decode cX11_parts 5 = .ok (.ifCond .eq 24, 3) := by decide +kernel
theorem dX11_parts_8 : decode cX11_parts 8 = .ok (.aload_n 0, 1) := by decide +kernel
theorem dX11_parts_9 : decode cX11_parts 9 = .ok (.getfield 67, 3) := by decide +kernel
theorem dX11_parts_12 : decode cX11_parts 12 = .ok (.getfield 197, 3) := by decide +kernel
theorem dX11_parts_15 : decode cX11_parts 15 = .ok (.iload_n 1, 1) := by decide +kernel
theorem dX11_parts_16 : decode cX11_parts 16 = .ok (.iaload, 1) := by decide +kernel
theorem dX11_parts_17 : decode cX11_parts 17 = .ok (.ifCond .ne 12, 3) := by decide +kernel
theorem dX11_parts_20 : decode cX11_parts 20 = .ok (.iload_n 2, 1) := by decide +kernel
theorem dX11_parts_21 : decode cX11_parts 21 = .ok (.ifCond .lt 8, 3) := by decide +kernel
theorem dX11_parts_24 : decode cX11_parts 24 = .ok (.iload_n 2, 1) := by decide +kernel
theorem dX11_parts_25 : decode cX11_parts 25 = .ok (.iconst 2, 1) := by decide +kernel
theorem dX11_parts_26 : decode cX11_parts 26 = .ok (.if_icmp .le 5, 3) := by decide +kernel
theorem dX11_parts_29 : decode cX11_parts 29 = .ok (.iconst (-1), 1) := by decide +kernel
theorem dX11_parts_30 : decode cX11_parts 30 = .ok (.ireturn, 1) := by decide +kernel
theorem dX11_parts_31 : decode cX11_parts 31 = .ok (.aload_n 0, 1) := by decide +kernel
theorem dX11_parts_32 : decode cX11_parts 32 = .ok (.getfield 91, 3) := by decide +kernel
theorem dX11_parts_35 : decode cX11_parts 35 = .ok (.aload_n 0, 1) := by decide +kernel
theorem dX11_parts_36 : decode cX11_parts 36 = .ok (.getfield 57, 3) := by decide +kernel
theorem dX11_parts_39 : decode cX11_parts 39 = .ok (.aload_n 0, 1) := by decide +kernel
theorem dX11_parts_40 : decode cX11_parts 40 = .ok (.getfield 67, 3) := by decide +kernel
theorem dX11_parts_43 : decode cX11_parts 43 = .ok (.invokevirtual 223, 3) := by decide +kernel
theorem dX11_parts_46 : decode cX11_parts 46 = .ok (.aload_n 0, 1) := by decide +kernel
theorem dX11_parts_47 : decode cX11_parts 47 = .ok (.getfield 91, 3) := by decide +kernel
theorem dX11_parts_50 : decode cX11_parts 50 = .ok (.iload_n 1, 1) := by decide +kernel
theorem dX11_parts_51 : decode cX11_parts 51 = .ok (.invokevirtual 258, 3) := by decide +kernel
theorem dX11_parts_54 : decode cX11_parts 54 = .ok (.istore_n 3, 1) := by decide +kernel
theorem dX11_parts_55 : decode cX11_parts 55 = .ok (.iload_n 2, 1) := by decide +kernel
theorem dX11_parts_56 : decode cX11_parts 56 = .ok (.ifCond .ne 14, 3) := by decide +kernel
theorem dX11_parts_59 : decode cX11_parts 59 = .ok (.iload_n 3, 1) := by decide +kernel
theorem dX11_parts_60 : decode cX11_parts 60 = .ok (.iconst (-1), 1) := by decide +kernel
theorem dX11_parts_61 : decode cX11_parts 61 = .ok (.if_icmp .ne 7, 3) := by decide +kernel
theorem dX11_parts_64 : decode cX11_parts 64 = .ok (.iconst 1, 1) := by decide +kernel
theorem dX11_parts_65 : decode cX11_parts 65 = .ok (.goto 4, 3) := by decide +kernel
theorem dX11_parts_68 : decode cX11_parts 68 = .ok (.iconst 0, 1) := by decide +kernel
theorem dX11_parts_69 : decode cX11_parts 69 = .ok (.ireturn, 1) := by decide +kernel
theorem dX11_parts_70 : decode cX11_parts 70 = .ok (.iload_n 3, 1) := by decide +kernel
theorem dX11_parts_71 : decode cX11_parts 71 = .ok (.iconst (-1), 1) := by decide +kernel
theorem dX11_parts_72 : decode cX11_parts 72 = .ok (.if_icmp .ne 5, 3) := by decide +kernel
theorem dX11_parts_75 : decode cX11_parts 75 = .ok (.iconst (-1), 1) := by decide +kernel
theorem dX11_parts_76 : decode cX11_parts 76 = .ok (.ireturn, 1) := by decide +kernel
theorem dX11_parts_77 : decode cX11_parts 77 = .ok (.aload_n 0, 1) := by decide +kernel
theorem dX11_parts_78 : decode cX11_parts 78 = .ok (.getfield 91, 3) := by decide +kernel
theorem dX11_parts_81 : decode cX11_parts 81 = .ok (.iload_n 3, 1) := by decide +kernel
theorem dX11_parts_82 : decode cX11_parts 82 = .ok (.iload_n 2, 1) := by decide +kernel
theorem dX11_parts_83 : decode cX11_parts 83 = .ok (.iconst 1, 1) := by decide +kernel
theorem dX11_parts_84 : decode cX11_parts 84 = .ok (.isub, 1) := by decide +kernel
theorem dX11_parts_85 : decode cX11_parts 85 = .ok (.invokevirtual 261, 3) := by decide +kernel
theorem dX11_parts_88 : decode cX11_parts 88 = .ok (.ireturn, 1) := by decide +kernel
theorem kc_RX11_258 : Cond.methodLink RX11 258 yX10_failingWorld ∈ ktG ∧ (Cond.instanceMethod yX10_failingWorld ∈ ktG ∧ Cond.selects yX10_failingWorld.cls yX10_failingWorld yX10_failingWorld ∈ ktG) ∧ Cond.initialized yX10_failingWorld.cls ∈ ktG ∧ Cond.code yX10_failingWorld cX10_failingWorld 5 (some .int) ∈ ktG := ⟨(kwm 994 (by decide +kernel) (by decide +kernel)), ⟨(kwm 995 (by decide +kernel) (by decide +kernel)), (kwm 996 (by decide +kernel) (by decide +kernel))⟩, (kwm 138 (by decide +kernel) (by decide +kernel)), kwm 997 (by decide +kernel) (by decide +kernel)⟩
theorem kh_X10_failingWorld : yX10_failingWorld.cls ≠ "java/lang/invoke/MethodHandle" ∧ yX10_failingWorld.cls ≠ "java/lang/invoke/VarHandle" ∧ (parseMethodDescriptor yX10_failingWorld.desc).map (fun d => d.parameters.length) = some 1 := by decide +kernel
theorem kc_RX11_261 : Cond.methodLink RX11 261 yX10_kindIn ∈ ktG ∧ (Cond.instanceMethod yX10_kindIn ∈ ktG ∧ Cond.selects yX10_kindIn.cls yX10_kindIn yX10_kindIn ∈ ktG) ∧ Cond.initialized yX10_kindIn.cls ∈ ktG ∧ Cond.code yX10_kindIn cX10_kindIn 3 (some .int) ∈ ktG := ⟨(kwm 998 (by decide +kernel) (by decide +kernel)), ⟨(kwm 949 (by decide +kernel) (by decide +kernel)), (kwm 950 (by decide +kernel) (by decide +kernel))⟩, (kwm 138 (by decide +kernel) (by decide +kernel)), kwm 951 (by decide +kernel) (by decide +kernel)⟩
def f_X11_parts (h : KH) (v0 : Nat) (v1 : Int32) (v2 : Int32) : Option (Int32 × KH) :=
  if kkind v0 = 11 then kb (f_X11_isTest h v0 v1) fun r2 =>
  if r2 = 0 then
  some ((-1 : Int32), h)
  else
  if (kR h v0 7) < 999999 then if kkind (kR h v0 7) = 8 then if (kR h (kR h v0 7) 4) < 999999 then if kkind (kR h (kR h v0 7) 4) = 20 then if (v1 < 0 ∨ klen (kR h (kR h v0 7) 4) ≤ (v1).toNatClampNeg) then none else if (kI h (kR h (kR h v0 7) 4) ((v1).toNatClampNeg)) = 0 then
  if v2 < 0 then
  some ((-1 : Int32), h)
  else
  if v2 ≤ (2 : Int32) then
  if (kR h v0 11) < 999999 then if (kR h v0 5) < 999999 then if kkind (kR h v0 11) = 10 then kb (f_X10_weigh h (kR h v0 11) (kR h v0 5) (kR h v0 7)) fun r17 =>
  if (kR r17 v0 11) < 999999 then if kkind (kR r17 v0 11) = 10 then kb (f_X10_failingWorld r17 (kR r17 v0 11) v1) fun r23 =>
  if v2 = 0 then
  if r23 = (-1 : Int32) then
  some ((1 : Int32), r17)
  else
  some ((0 : Int32), r17)
  else
  if r23 = (-1 : Int32) then
  some ((-1 : Int32), r17)
  else
  kb (f_X10_kindIn r17 (kR r17 v0 11) r23 (v2 - (1 : Int32))) fun r28 =>
  some (r28, r17) else none else none else none else none else none
  else
  some ((-1 : Int32), h)
  else
  some ((-1 : Int32), h) else none else none else none else none else none
set_option maxHeartbeats 4000000 in
set_option maxRecDepth 100000 in
theorem s0_X11_parts {Z : Nat → (Nat → Nat) → State → Prop} (h : KH) (v0 : Nat) (v1 : Int32) (v2 : Int32) {t : Int32 × KH} (hn : h.1 = 243) (H : f_X11_parts h v0 v1 v2 = some t) : KX Z RX11 cX11_parts 4 false 7 (KRi cX11_parts t.1 t.2) 0 [(0, .ref v0), (1, .int v1), (2, .int v2)] [] h := by
  unfold f_X11_parts at H
  refine x_aload_n (q := 1) dX11_parts_0 rfl rfl ?_
  refine x_iload_n (q := 2) dX11_parts_1 rfl rfl ?_
  replace H := kif H; obtain ⟨g1, H⟩ := H
  replace H := kbe H; obtain ⟨r2, c3, H⟩ := H
  have m4 := s_X11_isTest (Z := Z) h v0 v1 hn c3
  refine x_callV (q := 5) (as := [.int v1]) (rest := []) dX11_parts_2 rfl kc_RX11_188 kh_X11_isTest (by decide) (Nat.le_of_ble_eq_true rfl) m4 (ci := 11) (by exact ⟨rfl, by decide⟩) (k243 g1 (by decide) hn) ?_
  replace H := kite H; rcases H with ⟨g5, H⟩ | ⟨g5, H⟩
  · refine x_if_eq_t dX11_parts_5 (q := 29) (by decide) g5 ?_
    refine x_iconst (q := 30) (v := (-1 : Int32)) dX11_parts_29 rfl (by decide) ?_
    cases H
    exact x_end ⟨dX11_parts_30, rfl, rfl⟩
  · refine x_if_eq_f (q := 8) dX11_parts_5 (t := 29) (by decide) rfl g5 ?_
    refine x_aload_n (q := 9) dX11_parts_8 rfl rfl ?_
    replace H := kif H; obtain ⟨g6, H⟩ := H
    refine x_getR (q := 12) dX11_parts_9 rfl kl_RX11_67 rfl (k243 g1 (by decide) hn) g6 ?_
    replace H := kif H; obtain ⟨g7, H⟩ := H
    replace H := kif H; obtain ⟨g8, H⟩ := H
    refine x_getR (q := 15) dX11_parts_12 rfl kl_RX11_197 rfl (k243 g7 (by decide) hn) g8 ?_
    refine x_iload_n (q := 16) dX11_parts_15 rfl rfl ?_
    replace H := kif H; obtain ⟨g9, H⟩ := H
    replace H := kifn H; obtain ⟨g10, H⟩ := H
    refine x_iald (q := 17) dX11_parts_16 rfl (k243 g9 (by decide) hn) g10 ?_
    replace H := kite H; rcases H with ⟨g11, H⟩ | ⟨g11, H⟩
    · refine x_if_ne_f (q := 20) dX11_parts_17 (t := 29) (by decide) rfl g11 ?_
      refine x_iload_n (q := 21) dX11_parts_20 rfl rfl ?_
      replace H := kite H; rcases H with ⟨g12, H⟩ | ⟨g12, H⟩
      · refine x_if_lt_t dX11_parts_21 (q := 29) (by decide) g12 ?_
        refine x_iconst (q := 30) (v := (-1 : Int32)) dX11_parts_29 rfl (by decide) ?_
        cases H
        exact x_end ⟨dX11_parts_30, rfl, rfl⟩
      · refine x_if_lt_f (q := 24) dX11_parts_21 (t := 29) (by decide) rfl g12 ?_
        refine x_iload_n (q := 25) dX11_parts_24 rfl rfl ?_
        refine x_iconst (q := 26) (v := (2 : Int32)) dX11_parts_25 rfl (by decide) ?_
        replace H := kite H; rcases H with ⟨g13, H⟩ | ⟨g13, H⟩
        · refine x_icmp_le_t dX11_parts_26 (q := 31) (by decide) g13 ?_
          refine x_aload_n (q := 32) dX11_parts_31 rfl rfl ?_
          replace H := kif H; obtain ⟨g14, H⟩ := H
          refine x_getR (q := 35) dX11_parts_32 rfl kl_RX11_91 rfl (k243 g1 (by decide) hn) g14 ?_
          refine x_aload_n (q := 36) dX11_parts_35 rfl rfl ?_
          replace H := kif H; obtain ⟨g15, H⟩ := H
          refine x_getR (q := 39) dX11_parts_36 rfl kl_RX11_57 rfl (k243 g1 (by decide) hn) g15 ?_
          refine x_aload_n (q := 40) dX11_parts_39 rfl rfl ?_
          refine x_getR (q := 43) dX11_parts_40 rfl kl_RX11_67 rfl (k243 g1 (by decide) hn) g6 ?_
          replace H := kif H; obtain ⟨g16, H⟩ := H
          replace H := kbe H; obtain ⟨r17, c18, H⟩ := H
          have m19 := s_X10_weigh (Z := Z) h (kR h v0 11) (kR h v0 5) (kR h v0 7) hn c18
          refine x_callV (q := 46) (as := [.ref (kR h v0 5), .ref (kR h v0 7)]) (rest := []) dX11_parts_43 rfl kc_RX11_223 kh_X10_weigh (by decide) (Nat.le_of_ble_eq_true rfl) m19 (ci := 10) (by exact ⟨rfl, by decide⟩) (k243 g16 (by decide) hn) ?_
          have n20 : (r17).1 = 243 := m19.1.full hn
          refine x_aload_n (q := 47) dX11_parts_46 rfl rfl ?_
          replace H := kif H; obtain ⟨g21, H⟩ := H
          refine x_getR (q := 50) dX11_parts_47 rfl kl_RX11_91 rfl (k243 g1 (by decide) n20) g21 ?_
          refine x_iload_n (q := 51) dX11_parts_50 rfl rfl ?_
          replace H := kif H; obtain ⟨g22, H⟩ := H
          replace H := kbe H; obtain ⟨r23, c24, H⟩ := H
          have m25 := s_X10_failingWorld (Z := Z) r17 (kR r17 v0 11) v1 n20 c24
          refine x_callV (q := 54) (as := [.int v1]) (rest := []) dX11_parts_51 rfl kc_RX11_258 kh_X10_failingWorld (by decide) (Nat.le_of_ble_eq_true rfl) m25 (ci := 10) (by exact ⟨rfl, by decide⟩) (k243 g22 (by decide) n20) ?_
          refine x_istore_n (q := 55) (i := 3) (ls2 := [(3, .int r23), (0, .ref v0), (1, .int v1), (2, .int v2)]) dX11_parts_54 rfl rfl (by decide) rfl ?_
          refine x_iload_n (q := 56) dX11_parts_55 rfl rfl ?_
          replace H := kite H; rcases H with ⟨g26, H⟩ | ⟨g26, H⟩
          · refine x_if_ne_f (q := 59) dX11_parts_56 (t := 70) (by decide) rfl g26 ?_
            refine x_iload_n (q := 60) dX11_parts_59 rfl rfl ?_
            refine x_iconst (q := 61) (v := (-1 : Int32)) dX11_parts_60 rfl (by decide) ?_
            replace H := kite H; rcases H with ⟨g31, H⟩ | ⟨g31, H⟩
            · refine x_icmp_ne_f (q := 64) dX11_parts_61 (t := 68) (by decide) rfl g31 ?_
              refine x_iconst (q := 65) (v := (1 : Int32)) dX11_parts_64 rfl (by decide) ?_
              refine x_goto dX11_parts_65 (q := 69) (by decide) ?_
              cases H
              exact x_end ⟨dX11_parts_69, rfl, rfl⟩
            · refine x_icmp_ne_t dX11_parts_61 (q := 68) (by decide) g31 ?_
              refine x_iconst (q := 69) (v := (0 : Int32)) dX11_parts_68 rfl (by decide) ?_
              cases H
              exact x_end ⟨dX11_parts_69, rfl, rfl⟩
          · refine x_if_ne_t dX11_parts_56 (q := 70) (by decide) g26 ?_
            refine x_iload_n (q := 71) dX11_parts_70 rfl rfl ?_
            refine x_iconst (q := 72) (v := (-1 : Int32)) dX11_parts_71 rfl (by decide) ?_
            replace H := kite H; rcases H with ⟨g27, H⟩ | ⟨g27, H⟩
            · refine x_icmp_ne_f (q := 75) dX11_parts_72 (t := 77) (by decide) rfl g27 ?_
              refine x_iconst (q := 76) (v := (-1 : Int32)) dX11_parts_75 rfl (by decide) ?_
              cases H
              exact x_end ⟨dX11_parts_76, rfl, rfl⟩
            · refine x_icmp_ne_t dX11_parts_72 (q := 77) (by decide) g27 ?_
              refine x_aload_n (q := 78) dX11_parts_77 rfl rfl ?_
              refine x_getR (q := 81) dX11_parts_78 rfl kl_RX11_91 rfl (k243 g1 (by decide) n20) g21 ?_
              refine x_iload_n (q := 82) dX11_parts_81 rfl rfl ?_
              refine x_iload_n (q := 83) dX11_parts_82 rfl rfl ?_
              refine x_iconst (q := 84) (v := (1 : Int32)) dX11_parts_83 rfl (by decide) ?_
              refine x_isub (q := 85) dX11_parts_84 rfl ?_
              replace H := kbe H; obtain ⟨r28, c29, H⟩ := H
              have m30 := s_X10_kindIn (Z := Z) r17 (kR r17 v0 11) r23 (v2 - (1 : Int32)) n20 c29
              refine x_callV (q := 88) (as := [.int r23, .int (v2 - (1 : Int32))]) (rest := []) dX11_parts_85 rfl kc_RX11_261 kh_X10_kindIn (by decide) (Nat.le_of_ble_eq_true rfl) m30 (ci := 10) (by exact ⟨rfl, by decide⟩) (k243 g22 (by decide) n20) ?_
              cases H
              exact x_end ⟨dX11_parts_88, rfl, rfl⟩
        · refine x_icmp_le_f (q := 29) dX11_parts_26 (t := 31) (by decide) rfl g13 ?_
          refine x_iconst (q := 30) (v := (-1 : Int32)) dX11_parts_29 rfl (by decide) ?_
          cases H
          exact x_end ⟨dX11_parts_30, rfl, rfl⟩
    · refine x_if_ne_t dX11_parts_17 (q := 29) (by decide) g11 ?_
      refine x_iconst (q := 30) (v := (-1 : Int32)) dX11_parts_29 rfl (by decide) ?_
      cases H
      exact x_end ⟨dX11_parts_30, rfl, rfl⟩
theorem s_X11_parts {Z : Nat → (Nat → Nat) → State → Prop} (h : KH) (v0 : Nat) (v1 : Int32) (v2 : Int32) {t : Int32 × KH} (hn : h.1 = 243) (H : f_X11_parts h v0 v1 v2 = some t) : KM Z yX11_parts cX11_parts 4 (some .int) 7 [.ref v0, .int v1, .int v2] h (some (.int t.1)) t.2 :=
  kx_i (own := RX11) (ini := false) (by decide +kernel) (by decide +kernel) rfl (Nat.le_of_ble_eq_true rfl) (s0_X11_parts h v0 v1 v2 hn H)
theorem dX11_sure_0 : decode cX11_sure 0 = .ok (.iload_n 1, 1) := by decide +kernel
theorem dX11_sure_1 : decode cX11_sure 1 = .ok (.invokestatic 209, 3) := by decide +kernel
theorem dX11_sure_4 : decode cX11_sure 4 = .ok (.ifCond .ne 5, 3) := by decide +kernel
theorem dX11_sure_7 : decode cX11_sure 7 = .ok (.iconst (-1), 1) := by decide +kernel
theorem dX11_sure_8 : decode cX11_sure 8 = .ok (.ireturn, 1) := by decide +kernel
theorem dX11_sure_9 : decode cX11_sure 9 = .ok (.aload_n 0, 1) := by decide +kernel
theorem dX11_sure_10 : decode cX11_sure 10 = .ok (.getfield 91, 3) := by decide +kernel
theorem dX11_sure_13 : decode cX11_sure 13 = .ok (.aload_n 0, 1) := by decide +kernel
theorem dX11_sure_14 : decode cX11_sure 14 = .ok (.getfield 57, 3) := by decide +kernel
theorem dX11_sure_17 : decode cX11_sure 17 = .ok (.aload_n 0, 1) := by decide +kernel
theorem dX11_sure_18 : decode cX11_sure 18 = .ok (.getfield 67, 3) := by decide +kernel
theorem dX11_sure_21 : decode cX11_sure 21 = .ok (.invokevirtual 223, 3) := by decide +kernel
theorem dX11_sure_24 : decode cX11_sure 24 = .ok (.aload_n 0, 1) := by decide +kernel
theorem dX11_sure_25 : decode cX11_sure 25 = .ok (.getfield 91, 3) := by decide +kernel
theorem dX11_sure_28 : decode cX11_sure 28 = .ok (.aload_n 0, 1) := by decide +kernel
theorem dX11_sure_29 : decode cX11_sure 29 = .ok (.getfield 57, 3) := by decide +kernel
theorem dX11_sure_32 : decode cX11_sure 32 = .ok (.aload_n 0, 1) := by decide +kernel
theorem dX11_sure_33 : decode cX11_sure 33 = .ok (.getfield 67, 3) := by decide +kernel
theorem dX11_sure_36 : decode cX11_sure 36 = .ok (.invokevirtual 161, 3) := by decide +kernel
theorem dX11_sure_39 : decode cX11_sure 39 = .ok (.invokevirtual 264, 3) := by decide +kernel
theorem dX11_sure_42 : decode cX11_sure 42 = .ok (.istore_n 2, 1) := by decide +kernel
theorem dX11_sure_43 : decode cX11_sure 43 = .ok (.iload_n 2, 1) := by decide +kernel
theorem dX11_sure_44 : decode cX11_sure 44 = .ok (.iconst (-1), 1) := by decide +kernel
theorem dX11_sure_45 : decode cX11_sure 45 = .ok (.if_icmp .eq 7, 3) := by decide +kernel
theorem dX11_sure_48 : decode cX11_sure 48 = .ok (.iload_n 1, 1) := by decide +kernel
theorem dX11_sure_49 : decode cX11_sure 49 = .ok (.ifCond .ne 7, 3) := by decide +kernel
theorem dX11_sure_52 : decode cX11_sure 52 = .ok (.iload_n 2, 1) := by decide +kernel
theorem dX11_sure_53 : decode cX11_sure 53 = .ok (.goto 11, 3) := by decide +kernel
theorem dX11_sure_56 : decode cX11_sure 56 = .ok (.aload_n 0, 1) := by decide +kernel
theorem dX11_sure_57 : decode cX11_sure 57 = .ok (.getfield 57, 3) := by decide +kernel
theorem dX11_sure_60 : decode cX11_sure 60 = .ok (.iload_n 2, 1) := by decide +kernel
theorem dX11_sure_61 : decode cX11_sure 61 = .ok (.invokevirtual 267, 3) := by decide +kernel
theorem dX11_sure_64 : decode cX11_sure 64 = .ok (.ireturn, 1) := by decide +kernel
theorem kc_RX11_264 : Cond.methodLink RX11 264 yX10_sureSet ∈ ktG ∧ (Cond.instanceMethod yX10_sureSet ∈ ktG ∧ Cond.selects yX10_sureSet.cls yX10_sureSet yX10_sureSet ∈ ktG) ∧ Cond.initialized yX10_sureSet.cls ∈ ktG ∧ Cond.code yX10_sureSet cX10_sureSet 8 (some .int) ∈ ktG := ⟨(kwm 1003 (by decide +kernel) (by decide +kernel)), ⟨(kwm 1004 (by decide +kernel) (by decide +kernel)), (kwm 1005 (by decide +kernel) (by decide +kernel))⟩, (kwm 138 (by decide +kernel) (by decide +kernel)), kwm 1006 (by decide +kernel) (by decide +kernel)⟩
theorem kh_X10_sureSet : yX10_sureSet.cls ≠ "java/lang/invoke/MethodHandle" ∧ yX10_sureSet.cls ≠ "java/lang/invoke/VarHandle" ∧ (parseMethodDescriptor yX10_sureSet.desc).map (fun d => d.parameters.length) = some 2 := by decide +kernel
theorem kc_RX11_267 : Cond.methodLink RX11 267 yX2_harmOf ∈ ktG ∧ (Cond.instanceMethod yX2_harmOf ∈ ktG ∧ Cond.selects yX2_harmOf.cls yX2_harmOf yX2_harmOf ∈ ktG) ∧ Cond.initialized yX2_harmOf.cls ∈ ktG ∧ Cond.code yX2_harmOf cX2_harmOf 4 (some .int) ∈ ktG := ⟨(kwm 1011 (by decide +kernel) (by decide +kernel)), ⟨(kwm 976 (by decide +kernel) (by decide +kernel)), (kwm 977 (by decide +kernel) (by decide +kernel))⟩, (kwm 134 (by decide +kernel) (by decide +kernel)), kwm 978 (by decide +kernel) (by decide +kernel)⟩
def f_X11_sure_b52 (h : KH) (v2 : Int32) : Option (Int32 × KH) :=
  some (v2, h)
set_option maxHeartbeats 4000000 in
set_option maxRecDepth 100000 in
theorem s_X11_sure_b52 {Z : Nat → (Nat → Nat) → State → Prop} (h : KH) (v2 : Int32) {t : Int32 × KH} (hn : h.1 = 243) (H : f_X11_sure_b52 h v2 = some t) : KX Z RX11 cX11_sure 3 false 7 (KRi cX11_sure t.1 t.2) 52 [(2, .int v2)] [] h := by
  unfold f_X11_sure_b52 at H
  refine x_iload_n (q := 53) dX11_sure_52 rfl rfl ?_
  refine x_goto dX11_sure_53 (q := 64) (by decide) ?_
  cases H
  exact x_end ⟨dX11_sure_64, rfl, rfl⟩
def f_X11_sure (h : KH) (v0 : Nat) (v1 : Int32) : Option (Int32 × KH) :=
  kb (f_X11_isBit h v1) fun r1 =>
  if r1 = 0 then
  some ((-1 : Int32), h)
  else
  if kkind v0 = 11 then if (kR h v0 11) < 999999 then if (kR h v0 5) < 999999 then if (kR h v0 7) < 999999 then if kkind (kR h v0 11) = 10 then kb (f_X10_weigh h (kR h v0 11) (kR h v0 5) (kR h v0 7)) fun r10 =>
  if (kR r10 v0 11) < 999999 then if (kR r10 v0 5) < 999999 then if (kR r10 v0 7) < 999999 then if kkind (kR r10 v0 7) = 8 then kb (f_X8_heardBits r10 (kR r10 v0 7)) fun r18 =>
  if kkind (kR r10 v0 11) = 10 then kb (f_X10_sureSet r10 (kR r10 v0 11) (kR r10 v0 5) r18) fun r22 =>
  if r22.1 = (-1 : Int32) then
  f_X11_sure_b52 r22.2 r22.1
  else
  if v1 = 0 then
  f_X11_sure_b52 r22.2 r22.1
  else
  if (kR r22.2 v0 5) < 999999 then if kkind (kR r22.2 v0 5) = 2 then kb (f_X2_harmOf r22.2 (kR r22.2 v0 5) r22.1) fun r30 =>
  some (r30, r22.2) else none else none else none else none else none else none else none else none else none else none else none else none
set_option maxHeartbeats 4000000 in
set_option maxRecDepth 100000 in
theorem s0_X11_sure {Z : Nat → (Nat → Nat) → State → Prop} (h : KH) (v0 : Nat) (v1 : Int32) {t : Int32 × KH} (hn : h.1 = 243) (H : f_X11_sure h v0 v1 = some t) : KX Z RX11 cX11_sure 3 false 7 (KRi cX11_sure t.1 t.2) 0 [(0, .ref v0), (1, .int v1)] [] h := by
  unfold f_X11_sure at H
  refine x_iload_n (q := 1) dX11_sure_0 rfl rfl ?_
  replace H := kbe H; obtain ⟨r1, c2, H⟩ := H
  have m3 := s_X11_isBit (Z := Z) h v1 hn c2
  refine x_callS (q := 4) (as := [.int v1]) (rest := []) dX11_sure_1 rfl kc_RX11_209 kh_X11_isBit (by decide) (Nat.le_of_ble_eq_true rfl) m3 ?_
  replace H := kite H; rcases H with ⟨g4, H⟩ | ⟨g4, H⟩
  · refine x_if_ne_f (q := 7) dX11_sure_4 (t := 9) (by decide) rfl g4 ?_
    refine x_iconst (q := 8) (v := (-1 : Int32)) dX11_sure_7 rfl (by decide) ?_
    cases H
    exact x_end ⟨dX11_sure_8, rfl, rfl⟩
  · refine x_if_ne_t dX11_sure_4 (q := 9) (by decide) g4 ?_
    refine x_aload_n (q := 10) dX11_sure_9 rfl rfl ?_
    replace H := kif H; obtain ⟨g5, H⟩ := H
    replace H := kif H; obtain ⟨g6, H⟩ := H
    refine x_getR (q := 13) dX11_sure_10 rfl kl_RX11_91 rfl (k243 g5 (by decide) hn) g6 ?_
    refine x_aload_n (q := 14) dX11_sure_13 rfl rfl ?_
    replace H := kif H; obtain ⟨g7, H⟩ := H
    refine x_getR (q := 17) dX11_sure_14 rfl kl_RX11_57 rfl (k243 g5 (by decide) hn) g7 ?_
    refine x_aload_n (q := 18) dX11_sure_17 rfl rfl ?_
    replace H := kif H; obtain ⟨g8, H⟩ := H
    refine x_getR (q := 21) dX11_sure_18 rfl kl_RX11_67 rfl (k243 g5 (by decide) hn) g8 ?_
    replace H := kif H; obtain ⟨g9, H⟩ := H
    replace H := kbe H; obtain ⟨r10, c11, H⟩ := H
    have m12 := s_X10_weigh (Z := Z) h (kR h v0 11) (kR h v0 5) (kR h v0 7) hn c11
    refine x_callV (q := 24) (as := [.ref (kR h v0 5), .ref (kR h v0 7)]) (rest := []) dX11_sure_21 rfl kc_RX11_223 kh_X10_weigh (by decide) (Nat.le_of_ble_eq_true rfl) m12 (ci := 10) (by exact ⟨rfl, by decide⟩) (k243 g9 (by decide) hn) ?_
    have n13 : (r10).1 = 243 := m12.1.full hn
    refine x_aload_n (q := 25) dX11_sure_24 rfl rfl ?_
    replace H := kif H; obtain ⟨g14, H⟩ := H
    refine x_getR (q := 28) dX11_sure_25 rfl kl_RX11_91 rfl (k243 g5 (by decide) n13) g14 ?_
    refine x_aload_n (q := 29) dX11_sure_28 rfl rfl ?_
    replace H := kif H; obtain ⟨g15, H⟩ := H
    refine x_getR (q := 32) dX11_sure_29 rfl kl_RX11_57 rfl (k243 g5 (by decide) n13) g15 ?_
    refine x_aload_n (q := 33) dX11_sure_32 rfl rfl ?_
    replace H := kif H; obtain ⟨g16, H⟩ := H
    refine x_getR (q := 36) dX11_sure_33 rfl kl_RX11_67 rfl (k243 g5 (by decide) n13) g16 ?_
    replace H := kif H; obtain ⟨g17, H⟩ := H
    replace H := kbe H; obtain ⟨r18, c19, H⟩ := H
    have m20 := s_X8_heardBits (Z := Z) r10 (kR r10 v0 7) n13 c19
    refine x_callV (q := 39) (as := []) (rest := [.ref (kR r10 v0 5), .ref (kR r10 v0 11)]) dX11_sure_36 rfl kc_RX11_161 kh_X8_heardBits (by decide) (Nat.le_of_ble_eq_true rfl) m20 (ci := 8) (by exact ⟨rfl, by decide⟩) (k243 g17 (by decide) n13) ?_
    replace H := kif H; obtain ⟨g21, H⟩ := H
    replace H := kbe H; obtain ⟨r22, c23, H⟩ := H
    have m24 := s_X10_sureSet (Z := Z) r10 (kR r10 v0 11) (kR r10 v0 5) r18 n13 c23
    refine x_callV (q := 42) (as := [.ref (kR r10 v0 5), .int r18]) (rest := []) dX11_sure_39 rfl kc_RX11_264 kh_X10_sureSet (by decide) (Nat.le_of_ble_eq_true rfl) m24 (ci := 10) (by exact ⟨rfl, by decide⟩) (k243 g21 (by decide) n13) ?_
    have n25 : (r22.2).1 = 243 := m24.1.full n13
    refine x_istore_n (q := 43) (i := 2) (ls2 := [(2, .int r22.1), (0, .ref v0), (1, .int v1)]) dX11_sure_42 rfl rfl (by decide) rfl ?_
    refine x_iload_n (q := 44) dX11_sure_43 rfl rfl ?_
    refine x_iconst (q := 45) (v := (-1 : Int32)) dX11_sure_44 rfl (by decide) ?_
    replace H := kite H; rcases H with ⟨g26, H⟩ | ⟨g26, H⟩
    · refine x_icmp_eq_t dX11_sure_45 (q := 52) (by decide) g26 ?_
      refine x_sub (ls2 := [(2, .int r22.1)]) [0] rfl ?_
      exact s_X11_sure_b52 r22.2 r22.1 n25 H
    · refine x_icmp_eq_f (q := 48) dX11_sure_45 (t := 52) (by decide) rfl g26 ?_
      refine x_iload_n (q := 49) dX11_sure_48 rfl rfl ?_
      replace H := kite H; rcases H with ⟨g27, H⟩ | ⟨g27, H⟩
      · refine x_if_ne_f (q := 52) dX11_sure_49 (t := 56) (by decide) rfl g27 ?_
        refine x_sub (ls2 := [(2, .int r22.1)]) [0] rfl ?_
        exact s_X11_sure_b52 r22.2 r22.1 n25 H
      · refine x_if_ne_t dX11_sure_49 (q := 56) (by decide) g27 ?_
        refine x_aload_n (q := 57) dX11_sure_56 rfl rfl ?_
        replace H := kif H; obtain ⟨g28, H⟩ := H
        refine x_getR (q := 60) dX11_sure_57 rfl kl_RX11_57 rfl (k243 g5 (by decide) n25) g28 ?_
        refine x_iload_n (q := 61) dX11_sure_60 rfl rfl ?_
        replace H := kif H; obtain ⟨g29, H⟩ := H
        replace H := kbe H; obtain ⟨r30, c31, H⟩ := H
        have m32 := s_X2_harmOf (Z := Z) r22.2 (kR r22.2 v0 5) r22.1 n25 c31
        refine x_callV (q := 64) (as := [.int r22.1]) (rest := []) dX11_sure_61 rfl kc_RX11_267 kh_X2_harmOf (by decide) (Nat.le_of_ble_eq_true rfl) m32 (ci := 2) (by exact ⟨rfl, by decide⟩) (k243 g29 (by decide) n25) ?_
        cases H
        exact x_end ⟨dX11_sure_64, rfl, rfl⟩
theorem s_X11_sure {Z : Nat → (Nat → Nat) → State → Prop} (h : KH) (v0 : Nat) (v1 : Int32) {t : Int32 × KH} (hn : h.1 = 243) (H : f_X11_sure h v0 v1 = some t) : KM Z yX11_sure cX11_sure 3 (some .int) 7 [.ref v0, .int v1] h (some (.int t.1)) t.2 :=
  kx_i (own := RX11) (ini := false) (by decide +kernel) (by decide +kernel) rfl (Nat.le_of_ble_eq_true rfl) (s0_X11_sure h v0 v1 hn H)
theorem dX11_lookAhead_0 : decode cX11_lookAhead 0 = .ok (.aload_n 0, 1) := by decide +kernel
theorem dX11_lookAhead_1 : decode cX11_lookAhead 1 = .ok (.getfield 84, 3) := by decide +kernel
theorem dX11_lookAhead_4 : decode cX11_lookAhead 4 = .ok (.getfield 139, 3) := by decide +kernel
theorem dX11_lookAhead_7 : decode cX11_lookAhead 7 = .ok (.ifCond .ne 44, 3) := by decide +kernel
theorem dX11_lookAhead_10 : decode cX11_lookAhead 10 = .ok (.aload_n 0, 1) := by decide +kernel
theorem dX11_lookAhead_11 : decode cX11_lookAhead 11 = .ok (.getfield 84, 3) := by decide +kernel
theorem dX11_lookAhead_14 : decode cX11_lookAhead 14 = .ok (.getfield 376, 3) := by decide +kernel
theorem dX11_lookAhead_17 : decode cX11_lookAhead 17 = .ok (.aload_n 0, 1) := by decide +kernel
theorem dX11_lookAhead_18 : decode cX11_lookAhead 18 = .ok (.getfield 67, 3) := by decide +kernel
theorem dX11_lookAhead_21 : decode cX11_lookAhead 21 = .ok (.invokevirtual 353, 3) := by decide +kernel
theorem dX11_lookAhead_24 : decode cX11_lookAhead 24 = .ok (.aload_n 0, 1) := by decide +kernel
theorem dX11_lookAhead_25 : decode cX11_lookAhead 25 = .ok (.getfield 84, 3) := by decide +kernel
theorem dX11_lookAhead_28 : decode cX11_lookAhead 28 = .ok (.getfield 376, 3) := by decide +kernel
theorem dX11_lookAhead_31 : decode cX11_lookAhead 31 = .ok (.aload_n 0, 1) := by decide +kernel
theorem dX11_lookAhead_32 : decode cX11_lookAhead 32 = .ok (.getfield 67, 3) := by decide +kernel
theorem dX11_lookAhead_35 : decode cX11_lookAhead 35 = .ok (.invokevirtual 161, 3) := by decide +kernel
theorem dX11_lookAhead_38 : decode cX11_lookAhead 38 = .ok (.invokevirtual 360, 3) := by decide +kernel
theorem dX11_lookAhead_41 : decode cX11_lookAhead 41 = .ok (.aload_n 0, 1) := by decide +kernel
theorem dX11_lookAhead_42 : decode cX11_lookAhead 42 = .ok (.getfield 84, 3) := by decide +kernel
theorem dX11_lookAhead_45 : decode cX11_lookAhead 45 = .ok (.getfield 376, 3) := by decide +kernel
theorem dX11_lookAhead_48 : decode cX11_lookAhead 48 = .ok (.invokevirtual 303, 3) := by decide +kernel
theorem dX11_lookAhead_51 : decode cX11_lookAhead 51 = .ok (.aload_n 0, 1) := by decide +kernel
theorem dX11_lookAhead_52 : decode cX11_lookAhead 52 = .ok (.getfield 84, 3) := by decide +kernel
theorem dX11_lookAhead_55 : decode cX11_lookAhead 55 = .ok (.getfield 139, 3) := by decide +kernel
theorem dX11_lookAhead_58 : decode cX11_lookAhead 58 = .ok (.istore_n 2, 1) := by decide +kernel
theorem dX11_lookAhead_59 : decode cX11_lookAhead 59 = .ok (.iload_n 2, 1) := by decide +kernel
theorem dX11_lookAhead_60 : decode cX11_lookAhead 60 = .ok (.iload_n 1, 1) := by decide +kernel
theorem dX11_lookAhead_61 : decode cX11_lookAhead 61 = .ok (.if_icmp .ge 119, 3) := by decide +kernel
theorem dX11_lookAhead_64 : decode cX11_lookAhead 64 = .ok (.iload_n 2, 1) := by decide +kernel
theorem dX11_lookAhead_65 : decode cX11_lookAhead 65 = .ok (.bipush 30, 2) := by decide +kernel
theorem dX11_lookAhead_67 : decode cX11_lookAhead 67 = .ok (.if_icmp .ge 113, 3) := by decide +kernel
theorem dX11_lookAhead_70 : decode cX11_lookAhead 70 = .ok (.aload_n 0, 1) := by decide +kernel
theorem dX11_lookAhead_71 : decode cX11_lookAhead 71 = .ok (.getfield 91, 3) := by decide +kernel
theorem dX11_lookAhead_74 : decode cX11_lookAhead 74 = .ok (.aload_n 0, 1) := by decide +kernel
theorem dX11_lookAhead_75 : decode cX11_lookAhead 75 = .ok (.getfield 57, 3) := by decide +kernel
theorem dX11_lookAhead_78 : decode cX11_lookAhead 78 = .ok (.aload_n 0, 1) := by decide +kernel
theorem dX11_lookAhead_79 : decode cX11_lookAhead 79 = .ok (.getfield 84, 3) := by decide +kernel
theorem dX11_lookAhead_82 : decode cX11_lookAhead 82 = .ok (.getfield 376, 3) := by decide +kernel
theorem dX11_lookAhead_85 : decode cX11_lookAhead 85 = .ok (.invokevirtual 223, 3) := by decide +kernel
theorem dX11_lookAhead_88 : decode cX11_lookAhead 88 = .ok (.aload_n 0, 1) := by decide +kernel
theorem dX11_lookAhead_89 : decode cX11_lookAhead 89 = .ok (.getfield 91, 3) := by decide +kernel
theorem dX11_lookAhead_92 : decode cX11_lookAhead 92 = .ok (.aload_n 0, 1) := by decide +kernel
theorem dX11_lookAhead_93 : decode cX11_lookAhead 93 = .ok (.getfield 57, 3) := by decide +kernel
theorem dX11_lookAhead_96 : decode cX11_lookAhead 96 = .ok (.iconst 0, 1) := by decide +kernel
theorem dX11_lookAhead_97 : decode cX11_lookAhead 97 = .ok (.invokevirtual 254, 3) := by decide +kernel
theorem dX11_lookAhead_100 : decode cX11_lookAhead 100 = .ok (.istore_n 3, 1) := by decide +kernel
theorem dX11_lookAhead_101 : decode cX11_lookAhead 101 = .ok (.aload_n 0, 1) := by decide +kernel
theorem dX11_lookAhead_102 : decode cX11_lookAhead 102 = .ok (.getfield 84, 3) := by decide +kernel
theorem dX11_lookAhead_105 : decode cX11_lookAhead 105 = .ok (.getfield 273, 3) := by decide +kernel
theorem dX11_lookAhead_108 : decode cX11_lookAhead 108 = .ok (.iload_n 2, 1) := by decide +kernel
theorem dX11_lookAhead_109 : decode cX11_lookAhead 109 = .ok (.iload_n 3, 1) := by decide +kernel
theorem dX11_lookAhead_110 : decode cX11_lookAhead 110 = .ok (.iastore, 1) := by decide +kernel
theorem dX11_lookAhead_111 : decode cX11_lookAhead 111 = .ok (.aload_n 0, 1) := by decide +kernel
theorem dX11_lookAhead_112 : decode cX11_lookAhead 112 = .ok (.getfield 84, 3) := by decide +kernel
theorem dX11_lookAhead_115 : decode cX11_lookAhead 115 = .ok (.getfield 276, 3) := by decide +kernel
theorem dX11_lookAhead_118 : decode cX11_lookAhead 118 = .ok (.iload_n 2, 1) := by decide +kernel
theorem dX11_lookAhead_119 : decode cX11_lookAhead 119 = .ok (.iload_n 3, 1) := by decide +kernel
theorem dX11_lookAhead_120 : decode cX11_lookAhead 120 = .ok (.iconst (-1), 1) := by decide +kernel
theorem dX11_lookAhead_121 : decode cX11_lookAhead 121 = .ok (.if_icmp .ne 7, 3) := by decide +kernel
theorem dX11_lookAhead_124 : decode cX11_lookAhead 124 = .ok (.iconst (-1), 1) := by decide +kernel
theorem dX11_lookAhead_125 : decode cX11_lookAhead 125 = .ok (.goto 18, 3) := by decide +kernel
theorem dX11_lookAhead_128 : decode cX11_lookAhead 128 = .ok (.aload_n 0, 1) := by decide +kernel
theorem dX11_lookAhead_129 : decode cX11_lookAhead 129 = .ok (.getfield 91, 3) := by decide +kernel
theorem dX11_lookAhead_132 : decode cX11_lookAhead 132 = .ok (.aload_n 0, 1) := by decide +kernel
theorem dX11_lookAhead_133 : decode cX11_lookAhead 133 = .ok (.getfield 91, 3) := by decide +kernel
theorem dX11_lookAhead_136 : decode cX11_lookAhead 136 = .ok (.iload_n 3, 1) := by decide +kernel
theorem dX11_lookAhead_137 : decode cX11_lookAhead 137 = .ok (.invokevirtual 279, 3) := by decide +kernel
theorem dX11_lookAhead_140 : decode cX11_lookAhead 140 = .ok (.invokevirtual 235, 3) := by decide +kernel
theorem dX11_lookAhead_143 : decode cX11_lookAhead 143 = .ok (.iastore, 1) := by decide +kernel
theorem dX11_lookAhead_144 : decode cX11_lookAhead 144 = .ok (.aload_n 0, 1) := by decide +kernel
theorem dX11_lookAhead_145 : decode cX11_lookAhead 145 = .ok (.getfield 84, 3) := by decide +kernel
theorem dX11_lookAhead_148 : decode cX11_lookAhead 148 = .ok (.getfield 376, 3) := by decide +kernel
theorem dX11_lookAhead_151 : decode cX11_lookAhead 151 = .ok (.iload_n 3, 1) := by decide +kernel
theorem dX11_lookAhead_152 : decode cX11_lookAhead 152 = .ok (.iconst (-1), 1) := by decide +kernel
theorem dX11_lookAhead_153 : decode cX11_lookAhead 153 = .ok (.if_icmp .ne 7, 3) := by decide +kernel
theorem dX11_lookAhead_156 : decode cX11_lookAhead 156 = .ok (.iconst 0, 1) := by decide +kernel
theorem dX11_lookAhead_157 : decode cX11_lookAhead 157 = .ok (.goto 4, 3) := by decide +kernel
theorem dX11_lookAhead_160 : decode cX11_lookAhead 160 = .ok (.iload_n 3, 1) := by decide +kernel
theorem dX11_lookAhead_161 : decode cX11_lookAhead 161 = .ok (.invokevirtual 360, 3) := by decide +kernel
theorem dX11_lookAhead_164 : decode cX11_lookAhead 164 = .ok (.aload_n 0, 1) := by decide +kernel
theorem dX11_lookAhead_165 : decode cX11_lookAhead 165 = .ok (.getfield 84, 3) := by decide +kernel
theorem dX11_lookAhead_168 : decode cX11_lookAhead 168 = .ok (.iload_n 2, 1) := by decide +kernel
theorem dX11_lookAhead_169 : decode cX11_lookAhead 169 = .ok (.iconst 1, 1) := by decide +kernel
theorem dX11_lookAhead_170 : decode cX11_lookAhead 170 = .ok (.iadd, 1) := by decide +kernel
theorem dX11_lookAhead_171 : decode cX11_lookAhead 171 = .ok (.putfield 139, 3) := by decide +kernel
theorem dX11_lookAhead_174 : decode cX11_lookAhead 174 = .ok (.iinc 2 1, 3) := by decide +kernel
theorem dX11_lookAhead_177 : decode cX11_lookAhead 177 = .ok (.goto (-118), 3) := by decide +kernel
theorem dX11_lookAhead_180 : decode cX11_lookAhead 180 = .ok (.return_, 1) := by decide +kernel
theorem kl_RX11_84 : KLk RX11 84 11 10 := ⟨RX11, TX11, 18, rfl, by decide, Or.inl (kwm 538 (by decide +kernel) (by decide +kernel))⟩
theorem kl_RX11_139 : KLk RX11 139 0 3 := ⟨RX0, TX0, 4, rfl, by decide, Or.inr (by decide +kernel)⟩
theorem kl_RX11_376 : KLk RX11 376 0 2 := ⟨RX0, TX0, 4, rfl, by decide, Or.inr (by decide +kernel)⟩
theorem kl_RX11_273 : KLk RX11 273 0 0 := ⟨RX0, TX0, 4, rfl, by decide, Or.inr (by decide +kernel)⟩
theorem kl_RX11_276 : KLk RX11 276 0 1 := ⟨RX0, TX0, 4, rfl, by decide, Or.inr (by decide +kernel)⟩
theorem kc_RX11_279 : Cond.methodLink RX11 279 yX10_rightOf ∈ ktG ∧ (Cond.instanceMethod yX10_rightOf ∈ ktG ∧ Cond.selects yX10_rightOf.cls yX10_rightOf yX10_rightOf ∈ ktG) ∧ Cond.initialized yX10_rightOf.cls ∈ ktG ∧ Cond.code yX10_rightOf cX10_rightOf 7 (some .long) ∈ ktG := ⟨(kwm 1033 (by decide +kernel) (by decide +kernel)), ⟨(kwm 970 (by decide +kernel) (by decide +kernel)), (kwm 971 (by decide +kernel) (by decide +kernel))⟩, (kwm 138 (by decide +kernel) (by decide +kernel)), kwm 972 (by decide +kernel) (by decide +kernel)⟩
theorem kc_RX11_360 : Cond.methodLink RX11 360 yX8_hearOnceMore ∈ ktG ∧ (Cond.instanceMethod yX8_hearOnceMore ∈ ktG ∧ Cond.selects yX8_hearOnceMore.cls yX8_hearOnceMore yX8_hearOnceMore ∈ ktG) ∧ Cond.initialized yX8_hearOnceMore.cls ∈ ktG ∧ Cond.code yX8_hearOnceMore cX8_hearOnceMore 3 none ∈ ktG := ⟨(kwm 1027 (by decide +kernel) (by decide +kernel)), ⟨(kwm 1028 (by decide +kernel) (by decide +kernel)), (kwm 1029 (by decide +kernel) (by decide +kernel))⟩, (kwm 135 (by decide +kernel) (by decide +kernel)), kwm 1030 (by decide +kernel) (by decide +kernel)⟩
theorem kh_X8_hearOnceMore : yX8_hearOnceMore.cls ≠ "java/lang/invoke/MethodHandle" ∧ yX8_hearOnceMore.cls ≠ "java/lang/invoke/VarHandle" ∧ (parseMethodDescriptor yX8_hearOnceMore.desc).map (fun d => d.parameters.length) = some 1 := by decide +kernel
theorem kc_RX11_353 : Cond.methodLink RX11 353 yX8_copyFrom ∈ ktG ∧ (Cond.instanceMethod yX8_copyFrom ∈ ktG ∧ Cond.selects yX8_copyFrom.cls yX8_copyFrom yX8_copyFrom ∈ ktG) ∧ Cond.initialized yX8_copyFrom.cls ∈ ktG ∧ Cond.code yX8_copyFrom cX8_copyFrom 2 none ∈ ktG := ⟨(kwm 1020 (by decide +kernel) (by decide +kernel)), ⟨(kwm 1021 (by decide +kernel) (by decide +kernel)), (kwm 1022 (by decide +kernel) (by decide +kernel))⟩, (kwm 135 (by decide +kernel) (by decide +kernel)), kwm 1023 (by decide +kernel) (by decide +kernel)⟩
theorem kc_RX11_303 : Cond.methodLink RX11 303 yX8_forgetCase ∈ ktG ∧ (Cond.instanceMethod yX8_forgetCase ∈ ktG ∧ Cond.selects yX8_forgetCase.cls yX8_forgetCase yX8_forgetCase ∈ ktG) ∧ Cond.initialized yX8_forgetCase.cls ∈ ktG ∧ Cond.code yX8_forgetCase cX8_forgetCase 1 none ∈ ktG := ⟨(kwm 1032 (by decide +kernel) (by decide +kernel)), ⟨(kwm 780 (by decide +kernel) (by decide +kernel)), (kwm 781 (by decide +kernel) (by decide +kernel))⟩, (kwm 135 (by decide +kernel) (by decide +kernel)), kwm 782 (by decide +kernel) (by decide +kernel)⟩
def E_X11_lookAhead_l59 (v0 : Nat) (v1 : Int32) : KH → Nat → List (Nat × Value) → List Value → KH → Prop := fun (e : KH) pc ls st hh => pc = 180 ∧ ls = [] ∧ st = [] ∧ e = hh
def B_X11_lookAhead_l59 (v0 : Nat) (v1 : Int32) : ((Int32 × KH) ⊕ (KH)) → Nat → List (Nat × Value) → List Value → KH → Prop := Sum.elim (fun (s : Int32 × KH) pc ls st hh => pc = 59 ∧ ls = [(0, .ref v0), (1, .int v1), (2, .int s.1)] ∧ st = [] ∧ hh = s.2) (E_X11_lookAhead_l59 v0 v1)
def f_X11_lookAhead_b161 (h : KH) (v0 : Nat) (v1 : Int32) (v2 : Int32) (w0 : Nat) (w1 : Int32) : Option ((Int32 × KH) ⊕ (KH)) :=
  if kkind w0 = 8 then kb (f_X8_hearOnceMore h w0 w1) fun r2 =>
  if kkind v0 = 11 then if (kR r2 v0 10) < 999999 then if kkind (kR r2 v0 10) = 0 then kl (ksI r2 (kR r2 v0 10) 3 (v2 + (1 : Int32))) fun h9 =>
  kl (v2 + (1 : Int32)) fun x12 =>
  some (.inl (x12, h9)) else none else none else none else none
set_option maxHeartbeats 4000000 in
set_option maxRecDepth 100000 in
theorem s_X11_lookAhead_b161 {Z : Nat → (Nat → Nat) → State → Prop} (h : KH) (v0 : Nat) (v1 : Int32) (v2 : Int32) (w0 : Nat) (w1 : Int32) {t : (Int32 × KH) ⊕ (KH)} (hn : h.1 = 243) (H : f_X11_lookAhead_b161 h v0 v1 v2 w0 w1 = some t) : KX Z RX11 cX11_lookAhead 4 false 7 (B_X11_lookAhead_l59 v0 v1 t) 161 [(0, .ref v0), (1, .int v1), (2, .int v2)] [.int w1, .ref w0] h := by
  unfold f_X11_lookAhead_b161 at H
  replace H := kif H; obtain ⟨g1, H⟩ := H
  replace H := kbe H; obtain ⟨r2, c3, H⟩ := H
  have m4 := s_X8_hearOnceMore (Z := Z) h w0 w1 hn c3
  refine x_callV (q := 164) (as := [.int w1]) (rest := []) dX11_lookAhead_161 rfl kc_RX11_360 kh_X8_hearOnceMore (by decide) (Nat.le_of_ble_eq_true rfl) m4 (ci := 8) (by exact ⟨rfl, by decide⟩) (k243 g1 (by decide) hn) ?_
  have n5 : (r2).1 = 243 := m4.1.full hn
  refine x_aload_n (q := 165) dX11_lookAhead_164 rfl rfl ?_
  replace H := kif H; obtain ⟨g6, H⟩ := H
  replace H := kif H; obtain ⟨g7, H⟩ := H
  refine x_getR (q := 168) dX11_lookAhead_165 rfl kl_RX11_84 rfl (k243 g6 (by decide) n5) g7 ?_
  refine x_iload_n (q := 169) dX11_lookAhead_168 rfl rfl ?_
  refine x_iconst (q := 170) (v := (1 : Int32)) dX11_lookAhead_169 rfl (by decide) ?_
  refine x_iadd (q := 171) dX11_lookAhead_170 rfl ?_
  replace H := kif H; obtain ⟨g8, H⟩ := H
  replace H := kle H; obtain ⟨h9, q10, H⟩ := H
  refine x_putI (q := 174) dX11_lookAhead_171 rfl kl_RX11_139 (Or.inl rfl) rfl (k243 g8 (by decide) n5) ?_
  refine x_nmH q10 ?_
  have n11 : h9.1 = 243 := by rw [q10]; exact n5
  replace H := kle H; obtain ⟨x12, q13, H⟩ := H
  refine x_iinc (q := 177) (i := 2) (ls2 := [(2, .int x12), (0, .ref v0), (1, .int v1)]) dX11_lookAhead_174 rfl rfl (by decide) (by rw [q13]; rfl) ?_
  refine x_goto dX11_lookAhead_177 (q := 59) (by decide) ?_
  cases H
  refine x_sub (ls2 := [(0, .ref v0), (1, .int v1), (2, .int x12)]) [1, 2, 0] rfl ?_
  exact x_end (x_cfg rfl)
def f_X11_lookAhead_b143 (h : KH) (v0 : Nat) (v1 : Int32) (v2 : Int32) (v3 : Int32) (w0 : Nat) (w1 : Int32) (w2 : Int32) : Option ((Int32 × KH) ⊕ (KH)) :=
  if kkind w0 = 20 then if (w1 < 0 ∨ klen w0 ≤ (w1).toNatClampNeg) then none else kl (ksI h w0 ((w1).toNatClampNeg) w2) fun h3 =>
  if kkind v0 = 11 then if (kR h3 v0 10) < 999999 then if kkind (kR h3 v0 10) = 0 then if (kR h3 (kR h3 v0 10) 2) < 999999 then if v3 = (-1 : Int32) then
  f_X11_lookAhead_b161 h3 v0 v1 v2 (kR h3 (kR h3 v0 10) 2) (0 : Int32)
  else
  f_X11_lookAhead_b161 h3 v0 v1 v2 (kR h3 (kR h3 v0 10) 2) v3 else none else none else none else none else none
set_option maxHeartbeats 4000000 in
set_option maxRecDepth 100000 in
theorem s_X11_lookAhead_b143 {Z : Nat → (Nat → Nat) → State → Prop} (h : KH) (v0 : Nat) (v1 : Int32) (v2 : Int32) (v3 : Int32) (w0 : Nat) (w1 : Int32) (w2 : Int32) {t : (Int32 × KH) ⊕ (KH)} (hn : h.1 = 243) (H : f_X11_lookAhead_b143 h v0 v1 v2 v3 w0 w1 w2 = some t) : KX Z RX11 cX11_lookAhead 4 false 7 (B_X11_lookAhead_l59 v0 v1 t) 143 [(0, .ref v0), (1, .int v1), (2, .int v2), (3, .int v3)] [.int w2, .int w1, .ref w0] h := by
  unfold f_X11_lookAhead_b143 at H
  replace H := kif H; obtain ⟨g1, H⟩ := H
  replace H := kifn H; obtain ⟨g2, H⟩ := H
  replace H := kle H; obtain ⟨h3, q4, H⟩ := H
  refine x_iast (q := 144) dX11_lookAhead_143 rfl (k243 g1 (by decide) hn) g2 ?_
  refine x_nmH q4 ?_
  have n5 : h3.1 = 243 := by rw [q4]; exact hn
  refine x_aload_n (q := 145) dX11_lookAhead_144 rfl rfl ?_
  replace H := kif H; obtain ⟨g6, H⟩ := H
  replace H := kif H; obtain ⟨g7, H⟩ := H
  refine x_getR (q := 148) dX11_lookAhead_145 rfl kl_RX11_84 rfl (k243 g6 (by decide) n5) g7 ?_
  replace H := kif H; obtain ⟨g8, H⟩ := H
  replace H := kif H; obtain ⟨g9, H⟩ := H
  refine x_getR (q := 151) dX11_lookAhead_148 rfl kl_RX11_376 rfl (k243 g8 (by decide) n5) g9 ?_
  refine x_iload_n (q := 152) dX11_lookAhead_151 rfl rfl ?_
  refine x_iconst (q := 153) (v := (-1 : Int32)) dX11_lookAhead_152 rfl (by decide) ?_
  replace H := kite H; rcases H with ⟨g10, H⟩ | ⟨g10, H⟩
  · refine x_icmp_ne_f (q := 156) dX11_lookAhead_153 (t := 160) (by decide) rfl g10 ?_
    refine x_iconst (q := 157) (v := (0 : Int32)) dX11_lookAhead_156 rfl (by decide) ?_
    refine x_goto dX11_lookAhead_157 (q := 161) (by decide) ?_
    refine x_sub (ls2 := [(0, .ref v0), (1, .int v1), (2, .int v2)]) [0, 1, 2] rfl ?_
    exact s_X11_lookAhead_b161 h3 v0 v1 v2 (kR h3 (kR h3 v0 10) 2) (0 : Int32) n5 H
  · refine x_icmp_ne_t dX11_lookAhead_153 (q := 160) (by decide) g10 ?_
    refine x_iload_n (q := 161) dX11_lookAhead_160 rfl rfl ?_
    refine x_sub (ls2 := [(0, .ref v0), (1, .int v1), (2, .int v2)]) [0, 1, 2] rfl ?_
    exact s_X11_lookAhead_b161 h3 v0 v1 v2 (kR h3 (kR h3 v0 10) 2) v3 n5 H
def f_X11_lookAhead_l59 (v0 : Nat) (v1 : Int32) (s : Int32 × KH) : Option ((Int32 × KH) ⊕ (KH)) :=
  if v1 ≤ s.1 then
  some (.inr s.2)
  else
  if (30 : Int32) ≤ s.1 then
  some (.inr s.2)
  else
  if kkind v0 = 11 then if (kR s.2 v0 11) < 999999 then if (kR s.2 v0 5) < 999999 then if (kR s.2 v0 10) < 999999 then if kkind (kR s.2 v0 10) = 0 then if (kR s.2 (kR s.2 v0 10) 2) < 999999 then if kkind (kR s.2 v0 11) = 10 then kb (f_X10_weigh s.2 (kR s.2 v0 11) (kR s.2 v0 5) (kR s.2 (kR s.2 v0 10) 2)) fun r10 =>
  if (kR r10 v0 11) < 999999 then if (kR r10 v0 5) < 999999 then if kkind (kR r10 v0 11) = 10 then kb (f_X10_bestSet r10 (kR r10 v0 11) (kR r10 v0 5) (0 : Int32)) fun r17 =>
  if (kR r17.2 v0 10) < 999999 then if kkind (kR r17.2 v0 10) = 0 then if (kR r17.2 (kR r17.2 v0 10) 0) < 999999 then if kkind (kR r17.2 (kR r17.2 v0 10) 0) = 20 then if (s.1 < 0 ∨ klen (kR r17.2 (kR r17.2 v0 10) 0) ≤ (s.1).toNatClampNeg) then none else kl (ksI r17.2 (kR r17.2 (kR r17.2 v0 10) 0) ((s.1).toNatClampNeg) r17.1) fun h26 =>
  if (kR h26 v0 10) < 999999 then if kkind (kR h26 v0 10) = 0 then if (kR h26 (kR h26 v0 10) 1) < 999999 then if r17.1 = (-1 : Int32) then
  f_X11_lookAhead_b143 h26 v0 v1 s.1 r17.1 (kR h26 (kR h26 v0 10) 1) s.1 (-1 : Int32)
  else
  if (kR h26 v0 11) < 999999 then if kkind (kR h26 v0 11) = 10 then kb (f_X10_rightOf h26 (kR h26 v0 11) r17.1) fun r35 =>
  kb (f_X10_share r35.2 (kR h26 v0 11) r35.1) fun r39 =>
  f_X11_lookAhead_b143 r35.2 v0 v1 s.1 r17.1 (kR h26 (kR h26 v0 10) 1) s.1 r39 else none else none else none else none else none else none else none else none else none else none else none else none else none else none else none else none else none else none else none
set_option maxHeartbeats 4000000 in
set_option maxRecDepth 100000 in
theorem s_X11_lookAhead_l59 {Z : Nat → (Nat → Nat) → State → Prop} (v0 : Nat) (v1 : Int32) (s : Int32 × KH) (t : (Int32 × KH) ⊕ (KH)) (hn : (s.2).1 = 243) (H : f_X11_lookAhead_l59 v0 v1 s = some t) : KX Z RX11 cX11_lookAhead 4 false 7 (B_X11_lookAhead_l59 v0 v1 t) 59 [(0, .ref v0), (1, .int v1), (2, .int s.1)] [] s.2 := by
  unfold f_X11_lookAhead_l59 at H
  refine x_iload_n (q := 60) dX11_lookAhead_59 rfl rfl ?_
  refine x_iload_n (q := 61) dX11_lookAhead_60 rfl rfl ?_
  replace H := kite H; rcases H with ⟨g1, H⟩ | ⟨g1, H⟩
  · refine x_icmp_ge_t dX11_lookAhead_61 (q := 180) (by decide) g1 ?_
    cases H
    refine x_sub (ls2 := []) [] rfl ?_
    exact x_end (x_cfg rfl)
  · refine x_icmp_ge_f (q := 64) dX11_lookAhead_61 (t := 180) (by decide) rfl g1 ?_
    refine x_iload_n (q := 65) dX11_lookAhead_64 rfl rfl ?_
    refine x_bipush (q := 67) (v := (30 : Int32)) dX11_lookAhead_65 rfl (by decide) ?_
    replace H := kite H; rcases H with ⟨g2, H⟩ | ⟨g2, H⟩
    · refine x_icmp_ge_t dX11_lookAhead_67 (q := 180) (by decide) g2 ?_
      cases H
      refine x_sub (ls2 := []) [] rfl ?_
      exact x_end (x_cfg rfl)
    · refine x_icmp_ge_f (q := 70) dX11_lookAhead_67 (t := 180) (by decide) rfl g2 ?_
      refine x_aload_n (q := 71) dX11_lookAhead_70 rfl rfl ?_
      replace H := kif H; obtain ⟨g3, H⟩ := H
      replace H := kif H; obtain ⟨g4, H⟩ := H
      refine x_getR (q := 74) dX11_lookAhead_71 rfl kl_RX11_91 rfl (k243 g3 (by decide) hn) g4 ?_
      refine x_aload_n (q := 75) dX11_lookAhead_74 rfl rfl ?_
      replace H := kif H; obtain ⟨g5, H⟩ := H
      refine x_getR (q := 78) dX11_lookAhead_75 rfl kl_RX11_57 rfl (k243 g3 (by decide) hn) g5 ?_
      refine x_aload_n (q := 79) dX11_lookAhead_78 rfl rfl ?_
      replace H := kif H; obtain ⟨g6, H⟩ := H
      refine x_getR (q := 82) dX11_lookAhead_79 rfl kl_RX11_84 rfl (k243 g3 (by decide) hn) g6 ?_
      replace H := kif H; obtain ⟨g7, H⟩ := H
      replace H := kif H; obtain ⟨g8, H⟩ := H
      refine x_getR (q := 85) dX11_lookAhead_82 rfl kl_RX11_376 rfl (k243 g7 (by decide) hn) g8 ?_
      replace H := kif H; obtain ⟨g9, H⟩ := H
      replace H := kbe H; obtain ⟨r10, c11, H⟩ := H
      have m12 := s_X10_weigh (Z := Z) s.2 (kR s.2 v0 11) (kR s.2 v0 5) (kR s.2 (kR s.2 v0 10) 2) hn c11
      refine x_callV (q := 88) (as := [.ref (kR s.2 v0 5), .ref (kR s.2 (kR s.2 v0 10) 2)]) (rest := []) dX11_lookAhead_85 rfl kc_RX11_223 kh_X10_weigh (by decide) (Nat.le_of_ble_eq_true rfl) m12 (ci := 10) (by exact ⟨rfl, by decide⟩) (k243 g9 (by decide) hn) ?_
      have n13 : (r10).1 = 243 := m12.1.full hn
      refine x_aload_n (q := 89) dX11_lookAhead_88 rfl rfl ?_
      replace H := kif H; obtain ⟨g14, H⟩ := H
      refine x_getR (q := 92) dX11_lookAhead_89 rfl kl_RX11_91 rfl (k243 g3 (by decide) n13) g14 ?_
      refine x_aload_n (q := 93) dX11_lookAhead_92 rfl rfl ?_
      replace H := kif H; obtain ⟨g15, H⟩ := H
      refine x_getR (q := 96) dX11_lookAhead_93 rfl kl_RX11_57 rfl (k243 g3 (by decide) n13) g15 ?_
      refine x_iconst (q := 97) (v := (0 : Int32)) dX11_lookAhead_96 rfl (by decide) ?_
      replace H := kif H; obtain ⟨g16, H⟩ := H
      replace H := kbe H; obtain ⟨r17, c18, H⟩ := H
      have m19 := s_X10_bestSet (Z := Z) r10 (kR r10 v0 11) (kR r10 v0 5) (0 : Int32) n13 c18
      refine x_callV (q := 100) (as := [.ref (kR r10 v0 5), .int (0 : Int32)]) (rest := []) dX11_lookAhead_97 rfl kc_RX11_254 kh_X10_bestSet (by decide) (Nat.le_of_ble_eq_true rfl) m19 (ci := 10) (by exact ⟨rfl, by decide⟩) (k243 g16 (by decide) n13) ?_
      have n20 : (r17.2).1 = 243 := m19.1.full n13
      refine x_istore_n (q := 101) (i := 3) (ls2 := [(3, .int r17.1), (0, .ref v0), (1, .int v1), (2, .int s.1)]) dX11_lookAhead_100 rfl rfl (by decide) rfl ?_
      refine x_aload_n (q := 102) dX11_lookAhead_101 rfl rfl ?_
      replace H := kif H; obtain ⟨g21, H⟩ := H
      refine x_getR (q := 105) dX11_lookAhead_102 rfl kl_RX11_84 rfl (k243 g3 (by decide) n20) g21 ?_
      replace H := kif H; obtain ⟨g22, H⟩ := H
      replace H := kif H; obtain ⟨g23, H⟩ := H
      refine x_getR (q := 108) dX11_lookAhead_105 rfl kl_RX11_273 rfl (k243 g22 (by decide) n20) g23 ?_
      refine x_iload_n (q := 109) dX11_lookAhead_108 rfl rfl ?_
      refine x_iload_n (q := 110) dX11_lookAhead_109 rfl rfl ?_
      replace H := kif H; obtain ⟨g24, H⟩ := H
      replace H := kifn H; obtain ⟨g25, H⟩ := H
      replace H := kle H; obtain ⟨h26, q27, H⟩ := H
      refine x_iast (q := 111) dX11_lookAhead_110 rfl (k243 g24 (by decide) n20) g25 ?_
      refine x_nmH q27 ?_
      have n28 : h26.1 = 243 := by rw [q27]; exact n20
      refine x_aload_n (q := 112) dX11_lookAhead_111 rfl rfl ?_
      replace H := kif H; obtain ⟨g29, H⟩ := H
      refine x_getR (q := 115) dX11_lookAhead_112 rfl kl_RX11_84 rfl (k243 g3 (by decide) n28) g29 ?_
      replace H := kif H; obtain ⟨g30, H⟩ := H
      replace H := kif H; obtain ⟨g31, H⟩ := H
      refine x_getR (q := 118) dX11_lookAhead_115 rfl kl_RX11_276 rfl (k243 g30 (by decide) n28) g31 ?_
      refine x_iload_n (q := 119) dX11_lookAhead_118 rfl rfl ?_
      refine x_iload_n (q := 120) dX11_lookAhead_119 rfl rfl ?_
      refine x_iconst (q := 121) (v := (-1 : Int32)) dX11_lookAhead_120 rfl (by decide) ?_
      replace H := kite H; rcases H with ⟨g32, H⟩ | ⟨g32, H⟩
      · refine x_icmp_ne_f (q := 124) dX11_lookAhead_121 (t := 128) (by decide) rfl g32 ?_
        refine x_iconst (q := 125) (v := (-1 : Int32)) dX11_lookAhead_124 rfl (by decide) ?_
        refine x_goto dX11_lookAhead_125 (q := 143) (by decide) ?_
        refine x_sub (ls2 := [(0, .ref v0), (1, .int v1), (2, .int s.1), (3, .int r17.1)]) [1, 2, 3, 0] rfl ?_
        exact s_X11_lookAhead_b143 h26 v0 v1 s.1 r17.1 (kR h26 (kR h26 v0 10) 1) s.1 (-1 : Int32) n28 H
      · refine x_icmp_ne_t dX11_lookAhead_121 (q := 128) (by decide) g32 ?_
        refine x_aload_n (q := 129) dX11_lookAhead_128 rfl rfl ?_
        replace H := kif H; obtain ⟨g33, H⟩ := H
        refine x_getR (q := 132) dX11_lookAhead_129 rfl kl_RX11_91 rfl (k243 g3 (by decide) n28) g33 ?_
        refine x_aload_n (q := 133) dX11_lookAhead_132 rfl rfl ?_
        refine x_getR (q := 136) dX11_lookAhead_133 rfl kl_RX11_91 rfl (k243 g3 (by decide) n28) g33 ?_
        refine x_iload_n (q := 137) dX11_lookAhead_136 rfl rfl ?_
        replace H := kif H; obtain ⟨g34, H⟩ := H
        replace H := kbe H; obtain ⟨r35, c36, H⟩ := H
        have m37 := s_X10_rightOf (Z := Z) h26 (kR h26 v0 11) r17.1 n28 c36
        refine x_callV (q := 140) (as := [.int r17.1]) (rest := [.ref (kR h26 v0 11), .int s.1, .ref (kR h26 (kR h26 v0 10) 1)]) dX11_lookAhead_137 rfl kc_RX11_279 kh_X10_rightOf (by decide) (Nat.le_of_ble_eq_true rfl) m37 (ci := 10) (by exact ⟨rfl, by decide⟩) (k243 g34 (by decide) n28) ?_
        have n38 : (r35.2).1 = 243 := m37.1.full n28
        replace H := kbe H; obtain ⟨r39, c40, H⟩ := H
        have m41 := s_X10_share (Z := Z) r35.2 (kR h26 v0 11) r35.1 n38 c40
        refine x_callV (q := 143) (as := [.long r35.1]) (rest := [.int s.1, .ref (kR h26 (kR h26 v0 10) 1)]) dX11_lookAhead_140 rfl kc_RX11_235 kh_X10_share (by decide) (Nat.le_of_ble_eq_true rfl) m41 (ci := 10) (by exact ⟨rfl, by decide⟩) (k243 g34 (by decide) n38) ?_
        refine x_sub (ls2 := [(0, .ref v0), (1, .int v1), (2, .int s.1), (3, .int r17.1)]) [1, 2, 3, 0] rfl ?_
        exact s_X11_lookAhead_b143 r35.2 v0 v1 s.1 r17.1 (kR h26 (kR h26 v0 10) 1) s.1 r39 n38 H
theorem sl_X11_lookAhead_l59 {Z : Nat → (Nat → Nat) → State → Prop} (v0 : Nat) (v1 : Int32) (n : Nat) (s : Int32 × KH) (r : KH) (hn : (s.2).1 = 243) (H : kloop (f_X11_lookAhead_l59 v0 v1) n s = some r) : KX Z RX11 cX11_lookAhead 4 false 7 (E_X11_lookAhead_l59 v0 v1 r) 59 [(0, .ref v0), (1, .int v1), (2, .int s.1)] [] s.2 :=
  k_loop (ls := (fun (s : Int32 × KH) => ([(0, .ref v0), (1, .int v1), (2, .int s.1)] : List (Nat × Value)))) (hp := (fun (s : Int32 × KH) => (s.2 : KH))) (G := E_X11_lookAhead_l59 v0 v1) (fun s t hn H => s_X11_lookAhead_l59 v0 v1 s t hn H) n s r hn H
def f_X11_lookAhead_b51 (h : KH) (v0 : Nat) (v1 : Int32) : Option (KH) :=
  if kkind v0 = 11 then if (kR h v0 10) < 999999 then if kkind (kR h v0 10) = 0 then kl (kI h (kR h v0 10) 3) fun x4 =>
  kb (kloop (f_X11_lookAhead_l59 v0 v1) KF (x4, h)) fun e6 =>
  some e6 else none else none else none
set_option maxHeartbeats 4000000 in
set_option maxRecDepth 100000 in
theorem s_X11_lookAhead_b51 {Z : Nat → (Nat → Nat) → State → Prop} (h : KH) (v0 : Nat) (v1 : Int32) {t : KH} (hn : h.1 = 243) (H : f_X11_lookAhead_b51 h v0 v1 = some t) : KX Z RX11 cX11_lookAhead 4 false 7 (KRv cX11_lookAhead t) 51 [(0, .ref v0), (1, .int v1)] [] h := by
  unfold f_X11_lookAhead_b51 at H
  refine x_aload_n (q := 52) dX11_lookAhead_51 rfl rfl ?_
  replace H := kif H; obtain ⟨g1, H⟩ := H
  replace H := kif H; obtain ⟨g2, H⟩ := H
  refine x_getR (q := 55) dX11_lookAhead_52 rfl kl_RX11_84 rfl (k243 g1 (by decide) hn) g2 ?_
  replace H := kif H; obtain ⟨g3, H⟩ := H
  refine x_getI (q := 58) dX11_lookAhead_55 rfl kl_RX11_139 (Or.inl rfl) (k243 g3 (by decide) hn) ?_
  replace H := kle H; obtain ⟨x4, q5, H⟩ := H
  refine x_nmI q5 ?_
  refine x_istore_n (q := 59) (i := 2) (ls2 := [(2, .int x4), (0, .ref v0), (1, .int v1)]) dX11_lookAhead_58 rfl rfl (by decide) rfl ?_
  refine x_sub (ls2 := [(0, .ref v0), (1, .int v1), (2, .int x4)]) [1, 2, 0] rfl ?_
  replace H := kbe H; obtain ⟨e6, c7, H⟩ := H
  refine x_app (sl_X11_lookAhead_l59 v0 v1 KF (x4, h) e6 hn c7) fun pc2 ls2 st2 h2 hg m8 => ?_
  obtain ⟨rfl, rfl, rfl, rfl⟩ := hg
  cases H
  exact x_end ⟨dX11_lookAhead_180, rfl, rfl⟩
def f_X11_lookAhead (h : KH) (v0 : Nat) (v1 : Int32) : Option (KH) :=
  if kkind v0 = 11 then if (kR h v0 10) < 999999 then if kkind (kR h v0 10) = 0 then if (kI h (kR h v0 10) 3) = 0 then
  if (kR h (kR h v0 10) 2) < 999999 then if (kR h v0 7) < 999999 then if kkind (kR h (kR h v0 10) 2) = 8 then kb (f_X8_copyFrom h (kR h (kR h v0 10) 2) (kR h v0 7)) fun r8 =>
  if (kR r8 v0 10) < 999999 then if kkind (kR r8 v0 10) = 0 then if (kR r8 (kR r8 v0 10) 2) < 999999 then if (kR r8 v0 7) < 999999 then if kkind (kR r8 v0 7) = 8 then kb (f_X8_heardBits r8 (kR r8 v0 7)) fun r17 =>
  if kkind (kR r8 (kR r8 v0 10) 2) = 8 then kb (f_X8_hearOnceMore r8 (kR r8 (kR r8 v0 10) 2) r17) fun r21 =>
  if (kR r21 v0 10) < 999999 then if kkind (kR r21 v0 10) = 0 then if (kR r21 (kR r21 v0 10) 2) < 999999 then if kkind (kR r21 (kR r21 v0 10) 2) = 8 then kb (f_X8_forgetCase r21 (kR r21 (kR r21 v0 10) 2)) fun r29 =>
  f_X11_lookAhead_b51 r29 v0 v1 else none else none else none else none else none else none else none else none else none else none else none else none else none
  else
  f_X11_lookAhead_b51 h v0 v1 else none else none else none
set_option maxHeartbeats 4000000 in
set_option maxRecDepth 100000 in
theorem s0_X11_lookAhead {Z : Nat → (Nat → Nat) → State → Prop} (h : KH) (v0 : Nat) (v1 : Int32) {t : KH} (hn : h.1 = 243) (H : f_X11_lookAhead h v0 v1 = some t) : KX Z RX11 cX11_lookAhead 4 false 7 (KRv cX11_lookAhead t) 0 [(0, .ref v0), (1, .int v1)] [] h := by
  unfold f_X11_lookAhead at H
  refine x_aload_n (q := 1) dX11_lookAhead_0 rfl rfl ?_
  replace H := kif H; obtain ⟨g1, H⟩ := H
  replace H := kif H; obtain ⟨g2, H⟩ := H
  refine x_getR (q := 4) dX11_lookAhead_1 rfl kl_RX11_84 rfl (k243 g1 (by decide) hn) g2 ?_
  replace H := kif H; obtain ⟨g3, H⟩ := H
  refine x_getI (q := 7) dX11_lookAhead_4 rfl kl_RX11_139 (Or.inl rfl) (k243 g3 (by decide) hn) ?_
  replace H := kite H; rcases H with ⟨g4, H⟩ | ⟨g4, H⟩
  · refine x_if_ne_f (q := 10) dX11_lookAhead_7 (t := 51) (by decide) rfl g4 ?_
    refine x_aload_n (q := 11) dX11_lookAhead_10 rfl rfl ?_
    refine x_getR (q := 14) dX11_lookAhead_11 rfl kl_RX11_84 rfl (k243 g1 (by decide) hn) g2 ?_
    replace H := kif H; obtain ⟨g5, H⟩ := H
    refine x_getR (q := 17) dX11_lookAhead_14 rfl kl_RX11_376 rfl (k243 g3 (by decide) hn) g5 ?_
    refine x_aload_n (q := 18) dX11_lookAhead_17 rfl rfl ?_
    replace H := kif H; obtain ⟨g6, H⟩ := H
    refine x_getR (q := 21) dX11_lookAhead_18 rfl kl_RX11_67 rfl (k243 g1 (by decide) hn) g6 ?_
    replace H := kif H; obtain ⟨g7, H⟩ := H
    replace H := kbe H; obtain ⟨r8, c9, H⟩ := H
    have m10 := s_X8_copyFrom (Z := Z) h (kR h (kR h v0 10) 2) (kR h v0 7) hn c9
    refine x_callV (q := 24) (as := [.ref (kR h v0 7)]) (rest := []) dX11_lookAhead_21 rfl kc_RX11_353 kh_X8_copyFrom (by decide) (Nat.le_of_ble_eq_true rfl) m10 (ci := 8) (by exact ⟨rfl, by decide⟩) (k243 g7 (by decide) hn) ?_
    have n11 : (r8).1 = 243 := m10.1.full hn
    refine x_aload_n (q := 25) dX11_lookAhead_24 rfl rfl ?_
    replace H := kif H; obtain ⟨g12, H⟩ := H
    refine x_getR (q := 28) dX11_lookAhead_25 rfl kl_RX11_84 rfl (k243 g1 (by decide) n11) g12 ?_
    replace H := kif H; obtain ⟨g13, H⟩ := H
    replace H := kif H; obtain ⟨g14, H⟩ := H
    refine x_getR (q := 31) dX11_lookAhead_28 rfl kl_RX11_376 rfl (k243 g13 (by decide) n11) g14 ?_
    refine x_aload_n (q := 32) dX11_lookAhead_31 rfl rfl ?_
    replace H := kif H; obtain ⟨g15, H⟩ := H
    refine x_getR (q := 35) dX11_lookAhead_32 rfl kl_RX11_67 rfl (k243 g1 (by decide) n11) g15 ?_
    replace H := kif H; obtain ⟨g16, H⟩ := H
    replace H := kbe H; obtain ⟨r17, c18, H⟩ := H
    have m19 := s_X8_heardBits (Z := Z) r8 (kR r8 v0 7) n11 c18
    refine x_callV (q := 38) (as := []) (rest := [.ref (kR r8 (kR r8 v0 10) 2)]) dX11_lookAhead_35 rfl kc_RX11_161 kh_X8_heardBits (by decide) (Nat.le_of_ble_eq_true rfl) m19 (ci := 8) (by exact ⟨rfl, by decide⟩) (k243 g16 (by decide) n11) ?_
    replace H := kif H; obtain ⟨g20, H⟩ := H
    replace H := kbe H; obtain ⟨r21, c22, H⟩ := H
    have m23 := s_X8_hearOnceMore (Z := Z) r8 (kR r8 (kR r8 v0 10) 2) r17 n11 c22
    refine x_callV (q := 41) (as := [.int r17]) (rest := []) dX11_lookAhead_38 rfl kc_RX11_360 kh_X8_hearOnceMore (by decide) (Nat.le_of_ble_eq_true rfl) m23 (ci := 8) (by exact ⟨rfl, by decide⟩) (k243 g20 (by decide) n11) ?_
    have n24 : (r21).1 = 243 := m23.1.full n11
    refine x_aload_n (q := 42) dX11_lookAhead_41 rfl rfl ?_
    replace H := kif H; obtain ⟨g25, H⟩ := H
    refine x_getR (q := 45) dX11_lookAhead_42 rfl kl_RX11_84 rfl (k243 g1 (by decide) n24) g25 ?_
    replace H := kif H; obtain ⟨g26, H⟩ := H
    replace H := kif H; obtain ⟨g27, H⟩ := H
    refine x_getR (q := 48) dX11_lookAhead_45 rfl kl_RX11_376 rfl (k243 g26 (by decide) n24) g27 ?_
    replace H := kif H; obtain ⟨g28, H⟩ := H
    replace H := kbe H; obtain ⟨r29, c30, H⟩ := H
    have m31 := s_X8_forgetCase (Z := Z) r21 (kR r21 (kR r21 v0 10) 2) n24 c30
    refine x_callV (q := 51) (as := []) (rest := []) dX11_lookAhead_48 rfl kc_RX11_303 kh_X8_forgetCase (by decide) (Nat.le_of_ble_eq_true rfl) m31 (ci := 8) (by exact ⟨rfl, by decide⟩) (k243 g28 (by decide) n24) ?_
    have n32 : (r29).1 = 243 := m31.1.full n24
    refine x_sub (ls2 := [(0, .ref v0), (1, .int v1)]) [0, 1] rfl ?_
    exact s_X11_lookAhead_b51 r29 v0 v1 n32 H
  · refine x_if_ne_t dX11_lookAhead_7 (q := 51) (by decide) g4 ?_
    refine x_sub (ls2 := [(0, .ref v0), (1, .int v1)]) [0, 1] rfl ?_
    exact s_X11_lookAhead_b51 h v0 v1 hn H
theorem s_X11_lookAhead {Z : Nat → (Nat → Nat) → State → Prop} (h : KH) (v0 : Nat) (v1 : Int32) {t : KH} (hn : h.1 = 243) (H : f_X11_lookAhead h v0 v1 = some t) : KM Z yX11_lookAhead cX11_lookAhead 4 none 7 [.ref v0, .int v1] h none t :=
  kx_v (own := RX11) (ini := false) (by decide +kernel) (by decide +kernel) rfl (Nat.le_of_ble_eq_true rfl) (s0_X11_lookAhead h v0 v1 hn H)
