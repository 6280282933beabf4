-- methods as functions, and that the machine does as they say (by wip/whole/gen_all.py): X12_takesSign, X12_asksSign, X12_number, X12_isOwnHere, X12_name, X12_isAllowed, X12_isFull, X12_newName, X12_adds, X12_kindTold, X12_testTold, X12_markTold, X12_qOpens, X12_qCode
theorem dX12_takesSign_0 : decode cX12_takesSign 0 = .ok (.aload_n 0, 1) := by decide +kernel
theorem dX12_takesSign_1 : decode cX12_takesSign 1 = .ok (.getfield 230, 3) := by decide +kernel
theorem dX12_takesSign_4 : decode cX12_takesSign 4 = .ok (.ifCond .ne 11, 3) := by decide +kernel
theorem dX12_takesSign_7 : decode cX12_takesSign 7 = .ok (.aload_n 0, 1) := by decide +kernel
theorem dX12_takesSign_8 : decode cX12_takesSign 8 = .ok (.invokevirtual 242, 3) := by decide +kernel
theorem dX12_takesSign_11 : decode cX12_takesSign 11 = .ok (.iload_n 1, 1) := by decide +kernel
theorem dX12_takesSign_12 : decode cX12_takesSign 12 = .ok (.if_icmp .eq 5, 3) := by decide +kernel
theorem dX12_takesSign_15 : decode cX12_takesSign 15 = .ok (.iconst 0, 1) := by decide +kernel
theorem dX12_takesSign_16 : decode cX12_takesSign 16 = .ok (.ireturn, 1) := by decide +kernel
theorem dX12_takesSign_17 : decode cX12_takesSign 17 = .ok (.aload_n 0, 1) := by decide +kernel
theorem dX12_takesSign_18 : decode cX12_takesSign 18 = .ok (.dup, 1) := by decide +kernel
theorem dX12_takesSign_19 : decode cX12_takesSign 19 = .ok (.getfield 236, 3) := by decide +kernel
theorem dX12_takesSign_22 : decode cX12_takesSign 22 = .ok (.iconst 1, 1) := by decide +kernel
theorem dX12_takesSign_23 : decode cX12_takesSign 23 = .ok (.iadd, 1) := by decide +kernel
theorem dX12_takesSign_24 : decode cX12_takesSign 24 = .ok (.putfield 236, 3) := by decide +kernel
theorem dX12_takesSign_27 : decode cX12_takesSign 27 = .ok (.iconst 1, 1) := by decide +kernel
theorem dX12_takesSign_28 : decode cX12_takesSign 28 = .ok (.ireturn, 1) := by decide +kernel
def f_X12_takesSign (h : KH) (v0 : Nat) (v1 : Int32) : Option (Int32 × KH) :=
  if kkind v0 = 12 then if (kI h v0 5) = 0 then
  kb (f_X12_look0 h v0) fun r3 =>
  if r3.1 = v1 then
  kl (ksI r3.2 v0 2 ((kI r3.2 v0 2) + (1 : Int32))) fun h8 =>
  some ((1 : Int32), h8)
  else
  some ((0 : Int32), r3.2)
  else
  some ((0 : Int32), h) else none
set_option maxHeartbeats 4000000 in
set_option maxRecDepth 100000 in
theorem s0_X12_takesSign {Z : Nat → (Nat → Nat) → State → Prop} (h : KH) (v0 : Nat) (v1 : Int32) {t : Int32 × KH} (hn : h.1 = 243) (H : f_X12_takesSign h v0 v1 = some t) : KX Z RX12 cX12_takesSign 2 false 2 (KRz cX12_takesSign t.1 t.2) 0 [(0, .ref v0), (1, .int v1)] [] h := by
  unfold f_X12_takesSign at H
  refine x_aload_n (q := 1) dX12_takesSign_0 rfl rfl ?_
  replace H := kif H; obtain ⟨g1, H⟩ := H
  refine x_getI (q := 4) dX12_takesSign_1 rfl kl_RX12_230 (Or.inl rfl) (k243 g1 (by decide) hn) ?_
  replace H := kite H; rcases H with ⟨g2, H⟩ | ⟨g2, H⟩
  · refine x_if_ne_f (q := 7) dX12_takesSign_4 (t := 15) (by decide) rfl g2 ?_
    refine x_aload_n (q := 8) dX12_takesSign_7 rfl rfl ?_
    replace H := kbe H; obtain ⟨r3, c4, H⟩ := H
    have m5 := s_X12_look0 (Z := Z) h v0 hn c4
    refine x_callV (q := 11) (as := []) (rest := []) dX12_takesSign_8 rfl kc_RX12_242 kh_X12_look0 (by decide) (Nat.le_of_ble_eq_true rfl) m5 (ci := 12) (by exact ⟨rfl, by decide⟩) (k243 g1 (by decide) hn) ?_
    have n6 : (r3.2).1 = 243 := m5.1.full hn
    refine x_iload_n (q := 12) dX12_takesSign_11 rfl rfl ?_
    replace H := kite H; rcases H with ⟨g7, H⟩ | ⟨g7, H⟩
    · refine x_icmp_eq_t dX12_takesSign_12 (q := 17) (by decide) g7 ?_
      refine x_aload_n (q := 18) dX12_takesSign_17 rfl rfl ?_
      refine x_dup (q := 19) dX12_takesSign_18 rfl rfl ?_
      refine x_getI (q := 22) dX12_takesSign_19 rfl kl_RX12_236 (Or.inl rfl) (k243 g1 (by decide) n6) ?_
      refine x_iconst (q := 23) (v := (1 : Int32)) dX12_takesSign_22 rfl (by decide) ?_
      refine x_iadd (q := 24) dX12_takesSign_23 rfl ?_
      replace H := kle H; obtain ⟨h8, q9, H⟩ := H
      refine x_putI (q := 27) dX12_takesSign_24 rfl kl_RX12_236 (Or.inl rfl) rfl (k243 g1 (by decide) n6) ?_
      refine x_nmH q9 ?_
      have n10 : h8.1 = 243 := by rw [q9]; exact n6
      refine x_iconst (q := 28) (v := (1 : Int32)) dX12_takesSign_27 rfl (by decide) ?_
      cases H
      exact x_end ⟨(Or.inr rfl), dX12_takesSign_28, rfl, rfl⟩
    · refine x_icmp_eq_f (q := 15) dX12_takesSign_12 (t := 17) (by decide) rfl g7 ?_
      refine x_iconst (q := 16) (v := (0 : Int32)) dX12_takesSign_15 rfl (by decide) ?_
      cases H
      exact x_end ⟨(Or.inl rfl), dX12_takesSign_16, rfl, rfl⟩
  · refine x_if_ne_t dX12_takesSign_4 (q := 15) (by decide) g2 ?_
    refine x_iconst (q := 16) (v := (0 : Int32)) dX12_takesSign_15 rfl (by decide) ?_
    cases H
    exact x_end ⟨(Or.inl rfl), dX12_takesSign_16, rfl, rfl⟩
theorem s_X12_takesSign {Z : Nat → (Nat → Nat) → State → Prop} (h : KH) (v0 : Nat) (v1 : Int32) {t : Int32 × KH} (hn : h.1 = 243) (H : f_X12_takesSign h v0 v1 = some t) : KM Z yX12_takesSign cX12_takesSign 2 (some .boolean) 2 [.ref v0, .int v1] h (some (.int t.1)) t.2 :=
  kx_z (own := RX12) (ini := false) (by decide +kernel) (by decide +kernel) rfl (Nat.le_of_ble_eq_true rfl) (s0_X12_takesSign h v0 v1 hn H)
theorem dX12_asksSign_0 : decode cX12_asksSign 0 = .ok (.aload_n 0, 1) := by decide +kernel
theorem dX12_asksSign_1 : decode cX12_asksSign 1 = .ok (.getfield 230, 3) := by decide +kernel
theorem dX12_asksSign_4 : decode cX12_asksSign 4 = .ok (.ifCond .ne 20, 3) := by decide +kernel
theorem dX12_asksSign_7 : decode cX12_asksSign 7 = .ok (.aload_n 0, 1) := by decide +kernel
theorem dX12_asksSign_8 : decode cX12_asksSign 8 = .ok (.iload_n 1, 1) := by decide +kernel
theorem dX12_asksSign_9 : decode cX12_asksSign 9 = .ok (.invokevirtual 264, 3) := by decide +kernel
theorem dX12_asksSign_12 : decode cX12_asksSign 12 = .ok (.ifCond .ne 12, 3) := by decide +kernel
theorem dX12_asksSign_15 : decode cX12_asksSign 15 = .ok (.aload_n 0, 1) := by decide +kernel
theorem dX12_asksSign_16 : decode cX12_asksSign 16 = .ok (.iconst 1, 1) := by decide +kernel
theorem dX12_asksSign_17 : decode cX12_asksSign 17 = .ok (.aload_n 0, 1) := by decide +kernel
theorem dX12_asksSign_18 : decode cX12_asksSign 18 = .ok (.getfield 236, 3) := by decide +kernel
theorem dX12_asksSign_21 : decode cX12_asksSign 21 = .ok (.invokevirtual 260, 3) := by decide +kernel
theorem dX12_asksSign_24 : decode cX12_asksSign 24 = .ok (.return_, 1) := by decide +kernel
theorem kc_RX12_264 : Cond.methodLink RX12 264 yX12_takesSign ∈ ktG ∧ (Cond.instanceMethod yX12_takesSign ∈ ktG ∧ Cond.selects yX12_takesSign.cls yX12_takesSign yX12_takesSign ∈ ktG) ∧ Cond.initialized yX12_takesSign.cls ∈ ktG ∧ Cond.code yX12_takesSign cX12_takesSign 2 (some .boolean) ∈ ktG := ⟨(kwm 1617 (by decide +kernel) (by decide +kernel)), ⟨(kwm 1619 (by decide +kernel) (by decide +kernel)), (kwm 62 (by decide +kernel) (by decide +kernel))⟩, (kwm 139 (by decide +kernel) (by decide +kernel)), kwm 1620 (by decide +kernel) (by decide +kernel)⟩
theorem kh_X12_takesSign : yX12_takesSign.cls ≠ "java/lang/invoke/MethodHandle" ∧ yX12_takesSign.cls ≠ "java/lang/invoke/VarHandle" ∧ (parseMethodDescriptor yX12_takesSign.desc).map (fun d => d.parameters.length) = some 1 := by decide +kernel
def f_X12_asksSign (h : KH) (v0 : Nat) (v1 : Int32) : Option (KH) :=
  if kkind v0 = 12 then if (kI h v0 5) = 0 then
  kb (f_X12_takesSign h v0 v1) fun r3 =>
  if r3.1 = 0 then
  kb (f_X12_fail r3.2 v0 (1 : Int32) (kI r3.2 v0 2)) fun r8 =>
  some r8
  else
  some r3.2
  else
  some h else none
set_option maxHeartbeats 4000000 in
set_option maxRecDepth 100000 in
theorem s0_X12_asksSign {Z : Nat → (Nat → Nat) → State → Prop} (h : KH) (v0 : Nat) (v1 : Int32) {t : KH} (hn : h.1 = 243) (H : f_X12_asksSign h v0 v1 = some t) : KX Z RX12 cX12_asksSign 2 false 3 (KRv cX12_asksSign t) 0 [(0, .ref v0), (1, .int v1)] [] h := by
  unfold f_X12_asksSign at H
  refine x_aload_n (q := 1) dX12_asksSign_0 rfl rfl ?_
  replace H := kif H; obtain ⟨g1, H⟩ := H
  refine x_getI (q := 4) dX12_asksSign_1 rfl kl_RX12_230 (Or.inl rfl) (k243 g1 (by decide) hn) ?_
  replace H := kite H; rcases H with ⟨g2, H⟩ | ⟨g2, H⟩
  · refine x_if_ne_f (q := 7) dX12_asksSign_4 (t := 24) (by decide) rfl g2 ?_
    refine x_aload_n (q := 8) dX12_asksSign_7 rfl rfl ?_
    refine x_iload_n (q := 9) dX12_asksSign_8 rfl rfl ?_
    replace H := kbe H; obtain ⟨r3, c4, H⟩ := H
    have m5 := s_X12_takesSign (Z := Z) h v0 v1 hn c4
    refine x_callV (q := 12) (as := [.int v1]) (rest := []) dX12_asksSign_9 rfl kc_RX12_264 kh_X12_takesSign (by decide) (Nat.le_of_ble_eq_true rfl) m5 (ci := 12) (by exact ⟨rfl, by decide⟩) (k243 g1 (by decide) hn) ?_
    have n6 : (r3.2).1 = 243 := m5.1.full hn
    replace H := kite H; rcases H with ⟨g7, H⟩ | ⟨g7, H⟩
    · refine x_if_ne_f (q := 15) dX12_asksSign_12 (t := 24) (by decide) rfl g7 ?_
      refine x_aload_n (q := 16) dX12_asksSign_15 rfl rfl ?_
      refine x_iconst (q := 17) (v := (1 : Int32)) dX12_asksSign_16 rfl (by decide) ?_
      refine x_aload_n (q := 18) dX12_asksSign_17 rfl rfl ?_
      refine x_getI (q := 21) dX12_asksSign_18 rfl kl_RX12_236 (Or.inl rfl) (k243 g1 (by decide) n6) ?_
      replace H := kbe H; obtain ⟨r8, c9, H⟩ := H
      have m10 := s_X12_fail (Z := Z) r3.2 v0 (1 : Int32) (kI r3.2 v0 2) n6 c9
      refine x_callV (q := 24) (as := [.int (1 : Int32), .int (kI r3.2 v0 2)]) (rest := []) dX12_asksSign_21 rfl kc_RX12_260 kh_X12_fail (by decide) (Nat.le_of_ble_eq_true rfl) m10 (ci := 12) (by exact ⟨rfl, by decide⟩) (k243 g1 (by decide) n6) ?_
      have n11 : (r8).1 = 243 := m10.1.full n6
      cases H
      exact x_end ⟨dX12_asksSign_24, rfl, rfl⟩
    · refine x_if_ne_t dX12_asksSign_12 (q := 24) (by decide) g7 ?_
      cases H
      exact x_end ⟨dX12_asksSign_24, rfl, rfl⟩
  · refine x_if_ne_t dX12_asksSign_4 (q := 24) (by decide) g2 ?_
    cases H
    exact x_end ⟨dX12_asksSign_24, rfl, rfl⟩
theorem s_X12_asksSign {Z : Nat → (Nat → Nat) → State → Prop} (h : KH) (v0 : Nat) (v1 : Int32) {t : KH} (hn : h.1 = 243) (H : f_X12_asksSign h v0 v1 = some t) : KM Z yX12_asksSign cX12_asksSign 2 none 3 [.ref v0, .int v1] h none t :=
  kx_v (own := RX12) (ini := false) (by decide +kernel) (by decide +kernel) rfl (Nat.le_of_ble_eq_true rfl) (s0_X12_asksSign h v0 v1 hn H)
theorem dX12_number_0 : decode cX12_number 0 = .ok (.aload_n 0, 1) := by decide +kernel
theorem dX12_number_1 : decode cX12_number 1 = .ok (.getfield 230, 3) := by decide +kernel
theorem dX12_number_4 : decode cX12_number 4 = .ok (.ifCond .eq 5, 3) := by decide +kernel
theorem dX12_number_7 : decode cX12_number 7 = .ok (.iconst 0, 1) := by decide +kernel
theorem dX12_number_8 : decode cX12_number 8 = .ok (.ireturn, 1) := by decide +kernel
theorem dX12_number_9 : decode cX12_number 9 = .ok (.aload_n 0, 1) := by decide +kernel
theorem dX12_number_10 : decode cX12_number 10 = .ok (.invokevirtual 242, 3) := by decide +kernel
theorem dX12_number_13 : decode cX12_number 13 = .ok (.invokestatic 267, 3) := by decide +kernel
theorem dX12_number_16 : decode cX12_number 16 = .ok (.ifCond .eq 14, 3) := by decide +kernel
theorem dX12_number_19 : decode cX12_number 19 = .ok (.aload_n 0, 1) := by decide +kernel
theorem dX12_number_20 : decode cX12_number 20 = .ok (.getfield 236, 3) := by decide +kernel
theorem dX12_number_23 : decode cX12_number 23 = .ok (.aload_n 0, 1) := by decide +kernel
theorem dX12_number_24 : decode cX12_number 24 = .ok (.getfield 250, 3) := by decide +kernel
theorem dX12_number_27 : decode cX12_number 27 = .ok (.if_icmp .ne 14, 3) := by decide +kernel
theorem dX12_number_30 : decode cX12_number 30 = .ok (.aload_n 0, 1) := by decide +kernel
theorem dX12_number_31 : decode cX12_number 31 = .ok (.iconst 1, 1) := by decide +kernel
theorem dX12_number_32 : decode cX12_number 32 = .ok (.aload_n 0, 1) := by decide +kernel
theorem dX12_number_33 : decode cX12_number 33 = .ok (.getfield 236, 3) := by decide +kernel
theorem dX12_number_36 : decode cX12_number 36 = .ok (.invokevirtual 260, 3) := by decide +kernel
theorem dX12_number_39 : decode cX12_number 39 = .ok (.iconst 0, 1) := by decide +kernel
theorem dX12_number_40 : decode cX12_number 40 = .ok (.ireturn, 1) := by decide +kernel
theorem dX12_number_41 : decode cX12_number 41 = .ok (.aload_n 0, 1) := by decide +kernel
theorem dX12_number_42 : decode cX12_number 42 = .ok (.getfield 236, 3) := by decide +kernel
theorem dX12_number_45 : decode cX12_number 45 = .ok (.istore_n 3, 1) := by decide +kernel
theorem dX12_number_46 : decode cX12_number 46 = .ok (.iconst 0, 1) := by decide +kernel
theorem dX12_number_47 : decode cX12_number 47 = .ok (.istore 4, 2) := by decide +kernel
theorem dX12_number_49 : decode cX12_number 49 = .ok (.aload_n 0, 1) := by decide +kernel
theorem dX12_number_50 : decode cX12_number 50 = .ok (.getfield 236, 3) := by decide +kernel
theorem dX12_number_53 : decode cX12_number 53 = .ok (.aload_n 0, 1) := by decide +kernel
theorem dX12_number_54 : decode cX12_number 54 = .ok (.getfield 239, 3) := by decide +kernel
theorem dX12_number_57 : decode cX12_number 57 = .ok (.if_icmp .ge 72, 3) := by decide +kernel
theorem dX12_number_60 : decode cX12_number 60 = .ok (.aload_n 0, 1) := by decide +kernel
theorem dX12_number_61 : decode cX12_number 61 = .ok (.getfield 7, 3) := by decide +kernel
theorem dX12_number_64 : decode cX12_number 64 = .ok (.aload_n 0, 1) := by decide +kernel
theorem dX12_number_65 : decode cX12_number 65 = .ok (.getfield 236, 3) := by decide +kernel
theorem dX12_number_68 : decode cX12_number 68 = .ok (.iaload, 1) := by decide +kernel
theorem dX12_number_69 : decode cX12_number 69 = .ok (.invokestatic 267, 3) := by decide +kernel
theorem dX12_number_72 : decode cX12_number 72 = .ok (.ifCond .eq 57, 3) := by decide +kernel
theorem dX12_number_75 : decode cX12_number 75 = .ok (.aload_n 0, 1) := by decide +kernel
theorem dX12_number_76 : decode cX12_number 76 = .ok (.getfield 236, 3) := by decide +kernel
theorem dX12_number_79 : decode cX12_number 79 = .ok (.iload_n 3, 1) := by decide +kernel
theorem dX12_number_80 : decode cX12_number 80 = .ok (.isub, 1) := by decide +kernel
theorem dX12_number_81 : decode cX12_number 81 = .ok (.iconst 4, 1) := by decide +kernel
theorem dX12_number_82 : decode cX12_number 82 = .ok (.if_icmp .ne 14, 3) := by decide +kernel
theorem dX12_number_85 : decode cX12_number 85 = .ok (.aload_n 0, 1) := by decide +kernel
theorem dX12_number_86 : decode cX12_number 86 = .ok (.iconst 1, 1) := by decide +kernel
theorem dX12_number_87 : decode cX12_number 87 = .ok (.aload_n 0, 1) := by decide +kernel
theorem dX12_number_88 : decode cX12_number 88 = .ok (.getfield 236, 3) := by decide +kernel
theorem dX12_number_91 : decode cX12_number 91 = .ok (.invokevirtual 260, 3) := by decide +kernel
theorem dX12_number_94 : decode cX12_number 94 = .ok (.iconst 0, 1) := by decide +kernel
theorem dX12_number_95 : decode cX12_number 95 = .ok (.ireturn, 1) := by decide +kernel
theorem dX12_number_96 : decode cX12_number 96 = .ok (.bipush 10, 2) := by decide +kernel
theorem dX12_number_98 : decode cX12_number 98 = .ok (.iload 4, 2) := by decide +kernel
theorem dX12_number_100 : decode cX12_number 100 = .ok (.imul, 1) := by decide +kernel
theorem dX12_number_101 : decode cX12_number 101 = .ok (.aload_n 0, 1) := by decide +kernel
theorem dX12_number_102 : decode cX12_number 102 = .ok (.getfield 7, 3) := by decide +kernel
theorem dX12_number_105 : decode cX12_number 105 = .ok (.aload_n 0, 1) := by decide +kernel
theorem dX12_number_106 : decode cX12_number 106 = .ok (.getfield 236, 3) := by decide +kernel
theorem dX12_number_109 : decode cX12_number 109 = .ok (.iaload, 1) := by decide +kernel
theorem dX12_number_110 : decode cX12_number 110 = .ok (.iadd, 1) := by decide +kernel
theorem dX12_number_111 : decode cX12_number 111 = .ok (.bipush 48, 2) := by decide +kernel
theorem dX12_number_113 : decode cX12_number 113 = .ok (.isub, 1) := by decide +kernel
theorem dX12_number_114 : decode cX12_number 114 = .ok (.istore 4, 2) := by decide +kernel
theorem dX12_number_116 : decode cX12_number 116 = .ok (.aload_n 0, 1) := by decide +kernel
theorem dX12_number_117 : decode cX12_number 117 = .ok (.dup, 1) := by decide +kernel
theorem dX12_number_118 : decode cX12_number 118 = .ok (.getfield 236, 3) := by decide +kernel
theorem dX12_number_121 : decode cX12_number 121 = .ok (.iconst 1, 1) := by decide +kernel
theorem dX12_number_122 : decode cX12_number 122 = .ok (.iadd, 1) := by decide +kernel
theorem dX12_number_123 : decode cX12_number 123 = .ok (.putfield 236, 3) := by decide +kernel
theorem dX12_number_126 : decode cX12_number 126 = .ok (.goto (-77), 3) := by decide +kernel
theorem dX12_number_129 : decode cX12_number 129 = .ok (.aload_n 0, 1) := by decide +kernel
theorem dX12_number_130 : decode cX12_number 130 = .ok (.aload_n 0, 1) := by decide +kernel
theorem dX12_number_131 : decode cX12_number 131 = .ok (.getfield 236, 3) := by decide +kernel
theorem dX12_number_134 : decode cX12_number 134 = .ok (.putfield 250, 3) := by decide +kernel
theorem dX12_number_137 : decode cX12_number 137 = .ok (.iload 4, 2) := by decide +kernel
theorem dX12_number_139 : decode cX12_number 139 = .ok (.i2l, 1) := by decide +kernel
theorem dX12_number_140 : decode cX12_number 140 = .ok (.iload_n 1, 1) := by decide +kernel
theorem dX12_number_141 : decode cX12_number 141 = .ok (.i2l, 1) := by decide +kernel
theorem dX12_number_142 : decode cX12_number 142 = .ok (.iload_n 2, 1) := by decide +kernel
theorem dX12_number_143 : decode cX12_number 143 = .ok (.i2l, 1) := by decide +kernel
theorem dX12_number_144 : decode cX12_number 144 = .ok (.invokestatic 270, 3) := by decide +kernel
theorem dX12_number_147 : decode cX12_number 147 = .ok (.ifCond .ne 9, 3) := by decide +kernel
theorem dX12_number_150 : decode cX12_number 150 = .ok (.aload_n 0, 1) := by decide +kernel
theorem dX12_number_151 : decode cX12_number 151 = .ok (.iconst 2, 1) := by decide +kernel
theorem dX12_number_152 : decode cX12_number 152 = .ok (.iload_n 3, 1) := by decide +kernel
theorem dX12_number_153 : decode cX12_number 153 = .ok (.invokevirtual 260, 3) := by decide +kernel
theorem dX12_number_156 : decode cX12_number 156 = .ok (.iload 4, 2) := by decide +kernel
theorem dX12_number_158 : decode cX12_number 158 = .ok (.ireturn, 1) := by decide +kernel
theorem kc_RX12_267 : Cond.methodLink RX12 267 yX12_isDigit ∈ ktG ∧ Cond.static yX12_isDigit ∈ ktG ∧ Cond.initialized yX12_isDigit.cls ∈ ktG ∧ Cond.code yX12_isDigit cX12_isDigit 1 (some .boolean) ∈ ktG := ⟨(kwm 1555 (by decide +kernel) (by decide +kernel)), (kwm 1556 (by decide +kernel) (by decide +kernel)), (kwm 139 (by decide +kernel) (by decide +kernel)), kwm 1557 (by decide +kernel) (by decide +kernel)⟩
theorem kh_X12_isDigit : yX12_isDigit.cls ≠ "java/lang/invoke/MethodHandle" ∧ yX12_isDigit.cls ≠ "java/lang/invoke/VarHandle" ∧ (parseMethodDescriptor yX12_isDigit.desc).map (fun d => d.parameters.length) = some 1 := by decide +kernel
theorem kc_RX12_270 : Cond.methodLink RX12 270 yX12_isIn ∈ ktG ∧ Cond.static yX12_isIn ∈ ktG ∧ Cond.initialized yX12_isIn.cls ∈ ktG ∧ Cond.code yX12_isIn cX12_isIn 6 (some .boolean) ∈ ktG := ⟨(kwm 1558 (by decide +kernel) (by decide +kernel)), (kwm 1559 (by decide +kernel) (by decide +kernel)), (kwm 139 (by decide +kernel) (by decide +kernel)), kwm 1560 (by decide +kernel) (by decide +kernel)⟩
theorem kh_X12_isIn : yX12_isIn.cls ≠ "java/lang/invoke/MethodHandle" ∧ yX12_isIn.cls ≠ "java/lang/invoke/VarHandle" ∧ (parseMethodDescriptor yX12_isIn.desc).map (fun d => d.parameters.length) = some 3 := by decide +kernel
def f_X12_number_b30 (h : KH) (v0 : Nat) : Option (Int32 × KH) :=
  if kkind v0 = 12 then kb (f_X12_fail h v0 (1 : Int32) (kI h v0 2)) fun r2 =>
  some ((0 : Int32), r2) else none
set_option maxHeartbeats 4000000 in
set_option maxRecDepth 100000 in
theorem s_X12_number_b30 {Z : Nat → (Nat → Nat) → State → Prop} (h : KH) (v0 : Nat) {t : Int32 × KH} (hn : h.1 = 243) (H : f_X12_number_b30 h v0 = some t) : KX Z RX12 cX12_number 5 false 2 (KRi cX12_number t.1 t.2) 30 [(0, .ref v0)] [] h := by
  unfold f_X12_number_b30 at H
  refine x_aload_n (q := 31) dX12_number_30 rfl rfl ?_
  refine x_iconst (q := 32) (v := (1 : Int32)) dX12_number_31 rfl (by decide) ?_
  refine x_aload_n (q := 33) dX12_number_32 rfl rfl ?_
  replace H := kif H; obtain ⟨g1, H⟩ := H
  refine x_getI (q := 36) dX12_number_33 rfl kl_RX12_236 (Or.inl rfl) (k243 g1 (by decide) hn) ?_
  replace H := kbe H; obtain ⟨r2, c3, H⟩ := H
  have m4 := s_X12_fail (Z := Z) h v0 (1 : Int32) (kI h v0 2) hn c3
  refine x_callV (q := 39) (as := [.int (1 : Int32), .int (kI h v0 2)]) (rest := []) dX12_number_36 rfl kc_RX12_260 kh_X12_fail (by decide) (Nat.le_of_ble_eq_true rfl) m4 (ci := 12) (by exact ⟨rfl, by decide⟩) (k243 g1 (by decide) hn) ?_
  have n5 : (r2).1 = 243 := m4.1.full hn
  refine x_iconst (q := 40) (v := (0 : Int32)) dX12_number_39 rfl (by decide) ?_
  cases H
  exact x_end ⟨dX12_number_40, rfl, rfl⟩
def E_X12_number_l49 (v0 : Nat) (v1 : Int32) (v2 : Int32) (v3 : Int32) : ((Int32 × KH) ⊕ (Int32 × KH)) → Nat → List (Nat × Value) → List Value → KH → Prop := Sum.elim (fun (e : Int32 × KH) pc ls st hh => pc = 129 ∧ ls = [(0, .ref v0), (1, .int v1), (2, .int v2), (3, .int v3), (4, .int e.1)] ∧ st = [] ∧ e.2 = hh) (fun o => (KRi cX12_number o.1 o.2))
def B_X12_number_l49 (v0 : Nat) (v1 : Int32) (v2 : Int32) (v3 : Int32) : ((Int32 × KH) ⊕ ((Int32 × KH) ⊕ (Int32 × KH))) → Nat → List (Nat × Value) → List Value → KH → Prop := Sum.elim (fun (s : Int32 × KH) pc ls st hh => pc = 49 ∧ ls = [(0, .ref v0), (1, .int v1), (2, .int v2), (3, .int v3), (4, .int s.1)] ∧ st = [] ∧ hh = s.2) (E_X12_number_l49 v0 v1 v2 v3)
def f_X12_number_l49 (v0 : Nat) (v1 : Int32) (v2 : Int32) (v3 : Int32) (s : Int32 × KH) : Option ((Int32 × KH) ⊕ ((Int32 × KH) ⊕ (Int32 × KH))) :=
  if kkind v0 = 12 then if (kI s.2 v0 3) ≤ (kI s.2 v0 2) then
  some (.inr (.inl (s.1, s.2)))
  else
  if (kR s.2 v0 0) < 999999 then if kkind (kR s.2 v0 0) = 20 then if ((kI s.2 v0 2) < 0 ∨ klen (kR s.2 v0 0) ≤ ((kI s.2 v0 2)).toNatClampNeg) then none else kb (f_X12_isDigit s.2 (kI s.2 (kR s.2 v0 0) (((kI s.2 v0 2)).toNatClampNeg))) fun r6 =>
  if r6 = 0 then
  some (.inr (.inl (s.1, s.2)))
  else
  if ((kI s.2 v0 2) - v3) = (4 : Int32) then
  kout2 (kb (f_X12_fail s.2 v0 (1 : Int32) (kI s.2 v0 2)) fun r16 =>
  some ((0 : Int32), r16))
  else
  kl ((((10 : Int32) * s.1) + (kI s.2 (kR s.2 v0 0) (((kI s.2 v0 2)).toNatClampNeg))) - (48 : Int32)) fun x11 =>
  kl (ksI s.2 v0 2 ((kI s.2 v0 2) + (1 : Int32))) fun h13 =>
  some (.inl (x11, h13)) else none else none else none
set_option maxHeartbeats 4000000 in
set_option maxRecDepth 100000 in
theorem s_X12_number_l49 {Z : Nat → (Nat → Nat) → State → Prop} (v0 : Nat) (v1 : Int32) (v2 : Int32) (v3 : Int32) (s : Int32 × KH) (t : (Int32 × KH) ⊕ ((Int32 × KH) ⊕ (Int32 × KH))) (hn : (s.2).1 = 243) (H : f_X12_number_l49 v0 v1 v2 v3 s = some t) : KX Z RX12 cX12_number 5 false 2 (B_X12_number_l49 v0 v1 v2 v3 t) 49 [(0, .ref v0), (1, .int v1), (2, .int v2), (3, .int v3), (4, .int s.1)] [] s.2 := by
  unfold f_X12_number_l49 at H
  refine x_aload_n (q := 50) dX12_number_49 rfl rfl ?_
  replace H := kif H; obtain ⟨g1, H⟩ := H
  refine x_getI (q := 53) dX12_number_50 rfl kl_RX12_236 (Or.inl rfl) (k243 g1 (by decide) hn) ?_
  refine x_aload_n (q := 54) dX12_number_53 rfl rfl ?_
  refine x_getI (q := 57) dX12_number_54 rfl kl_RX12_239 (Or.inl rfl) (k243 g1 (by decide) hn) ?_
  replace H := kite H; rcases H with ⟨g2, H⟩ | ⟨g2, H⟩
  · refine x_icmp_ge_t dX12_number_57 (q := 129) (by decide) g2 ?_
    cases H
    refine x_sub (ls2 := [(0, .ref v0), (1, .int v1), (2, .int v2), (3, .int v3), (4, .int s.1)]) [0, 1, 2, 3, 4] rfl ?_
    exact x_end (x_cfg rfl)
  · refine x_icmp_ge_f (q := 60) dX12_number_57 (t := 129) (by decide) rfl g2 ?_
    refine x_aload_n (q := 61) dX12_number_60 rfl rfl ?_
    replace H := kif H; obtain ⟨g3, H⟩ := H
    refine x_getR (q := 64) dX12_number_61 rfl kl_RX12_7 rfl (k243 g1 (by decide) hn) g3 ?_
    refine x_aload_n (q := 65) dX12_number_64 rfl rfl ?_
    refine x_getI (q := 68) dX12_number_65 rfl kl_RX12_236 (Or.inl rfl) (k243 g1 (by decide) hn) ?_
    replace H := kif H; obtain ⟨g4, H⟩ := H
    replace H := kifn H; obtain ⟨g5, H⟩ := H
    refine x_iald (q := 69) dX12_number_68 rfl (k243 g4 (by decide) hn) g5 ?_
    replace H := kbe H; obtain ⟨r6, c7, H⟩ := H
    have m8 := s_X12_isDigit (Z := Z) s.2 (kI s.2 (kR s.2 v0 0) (((kI s.2 v0 2)).toNatClampNeg)) hn c7
    refine x_callS (q := 72) (as := [.int (kI s.2 (kR s.2 v0 0) (((kI s.2 v0 2)).toNatClampNeg))]) (rest := []) dX12_number_69 rfl kc_RX12_267 kh_X12_isDigit (by decide) (Nat.le_of_ble_eq_true rfl) m8 ?_
    replace H := kite H; rcases H with ⟨g9, H⟩ | ⟨g9, H⟩
    · refine x_if_eq_t dX12_number_72 (q := 129) (by decide) g9 ?_
      cases H
      refine x_sub (ls2 := [(0, .ref v0), (1, .int v1), (2, .int v2), (3, .int v3), (4, .int s.1)]) [0, 1, 2, 3, 4] rfl ?_
      exact x_end (x_cfg rfl)
    · refine x_if_eq_f (q := 75) dX12_number_72 (t := 129) (by decide) rfl g9 ?_
      refine x_aload_n (q := 76) dX12_number_75 rfl rfl ?_
      refine x_getI (q := 79) dX12_number_76 rfl kl_RX12_236 (Or.inl rfl) (k243 g1 (by decide) hn) ?_
      refine x_iload_n (q := 80) dX12_number_79 rfl rfl ?_
      refine x_isub (q := 81) dX12_number_80 rfl ?_
      refine x_iconst (q := 82) (v := (4 : Int32)) dX12_number_81 rfl (by decide) ?_
      replace H := kite H; rcases H with ⟨g10, H⟩ | ⟨g10, H⟩
      · refine x_icmp_ne_f (q := 85) dX12_number_82 (t := 96) (by decide) rfl g10 ?_
        replace H := ko2e H; obtain ⟨o20, H, rfl⟩ := H
        refine x_aload_n (q := 86) dX12_number_85 rfl rfl ?_
        refine x_iconst (q := 87) (v := (1 : Int32)) dX12_number_86 rfl (by decide) ?_
        refine x_aload_n (q := 88) dX12_number_87 rfl rfl ?_
        refine x_getI (q := 91) dX12_number_88 rfl kl_RX12_236 (Or.inl rfl) (k243 g1 (by decide) hn) ?_
        replace H := kbe H; obtain ⟨r16, c17, H⟩ := H
        have m18 := s_X12_fail (Z := Z) s.2 v0 (1 : Int32) (kI s.2 v0 2) hn c17
        refine x_callV (q := 94) (as := [.int (1 : Int32), .int (kI s.2 v0 2)]) (rest := []) dX12_number_91 rfl kc_RX12_260 kh_X12_fail (by decide) (Nat.le_of_ble_eq_true rfl) m18 (ci := 12) (by exact ⟨rfl, by decide⟩) (k243 g1 (by decide) hn) ?_
        have n19 : (r16).1 = 243 := m18.1.full hn
        refine x_iconst (q := 95) (v := (0 : Int32)) dX12_number_94 rfl (by decide) ?_
        cases H
        exact x_end ⟨dX12_number_95, rfl, rfl⟩
      · refine x_icmp_ne_t dX12_number_82 (q := 96) (by decide) g10 ?_
        refine x_bipush (q := 98) (v := (10 : Int32)) dX12_number_96 rfl (by decide) ?_
        refine x_iload (q := 100) dX12_number_98 rfl rfl ?_
        refine x_imul (q := 101) dX12_number_100 rfl ?_
        refine x_aload_n (q := 102) dX12_number_101 rfl rfl ?_
        refine x_getR (q := 105) dX12_number_102 rfl kl_RX12_7 rfl (k243 g1 (by decide) hn) g3 ?_
        refine x_aload_n (q := 106) dX12_number_105 rfl rfl ?_
        refine x_getI (q := 109) dX12_number_106 rfl kl_RX12_236 (Or.inl rfl) (k243 g1 (by decide) hn) ?_
        refine x_iald (q := 110) dX12_number_109 rfl (k243 g4 (by decide) hn) g5 ?_
        refine x_iadd (q := 111) dX12_number_110 rfl ?_
        refine x_bipush (q := 113) (v := (48 : Int32)) dX12_number_111 rfl (by decide) ?_
        refine x_isub (q := 114) dX12_number_113 rfl ?_
        replace H := kle H; obtain ⟨x11, q12, H⟩ := H
        refine x_nmI q12 ?_
        refine x_istore (q := 116) (i := 4) (ls2 := [(4, .int x11), (0, .ref v0), (1, .int v1), (2, .int v2), (3, .int v3)]) dX12_number_114 rfl (by decide) rfl ?_
        refine x_aload_n (q := 117) dX12_number_116 rfl rfl ?_
        refine x_dup (q := 118) dX12_number_117 rfl rfl ?_
        refine x_getI (q := 121) dX12_number_118 rfl kl_RX12_236 (Or.inl rfl) (k243 g1 (by decide) hn) ?_
        refine x_iconst (q := 122) (v := (1 : Int32)) dX12_number_121 rfl (by decide) ?_
        refine x_iadd (q := 123) dX12_number_122 rfl ?_
        replace H := kle H; obtain ⟨h13, q14, H⟩ := H
        refine x_putI (q := 126) dX12_number_123 rfl kl_RX12_236 (Or.inl rfl) rfl (k243 g1 (by decide) hn) ?_
        refine x_nmH q14 ?_
        have n15 : h13.1 = 243 := by rw [q14]; exact hn
        refine x_goto dX12_number_126 (q := 49) (by decide) ?_
        cases H
        refine x_sub (ls2 := [(0, .ref v0), (1, .int v1), (2, .int v2), (3, .int v3), (4, .int x11)]) [1, 2, 3, 4, 0] rfl ?_
        exact x_end (x_cfg rfl)
theorem sl_X12_number_l49 {Z : Nat → (Nat → Nat) → State → Prop} (v0 : Nat) (v1 : Int32) (v2 : Int32) (v3 : Int32) (n : Nat) (s : Int32 × KH) (r : (Int32 × KH) ⊕ (Int32 × KH)) (hn : (s.2).1 = 243) (H : kloop (f_X12_number_l49 v0 v1 v2 v3) n s = some r) : KX Z RX12 cX12_number 5 false 2 (E_X12_number_l49 v0 v1 v2 v3 r) 49 [(0, .ref v0), (1, .int v1), (2, .int v2), (3, .int v3), (4, .int s.1)] [] s.2 :=
  k_loop (ls := (fun (s : Int32 × KH) => ([(0, .ref v0), (1, .int v1), (2, .int v2), (3, .int v3), (4, .int s.1)] : List (Nat × Value)))) (hp := (fun (s : Int32 × KH) => (s.2 : KH))) (G := E_X12_number_l49 v0 v1 v2 v3) (fun s t hn H => s_X12_number_l49 v0 v1 v2 v3 s t hn H) n s r hn H
def f_X12_number_b129 (h : KH) (v0 : Nat) (v1 : Int32) (v2 : Int32) (v3 : Int32) (v4 : Int32) : Option (Int32 × KH) :=
  if kkind v0 = 12 then kl (ksI h v0 4 (kI h v0 2)) fun h2 =>
  kb (f_X12_isIn h2 ((v4).toInt64) ((v1).toInt64) ((v2).toInt64)) fun r5 =>
  if r5 = 0 then
  kb (f_X12_fail h2 v0 (2 : Int32) v3) fun r9 =>
  some (v4, r9)
  else
  some (v4, h2) else none
set_option maxHeartbeats 4000000 in
set_option maxRecDepth 100000 in
theorem s_X12_number_b129 {Z : Nat → (Nat → Nat) → State → Prop} (h : KH) (v0 : Nat) (v1 : Int32) (v2 : Int32) (v3 : Int32) (v4 : Int32) {t : Int32 × KH} (hn : h.1 = 243) (H : f_X12_number_b129 h v0 v1 v2 v3 v4 = some t) : KX Z RX12 cX12_number 5 false 2 (KRi cX12_number t.1 t.2) 129 [(0, .ref v0), (1, .int v1), (2, .int v2), (3, .int v3), (4, .int v4)] [] h := by
  unfold f_X12_number_b129 at H
  refine x_aload_n (q := 130) dX12_number_129 rfl rfl ?_
  refine x_aload_n (q := 131) dX12_number_130 rfl rfl ?_
  replace H := kif H; obtain ⟨g1, H⟩ := H
  refine x_getI (q := 134) dX12_number_131 rfl kl_RX12_236 (Or.inl rfl) (k243 g1 (by decide) hn) ?_
  replace H := kle H; obtain ⟨h2, q3, H⟩ := H
  refine x_putI (q := 137) dX12_number_134 rfl kl_RX12_250 (Or.inl rfl) rfl (k243 g1 (by decide) hn) ?_
  refine x_nmH q3 ?_
  have n4 : h2.1 = 243 := by rw [q3]; exact hn
  refine x_iload (q := 139) dX12_number_137 rfl rfl ?_
  refine x_i2l (q := 140) dX12_number_139 rfl ?_
  refine x_iload_n (q := 141) dX12_number_140 rfl rfl ?_
  refine x_i2l (q := 142) dX12_number_141 rfl ?_
  refine x_iload_n (q := 143) dX12_number_142 rfl rfl ?_
  refine x_i2l (q := 144) dX12_number_143 rfl ?_
  replace H := kbe H; obtain ⟨r5, c6, H⟩ := H
  have m7 := s_X12_isIn (Z := Z) h2 ((v4).toInt64) ((v1).toInt64) ((v2).toInt64) n4 c6
  refine x_callS (q := 147) (as := [.long ((v4).toInt64), .long ((v1).toInt64), .long ((v2).toInt64)]) (rest := []) dX12_number_144 rfl kc_RX12_270 kh_X12_isIn (by decide) (Nat.le_of_ble_eq_true rfl) m7 ?_
  replace H := kite H; rcases H with ⟨g8, H⟩ | ⟨g8, H⟩
  · refine x_if_ne_f (q := 150) dX12_number_147 (t := 156) (by decide) rfl g8 ?_
    refine x_aload_n (q := 151) dX12_number_150 rfl rfl ?_
    refine x_iconst (q := 152) (v := (2 : Int32)) dX12_number_151 rfl (by decide) ?_
    refine x_iload_n (q := 153) dX12_number_152 rfl rfl ?_
    replace H := kbe H; obtain ⟨r9, c10, H⟩ := H
    have m11 := s_X12_fail (Z := Z) h2 v0 (2 : Int32) v3 n4 c10
    refine x_callV (q := 156) (as := [.int (2 : Int32), .int v3]) (rest := []) dX12_number_153 rfl kc_RX12_260 kh_X12_fail (by decide) (Nat.le_of_ble_eq_true rfl) m11 (ci := 12) (by exact ⟨rfl, by decide⟩) (k243 g1 (by decide) n4) ?_
    have n12 : (r9).1 = 243 := m11.1.full n4
    refine x_iload (q := 158) dX12_number_156 rfl rfl ?_
    cases H
    exact x_end ⟨dX12_number_158, rfl, rfl⟩
  · refine x_if_ne_t dX12_number_147 (q := 156) (by decide) g8 ?_
    refine x_iload (q := 158) dX12_number_156 rfl rfl ?_
    cases H
    exact x_end ⟨dX12_number_158, rfl, rfl⟩
def f_X12_number (h : KH) (v0 : Nat) (v1 : Int32) (v2 : Int32) : Option (Int32 × KH) :=
  if kkind v0 = 12 then if (kI h v0 5) = 0 then
  kb (f_X12_look0 h v0) fun r3 =>
  kb (f_X12_isDigit r3.2 r3.1) fun r7 =>
  if r7 = 0 then
  f_X12_number_b30 r3.2 v0
  else
  if (kI r3.2 v0 2) = (kI r3.2 v0 4) then
  f_X12_number_b30 r3.2 v0
  else
  kl (kI r3.2 v0 2) fun x12 =>
  kb (kloop (f_X12_number_l49 v0 v1 v2 x12) KF ((0 : Int32), r3.2)) fun e14 =>
  ksum e14 (fun x17 =>
  f_X12_number_b129 x17.2 v0 v1 v2 x12 x17.1) (fun o18 => some o18)
  else
  some ((0 : Int32), h) else none
set_option maxHeartbeats 4000000 in
set_option maxRecDepth 100000 in
theorem s0_X12_number {Z : Nat → (Nat → Nat) → State → Prop} (h : KH) (v0 : Nat) (v1 : Int32) (v2 : Int32) {t : Int32 × KH} (hn : h.1 = 243) (H : f_X12_number h v0 v1 v2 = some t) : KX Z RX12 cX12_number 5 false 2 (KRi cX12_number t.1 t.2) 0 [(0, .ref v0), (1, .int v1), (2, .int v2)] [] h := by
  unfold f_X12_number at H
  refine x_aload_n (q := 1) dX12_number_0 rfl rfl ?_
  replace H := kif H; obtain ⟨g1, H⟩ := H
  refine x_getI (q := 4) dX12_number_1 rfl kl_RX12_230 (Or.inl rfl) (k243 g1 (by decide) hn) ?_
  replace H := kite H; rcases H with ⟨g2, H⟩ | ⟨g2, H⟩
  · refine x_if_eq_t dX12_number_4 (q := 9) (by decide) g2 ?_
    refine x_aload_n (q := 10) dX12_number_9 rfl rfl ?_
    replace H := kbe H; obtain ⟨r3, c4, H⟩ := H
    have m5 := s_X12_look0 (Z := Z) h v0 hn c4
    refine x_callV (q := 13) (as := []) (rest := []) dX12_number_10 rfl kc_RX12_242 kh_X12_look0 (by decide) (Nat.le_of_ble_eq_true rfl) m5 (ci := 12) (by exact ⟨rfl, by decide⟩) (k243 g1 (by decide) hn) ?_
    have n6 : (r3.2).1 = 243 := m5.1.full hn
    replace H := kbe H; obtain ⟨r7, c8, H⟩ := H
    have m9 := s_X12_isDigit (Z := Z) r3.2 r3.1 n6 c8
    refine x_callS (q := 16) (as := [.int r3.1]) (rest := []) dX12_number_13 rfl kc_RX12_267 kh_X12_isDigit (by decide) (Nat.le_of_ble_eq_true rfl) m9 ?_
    replace H := kite H; rcases H with ⟨g10, H⟩ | ⟨g10, H⟩
    · refine x_if_eq_t dX12_number_16 (q := 30) (by decide) g10 ?_
      refine x_sub (ls2 := [(0, .ref v0)]) [0] rfl ?_
      exact s_X12_number_b30 r3.2 v0 n6 H
    · refine x_if_eq_f (q := 19) dX12_number_16 (t := 30) (by decide) rfl g10 ?_
      refine x_aload_n (q := 20) dX12_number_19 rfl rfl ?_
      refine x_getI (q := 23) dX12_number_20 rfl kl_RX12_236 (Or.inl rfl) (k243 g1 (by decide) n6) ?_
      refine x_aload_n (q := 24) dX12_number_23 rfl rfl ?_
      refine x_getI (q := 27) dX12_number_24 rfl kl_RX12_250 (Or.inl rfl) (k243 g1 (by decide) n6) ?_
      replace H := kite H; rcases H with ⟨g11, H⟩ | ⟨g11, H⟩
      · refine x_icmp_ne_f (q := 30) dX12_number_27 (t := 41) (by decide) rfl g11 ?_
        refine x_sub (ls2 := [(0, .ref v0)]) [0] rfl ?_
        exact s_X12_number_b30 r3.2 v0 n6 H
      · refine x_icmp_ne_t dX12_number_27 (q := 41) (by decide) g11 ?_
        refine x_aload_n (q := 42) dX12_number_41 rfl rfl ?_
        refine x_getI (q := 45) dX12_number_42 rfl kl_RX12_236 (Or.inl rfl) (k243 g1 (by decide) n6) ?_
        replace H := kle H; obtain ⟨x12, q13, H⟩ := H
        refine x_nmI q13 ?_
        refine x_istore_n (q := 46) (i := 3) (ls2 := [(3, .int x12), (0, .ref v0), (1, .int v1), (2, .int v2)]) dX12_number_45 rfl rfl (by decide) rfl ?_
        refine x_iconst (q := 47) (v := (0 : Int32)) dX12_number_46 rfl (by decide) ?_
        refine x_istore (q := 49) (i := 4) (ls2 := [(4, .int (0 : Int32)), (3, .int x12), (0, .ref v0), (1, .int v1), (2, .int v2)]) dX12_number_47 rfl (by decide) rfl ?_
        refine x_sub (ls2 := [(0, .ref v0), (1, .int v1), (2, .int v2), (3, .int x12), (4, .int (0 : Int32))]) [2, 3, 4, 1, 0] rfl ?_
        replace H := kbe H; obtain ⟨e14, c15, H⟩ := H
        refine x_app (sl_X12_number_l49 v0 v1 v2 x12 KF ((0 : Int32), r3.2) e14 n6 c15) fun pc2 ls2 st2 h2 hg m16 => ?_
        replace H := kse H; rcases H with ⟨x17, rfl, H⟩ | ⟨o18, rfl, H⟩
        · obtain ⟨rfl, rfl, rfl, rfl⟩ := hg
          refine x_sub (ls2 := [(0, .ref v0), (1, .int v1), (2, .int v2), (3, .int x12), (4, .int x17.1)]) [0, 1, 2, 3, 4] rfl ?_
          exact s_X12_number_b129 x17.2 v0 v1 v2 x12 x17.1 (m16.full n6) H
        · cases H
          exact x_end hg
  · refine x_if_eq_f (q := 7) dX12_number_4 (t := 9) (by decide) rfl g2 ?_
    refine x_iconst (q := 8) (v := (0 : Int32)) dX12_number_7 rfl (by decide) ?_
    cases H
    exact x_end ⟨dX12_number_8, rfl, rfl⟩
theorem s_X12_number {Z : Nat → (Nat → Nat) → State → Prop} (h : KH) (v0 : Nat) (v1 : Int32) (v2 : Int32) {t : Int32 × KH} (hn : h.1 = 243) (H : f_X12_number h v0 v1 v2 = some t) : KM Z yX12_number cX12_number 5 (some .int) 2 [.ref v0, .int v1, .int v2] h (some (.int t.1)) t.2 :=
  kx_i (own := RX12) (ini := false) (by decide +kernel) (by decide +kernel) rfl (Nat.le_of_ble_eq_true rfl) (s0_X12_number h v0 v1 v2 hn H)
theorem dX12_isOwnHere_0 : decode cX12_isOwnHere 0 = .ok (.aload_n 0, 1) := by decide +kernel
theorem dX12_isOwnHere_1 : decode cX12_isOwnHere 1 = .ok (.aload_n 0, 1) := by decide +kernel
theorem dX12_isOwnHere_2 : decode cX12_isOwnHere 2 = .ok (.getfield 20, 3) := by decide +kernel
theorem dX12_isOwnHere_5 : decode cX12_isOwnHere 5 = .ok (.invokevirtual 253, 3) := by decide +kernel
theorem dX12_isOwnHere_8 : decode cX12_isOwnHere 8 = .ok (.ifCond .ne 58, 3) := by decide +kernel
theorem dX12_isOwnHere_11 : decode cX12_isOwnHere 11 = .ok (.aload_n 0, 1) := by decide +kernel
theorem dX12_isOwnHere_12 : decode cX12_isOwnHere 12 = .ok (.aload_n 0, 1) := by decide +kernel
theorem dX12_isOwnHere_13 : decode cX12_isOwnHere 13 = .ok (.getfield 24, 3) := by decide +kernel
theorem dX12_isOwnHere_16 : decode cX12_isOwnHere 16 = .ok (.invokevirtual 253, 3) := by decide +kernel
theorem dX12_isOwnHere_19 : decode cX12_isOwnHere 19 = .ok (.ifCond .ne 47, 3) := by decide +kernel
theorem dX12_isOwnHere_22 : decode cX12_isOwnHere 22 = .ok (.aload_n 0, 1) := by decide +kernel
theorem dX12_isOwnHere_23 : decode cX12_isOwnHere 23 = .ok (.aload_n 0, 1) := by decide +kernel
theorem dX12_isOwnHere_24 : decode cX12_isOwnHere 24 = .ok (.getfield 27, 3) := by decide +kernel
theorem dX12_isOwnHere_27 : decode cX12_isOwnHere 27 = .ok (.invokevirtual 253, 3) := by decide +kernel
theorem dX12_isOwnHere_30 : decode cX12_isOwnHere 30 = .ok (.ifCond .ne 36, 3) := by decide +kernel
theorem dX12_isOwnHere_33 : decode cX12_isOwnHere 33 = .ok (.aload_n 0, 1) := by decide +kernel
theorem dX12_isOwnHere_34 : decode cX12_isOwnHere 34 = .ok (.aload_n 0, 1) := by decide +kernel
theorem dX12_isOwnHere_35 : decode cX12_isOwnHere 35 = .ok (.getfield 30, 3) := by decide +kernel
theorem dX12_isOwnHere_38 : decode cX12_isOwnHere 38 = .ok (.invokevirtual 253, 3) := by decide +kernel
theorem dX12_isOwnHere_41 : decode cX12_isOwnHere 41 = .ok (.ifCond .ne 25, 3) := by decide +kernel
theorem dX12_isOwnHere_44 : decode cX12_isOwnHere 44 = .ok (.aload_n 0, 1) := by decide +kernel
theorem dX12_isOwnHere_45 : decode cX12_isOwnHere 45 = .ok (.aload_n 0, 1) := by decide +kernel
theorem dX12_isOwnHere_46 : decode cX12_isOwnHere 46 = .ok (.getfield 33, 3) := by decide +kernel
theorem dX12_isOwnHere_49 : decode cX12_isOwnHere 49 = .ok (.invokevirtual 253, 3) := by decide +kernel
theorem dX12_isOwnHere_52 : decode cX12_isOwnHere 52 = .ok (.ifCond .ne 14, 3) := by decide +kernel
theorem dX12_isOwnHere_55 : decode cX12_isOwnHere 55 = .ok (.aload_n 0, 1) := by decide +kernel
theorem dX12_isOwnHere_56 : decode cX12_isOwnHere 56 = .ok (.aload_n 0, 1) := by decide +kernel
theorem dX12_isOwnHere_57 : decode cX12_isOwnHere 57 = .ok (.getfield 36, 3) := by decide +kernel
theorem dX12_isOwnHere_60 : decode cX12_isOwnHere 60 = .ok (.invokevirtual 253, 3) := by decide +kernel
theorem dX12_isOwnHere_63 : decode cX12_isOwnHere 63 = .ok (.ifCond .eq 7, 3) := by decide +kernel
theorem dX12_isOwnHere_66 : decode cX12_isOwnHere 66 = .ok (.iconst 1, 1) := by decide +kernel
theorem dX12_isOwnHere_67 : decode cX12_isOwnHere 67 = .ok (.goto 4, 3) := by decide +kernel
theorem dX12_isOwnHere_70 : decode cX12_isOwnHere 70 = .ok (.iconst 0, 1) := by decide +kernel
theorem dX12_isOwnHere_71 : decode cX12_isOwnHere 71 = .ok (.istore_n 1, 1) := by decide +kernel
theorem dX12_isOwnHere_72 : decode cX12_isOwnHere 72 = .ok (.iload_n 1, 1) := by decide +kernel
theorem dX12_isOwnHere_73 : decode cX12_isOwnHere 73 = .ok (.ifCond .ne 69, 3) := by decide +kernel
theorem dX12_isOwnHere_76 : decode cX12_isOwnHere 76 = .ok (.aload_n 0, 1) := by decide +kernel
theorem dX12_isOwnHere_77 : decode cX12_isOwnHere 77 = .ok (.aload_n 0, 1) := by decide +kernel
theorem dX12_isOwnHere_78 : decode cX12_isOwnHere 78 = .ok (.getfield 39, 3) := by decide +kernel
theorem dX12_isOwnHere_81 : decode cX12_isOwnHere 81 = .ok (.invokevirtual 253, 3) := by decide +kernel
theorem dX12_isOwnHere_84 : decode cX12_isOwnHere 84 = .ok (.ifCond .ne 58, 3) := by decide +kernel
theorem dX12_isOwnHere_87 : decode cX12_isOwnHere 87 = .ok (.aload_n 0, 1) := by decide +kernel
theorem dX12_isOwnHere_88 : decode cX12_isOwnHere 88 = .ok (.aload_n 0, 1) := by decide +kernel
theorem dX12_isOwnHere_89 : decode cX12_isOwnHere 89 = .ok (.getfield 42, 3) := by decide +kernel
theorem dX12_isOwnHere_92 : decode cX12_isOwnHere 92 = .ok (.invokevirtual 253, 3) := by decide +kernel
theorem dX12_isOwnHere_95 : decode cX12_isOwnHere 95 = .ok (.ifCond .ne 47, 3) := by decide +kernel
theorem dX12_isOwnHere_98 : decode cX12_isOwnHere 98 = .ok (.aload_n 0, 1) := by decide +kernel
theorem dX12_isOwnHere_99 : decode cX12_isOwnHere 99 = .ok (.aload_n 0, 1) := by decide +kernel
theorem dX12_isOwnHere_100 : decode cX12_isOwnHere 100 = .ok (.getfield 45, 3) := by decide +kernel
theorem dX12_isOwnHere_103 : decode cX12_isOwnHere 103 = .ok (.invokevirtual 253, 3) := by decide +kernel
theorem dX12_isOwnHere_106 : decode cX12_isOwnHere 106 = .ok (.ifCond .ne 36, 3) := by decide +kernel
theorem dX12_isOwnHere_109 : decode cX12_isOwnHere 109 = .ok (.aload_n 0, 1) := by decide +kernel
theorem dX12_isOwnHere_110 : decode cX12_isOwnHere 110 = .ok (.aload_n 0, 1) := by decide +kernel
theorem dX12_isOwnHere_111 : decode cX12_isOwnHere 111 = .ok (.getfield 48, 3) := by decide +kernel
theorem dX12_isOwnHere_114 : decode cX12_isOwnHere 114 = .ok (.invokevirtual 253, 3) := by decide +kernel
theorem dX12_isOwnHere_117 : decode cX12_isOwnHere 117 = .ok (.ifCond .ne 25, 3) := by decide +kernel
theorem dX12_isOwnHere_120 : decode cX12_isOwnHere 120 = .ok (.aload_n 0, 1) := by decide +kernel
theorem dX12_isOwnHere_121 : decode cX12_isOwnHere 121 = .ok (.aload_n 0, 1) := by decide +kernel
theorem dX12_isOwnHere_122 : decode cX12_isOwnHere 122 = .ok (.getfield 51, 3) := by decide +kernel
theorem dX12_isOwnHere_125 : decode cX12_isOwnHere 125 = .ok (.invokevirtual 253, 3) := by decide +kernel
theorem dX12_isOwnHere_128 : decode cX12_isOwnHere 128 = .ok (.ifCond .ne 14, 3) := by decide +kernel
theorem dX12_isOwnHere_131 : decode cX12_isOwnHere 131 = .ok (.aload_n 0, 1) := by decide +kernel
theorem dX12_isOwnHere_132 : decode cX12_isOwnHere 132 = .ok (.aload_n 0, 1) := by decide +kernel
theorem dX12_isOwnHere_133 : decode cX12_isOwnHere 133 = .ok (.getfield 54, 3) := by decide +kernel
theorem dX12_isOwnHere_136 : decode cX12_isOwnHere 136 = .ok (.invokevirtual 253, 3) := by decide +kernel
theorem dX12_isOwnHere_139 : decode cX12_isOwnHere 139 = .ok (.ifCond .eq 7, 3) := by decide +kernel
theorem dX12_isOwnHere_142 : decode cX12_isOwnHere 142 = .ok (.iconst 1, 1) := by decide +kernel
theorem dX12_isOwnHere_143 : decode cX12_isOwnHere 143 = .ok (.goto 4, 3) := by decide +kernel
theorem dX12_isOwnHere_146 : decode cX12_isOwnHere 146 = .ok (.iconst 0, 1) := by decide +kernel
theorem dX12_isOwnHere_147 : decode cX12_isOwnHere 147 = .ok (.istore_n 1, 1) := by decide +kernel
theorem dX12_isOwnHere_148 : decode cX12_isOwnHere 148 = .ok (.iload_n 1, 1) := by decide +kernel
theorem dX12_isOwnHere_149 : decode cX12_isOwnHere 149 = .ok (.ifCond .ne 69, 3) := by decide +kernel
theorem dX12_isOwnHere_152 : decode cX12_isOwnHere 152 = .ok (.aload_n 0, 1) := by decide +kernel
theorem dX12_isOwnHere_153 : decode cX12_isOwnHere 153 = .ok (.aload_n 0, 1) := by decide +kernel
theorem dX12_isOwnHere_154 : decode cX12_isOwnHere 154 = .ok (.getfield 57, 3) := by decide +kernel
theorem dX12_isOwnHere_157 : decode cX12_isOwnHere 157 = .ok (.invokevirtual 253, 3) := by decide +kernel
theorem dX12_isOwnHere_160 : decode cX12_isOwnHere 160 = .ok (.ifCond .ne 58, 3) := by decide +kernel
theorem dX12_isOwnHere_163 : decode cX12_isOwnHere 163 = .ok (.aload_n 0, 1) := by decide +kernel
theorem dX12_isOwnHere_164 : decode cX12_isOwnHere 164 = .ok (.aload_n 0, 1) := by decide +kernel
theorem dX12_isOwnHere_165 : decode cX12_isOwnHere 165 = .ok (.getfield 60, 3) := by decide +kernel
theorem dX12_isOwnHere_168 : decode cX12_isOwnHere 168 = .ok (.invokevirtual 253, 3) := by decide +kernel
theorem dX12_isOwnHere_171 : decode cX12_isOwnHere 171 = .ok (.ifCond .ne 47, 3) := by decide +kernel
theorem dX12_isOwnHere_174 : decode cX12_isOwnHere 174 = .ok (.aload_n 0, 1) := by decide +kernel
theorem dX12_isOwnHere_175 : decode cX12_isOwnHere 175 = .ok (.aload_n 0, 1) := by decide +kernel
theorem dX12_isOwnHere_176 : decode cX12_isOwnHere 176 = .ok (.getfield 63, 3) := by decide +kernel
theorem dX12_isOwnHere_179 : decode cX12_isOwnHere 179 = .ok (.invokevirtual 253, 3) := by decide +kernel
theorem dX12_isOwnHere_182 : decode cX12_isOwnHere 182 = .ok (.ifCond .ne 36, 3) := by decide +kernel
theorem dX12_isOwnHere_185 : decode cX12_isOwnHere 185 = .ok (.aload_n 0, 1) := by decide +kernel
theorem dX12_isOwnHere_186 : decode cX12_isOwnHere 186 = .ok (.aload_n 0, 1) := by decide +kernel
theorem dX12_isOwnHere_187 : decode cX12_isOwnHere 187 = .ok (.getfield 66, 3) := by decide +kernel
theorem dX12_isOwnHere_190 : decode cX12_isOwnHere 190 = .ok (.invokevirtual 253, 3) := by decide +kernel
theorem dX12_isOwnHere_193 : decode cX12_isOwnHere 193 = .ok (.ifCond .ne 25, 3) := by decide +kernel
theorem dX12_isOwnHere_196 : decode cX12_isOwnHere 196 = .ok (.aload_n 0, 1) := by decide +kernel
theorem dX12_isOwnHere_197 : decode cX12_isOwnHere 197 = .ok (.aload_n 0, 1) := by decide +kernel
theorem dX12_isOwnHere_198 : decode cX12_isOwnHere 198 = .ok (.getfield 69, 3) := by decide +kernel
theorem dX12_isOwnHere_201 : decode cX12_isOwnHere 201 = .ok (.invokevirtual 253, 3) := by decide +kernel
theorem dX12_isOwnHere_204 : decode cX12_isOwnHere 204 = .ok (.ifCond .ne 14, 3) := by decide +kernel
theorem dX12_isOwnHere_207 : decode cX12_isOwnHere 207 = .ok (.aload_n 0, 1) := by decide +kernel
theorem dX12_isOwnHere_208 : decode cX12_isOwnHere 208 = .ok (.aload_n 0, 1) := by decide +kernel
theorem dX12_isOwnHere_209 : decode cX12_isOwnHere 209 = .ok (.getfield 72, 3) := by decide +kernel
theorem dX12_isOwnHere_212 : decode cX12_isOwnHere 212 = .ok (.invokevirtual 253, 3) := by decide +kernel
theorem dX12_isOwnHere_215 : decode cX12_isOwnHere 215 = .ok (.ifCond .eq 7, 3) := by decide +kernel
theorem dX12_isOwnHere_218 : decode cX12_isOwnHere 218 = .ok (.iconst 1, 1) := by decide +kernel
theorem dX12_isOwnHere_219 : decode cX12_isOwnHere 219 = .ok (.goto 4, 3) := by decide +kernel
theorem dX12_isOwnHere_222 : decode cX12_isOwnHere 222 = .ok (.iconst 0, 1) := by decide +kernel
theorem dX12_isOwnHere_223 : decode cX12_isOwnHere 223 = .ok (.istore_n 1, 1) := by decide +kernel
theorem dX12_isOwnHere_224 : decode cX12_isOwnHere 224 = .ok (.iload_n 1, 1) := by decide +kernel
theorem dX12_isOwnHere_225 : decode cX12_isOwnHere 225 = .ok (.ifCond .ne 47, 3) := by decide +kernel
theorem dX12_isOwnHere_228 : decode cX12_isOwnHere 228 = .ok (.aload_n 0, 1) := by decide +kernel
theorem dX12_isOwnHere_229 : decode cX12_isOwnHere 229 = .ok (.aload_n 0, 1) := by decide +kernel
theorem dX12_isOwnHere_230 : decode cX12_isOwnHere 230 = .ok (.getfield 75, 3) := by decide +kernel
theorem dX12_isOwnHere_233 : decode cX12_isOwnHere 233 = .ok (.invokevirtual 253, 3) := by decide +kernel
theorem dX12_isOwnHere_236 : decode cX12_isOwnHere 236 = .ok (.ifCond .ne 36, 3) := by decide +kernel
theorem dX12_isOwnHere_239 : decode cX12_isOwnHere 239 = .ok (.aload_n 0, 1) := by decide +kernel
theorem dX12_isOwnHere_240 : decode cX12_isOwnHere 240 = .ok (.aload_n 0, 1) := by decide +kernel
theorem dX12_isOwnHere_241 : decode cX12_isOwnHere 241 = .ok (.getfield 78, 3) := by decide +kernel
theorem dX12_isOwnHere_244 : decode cX12_isOwnHere 244 = .ok (.invokevirtual 253, 3) := by decide +kernel
theorem dX12_isOwnHere_247 : decode cX12_isOwnHere 247 = .ok (.ifCond .ne 25, 3) := by decide +kernel
theorem dX12_isOwnHere_250 : decode cX12_isOwnHere 250 = .ok (.aload_n 0, 1) := by decide +kernel
theorem dX12_isOwnHere_251 : decode cX12_isOwnHere 251 = .ok (.aload_n 0, 1) := by decide +kernel
theorem dX12_isOwnHere_252 : decode cX12_isOwnHere 252 = .ok (.getfield 81, 3) := by decide +kernel
theorem dX12_isOwnHere_255 : decode cX12_isOwnHere 255 = .ok (.invokevirtual 253, 3) := by decide +kernel
theorem dX12_isOwnHere_258 : decode cX12_isOwnHere 258 = .ok (.ifCond .ne 14, 3) := by decide +kernel
theorem dX12_isOwnHere_261 : decode cX12_isOwnHere 261 = .ok (.aload_n 0, 1) := by decide +kernel
theorem dX12_isOwnHere_262 : decode cX12_isOwnHere 262 = .ok (.aload_n 0, 1) := by decide +kernel
theorem dX12_isOwnHere_263 : decode cX12_isOwnHere 263 = .ok (.getfield 84, 3) := by decide +kernel
theorem dX12_isOwnHere_266 : decode cX12_isOwnHere 266 = .ok (.invokevirtual 253, 3) := by decide +kernel
theorem dX12_isOwnHere_269 : decode cX12_isOwnHere 269 = .ok (.ifCond .eq 7, 3) := by decide +kernel
theorem dX12_isOwnHere_272 : decode cX12_isOwnHere 272 = .ok (.iconst 1, 1) := by decide +kernel
theorem dX12_isOwnHere_273 : decode cX12_isOwnHere 273 = .ok (.goto 4, 3) := by decide +kernel
theorem dX12_isOwnHere_276 : decode cX12_isOwnHere 276 = .ok (.iconst 0, 1) := by decide +kernel
theorem dX12_isOwnHere_277 : decode cX12_isOwnHere 277 = .ok (.istore_n 1, 1) := by decide +kernel
theorem dX12_isOwnHere_278 : decode cX12_isOwnHere 278 = .ok (.iload_n 1, 1) := by decide +kernel
theorem dX12_isOwnHere_279 : decode cX12_isOwnHere 279 = .ok (.ireturn, 1) := by decide +kernel
theorem kl_RX12_20 : KLk RX12 20 12 10 := ⟨RX12, TX12, 97, rfl, by decide, Or.inl (kwm 1207 (by decide +kernel) (by decide +kernel))⟩
theorem kl_RX12_75 : KLk RX12 75 12 28 := ⟨RX12, TX12, 97, rfl, by decide, Or.inl (kwm 1225 (by decide +kernel) (by decide +kernel))⟩
theorem kl_RX12_78 : KLk RX12 78 12 29 := ⟨RX12, TX12, 97, rfl, by decide, Or.inl (kwm 1226 (by decide +kernel) (by decide +kernel))⟩
theorem kl_RX12_81 : KLk RX12 81 12 30 := ⟨RX12, TX12, 97, rfl, by decide, Or.inl (kwm 1227 (by decide +kernel) (by decide +kernel))⟩
theorem kl_RX12_84 : KLk RX12 84 12 31 := ⟨RX12, TX12, 97, rfl, by decide, Or.inl (kwm 1228 (by decide +kernel) (by decide +kernel))⟩
theorem kl_RX12_57 : KLk RX12 57 12 22 := ⟨RX12, TX12, 97, rfl, by decide, Or.inl (kwm 1219 (by decide +kernel) (by decide +kernel))⟩
theorem kl_RX12_60 : KLk RX12 60 12 23 := ⟨RX12, TX12, 97, rfl, by decide, Or.inl (kwm 1220 (by decide +kernel) (by decide +kernel))⟩
theorem kl_RX12_63 : KLk RX12 63 12 24 := ⟨RX12, TX12, 97, rfl, by decide, Or.inl (kwm 1221 (by decide +kernel) (by decide +kernel))⟩
theorem kl_RX12_66 : KLk RX12 66 12 25 := ⟨RX12, TX12, 97, rfl, by decide, Or.inl (kwm 1222 (by decide +kernel) (by decide +kernel))⟩
theorem kl_RX12_69 : KLk RX12 69 12 26 := ⟨RX12, TX12, 97, rfl, by decide, Or.inl (kwm 1223 (by decide +kernel) (by decide +kernel))⟩
theorem kl_RX12_72 : KLk RX12 72 12 27 := ⟨RX12, TX12, 97, rfl, by decide, Or.inl (kwm 1224 (by decide +kernel) (by decide +kernel))⟩
theorem kl_RX12_39 : KLk RX12 39 12 16 := ⟨RX12, TX12, 97, rfl, by decide, Or.inl (kwm 1213 (by decide +kernel) (by decide +kernel))⟩
theorem kl_RX12_42 : KLk RX12 42 12 17 := ⟨RX12, TX12, 97, rfl, by decide, Or.inl (kwm 1214 (by decide +kernel) (by decide +kernel))⟩
theorem kl_RX12_45 : KLk RX12 45 12 18 := ⟨RX12, TX12, 97, rfl, by decide, Or.inl (kwm 1215 (by decide +kernel) (by decide +kernel))⟩
theorem kl_RX12_48 : KLk RX12 48 12 19 := ⟨RX12, TX12, 97, rfl, by decide, Or.inl (kwm 1216 (by decide +kernel) (by decide +kernel))⟩
theorem kl_RX12_51 : KLk RX12 51 12 20 := ⟨RX12, TX12, 97, rfl, by decide, Or.inl (kwm 1217 (by decide +kernel) (by decide +kernel))⟩
theorem kl_RX12_54 : KLk RX12 54 12 21 := ⟨RX12, TX12, 97, rfl, by decide, Or.inl (kwm 1218 (by decide +kernel) (by decide +kernel))⟩
theorem kl_RX12_24 : KLk RX12 24 12 11 := ⟨RX12, TX12, 97, rfl, by decide, Or.inl (kwm 1208 (by decide +kernel) (by decide +kernel))⟩
theorem kl_RX12_27 : KLk RX12 27 12 12 := ⟨RX12, TX12, 97, rfl, by decide, Or.inl (kwm 1209 (by decide +kernel) (by decide +kernel))⟩
theorem kl_RX12_30 : KLk RX12 30 12 13 := ⟨RX12, TX12, 97, rfl, by decide, Or.inl (kwm 1210 (by decide +kernel) (by decide +kernel))⟩
theorem kl_RX12_33 : KLk RX12 33 12 14 := ⟨RX12, TX12, 97, rfl, by decide, Or.inl (kwm 1211 (by decide +kernel) (by decide +kernel))⟩
theorem kl_RX12_36 : KLk RX12 36 12 15 := ⟨RX12, TX12, 97, rfl, by decide, Or.inl (kwm 1212 (by decide +kernel) (by decide +kernel))⟩
def f_X12_isOwnHere_b272 (h : KH) : Option (Int32 × KH) :=
  some ((1 : Int32), h)
set_option maxHeartbeats 4000000 in
set_option maxRecDepth 100000 in
theorem s_X12_isOwnHere_b272 {Z : Nat → (Nat → Nat) → State → Prop} (h : KH) {t : Int32 × KH} (hn : h.1 = 243) (H : f_X12_isOwnHere_b272 h = some t) : KX Z RX12 cX12_isOwnHere 2 false 3 (KRz cX12_isOwnHere t.1 t.2) 272 [] [] h := by
  unfold f_X12_isOwnHere_b272 at H
  refine x_iconst (q := 273) (v := (1 : Int32)) dX12_isOwnHere_272 rfl (by decide) ?_
  refine x_goto dX12_isOwnHere_273 (q := 277) (by decide) ?_
  refine x_istore_n (q := 278) (i := 1) (ls2 := [(1, .int (1 : Int32))]) dX12_isOwnHere_277 rfl rfl (by decide) rfl ?_
  refine x_iload_n (q := 279) dX12_isOwnHere_278 rfl rfl ?_
  cases H
  exact x_end ⟨(Or.inr rfl), dX12_isOwnHere_279, rfl, rfl⟩
def f_X12_isOwnHere_b223 (h : KH) (v0 : Nat) (w0 : Int32) : Option (Int32 × KH) :=
  if w0 = 0 then
  if kkind v0 = 12 then if (kR h v0 28) < 999999 then kb (f_X12_isHere h v0 (kR h v0 28)) fun r4 =>
  if r4.1 = 0 then
  if (kR r4.2 v0 29) < 999999 then kb (f_X12_isHere r4.2 v0 (kR r4.2 v0 29)) fun r10 =>
  if r10.1 = 0 then
  if (kR r10.2 v0 30) < 999999 then kb (f_X12_isHere r10.2 v0 (kR r10.2 v0 30)) fun r16 =>
  if r16.1 = 0 then
  if (kR r16.2 v0 31) < 999999 then kb (f_X12_isHere r16.2 v0 (kR r16.2 v0 31)) fun r22 =>
  if r22.1 = 0 then
  some ((0 : Int32), r22.2)
  else
  f_X12_isOwnHere_b272 r22.2 else none
  else
  f_X12_isOwnHere_b272 r16.2 else none
  else
  f_X12_isOwnHere_b272 r10.2 else none
  else
  f_X12_isOwnHere_b272 r4.2 else none else none
  else
  f_X12_isOwnHere_b272 h
set_option maxHeartbeats 4000000 in
set_option maxRecDepth 100000 in
theorem s_X12_isOwnHere_b223 {Z : Nat → (Nat → Nat) → State → Prop} (h : KH) (v0 : Nat) (w0 : Int32) {t : Int32 × KH} (hn : h.1 = 243) (H : f_X12_isOwnHere_b223 h v0 w0 = some t) : KX Z RX12 cX12_isOwnHere 2 false 3 (KRz cX12_isOwnHere t.1 t.2) 223 [(0, .ref v0)] [.int w0] h := by
  unfold f_X12_isOwnHere_b223 at H
  refine x_istore_n (q := 224) (i := 1) (ls2 := [(1, .int w0), (0, .ref v0)]) dX12_isOwnHere_223 rfl rfl (by decide) rfl ?_
  refine x_iload_n (q := 225) dX12_isOwnHere_224 rfl rfl ?_
  replace H := kite H; rcases H with ⟨g1, H⟩ | ⟨g1, H⟩
  · refine x_if_ne_f (q := 228) dX12_isOwnHere_225 (t := 272) (by decide) rfl g1 ?_
    refine x_aload_n (q := 229) dX12_isOwnHere_228 rfl rfl ?_
    refine x_aload_n (q := 230) dX12_isOwnHere_229 rfl rfl ?_
    replace H := kif H; obtain ⟨g2, H⟩ := H
    replace H := kif H; obtain ⟨g3, H⟩ := H
    refine x_getR (q := 233) dX12_isOwnHere_230 rfl kl_RX12_75 rfl (k243 g2 (by decide) hn) g3 ?_
    replace H := kbe H; obtain ⟨r4, c5, H⟩ := H
    have m6 := s_X12_isHere (Z := Z) h v0 (kR h v0 28) hn c5
    refine x_callV (q := 236) (as := [.ref (kR h v0 28)]) (rest := []) dX12_isOwnHere_233 rfl kc_RX12_253 kh_X12_isHere (by decide) (Nat.le_of_ble_eq_true rfl) m6 (ci := 12) (by exact ⟨rfl, by decide⟩) (k243 g2 (by decide) hn) ?_
    have n7 : (r4.2).1 = 243 := m6.1.full hn
    replace H := kite H; rcases H with ⟨g8, H⟩ | ⟨g8, H⟩
    · refine x_if_ne_f (q := 239) dX12_isOwnHere_236 (t := 272) (by decide) rfl g8 ?_
      refine x_aload_n (q := 240) dX12_isOwnHere_239 rfl rfl ?_
      refine x_aload_n (q := 241) dX12_isOwnHere_240 rfl rfl ?_
      replace H := kif H; obtain ⟨g9, H⟩ := H
      refine x_getR (q := 244) dX12_isOwnHere_241 rfl kl_RX12_78 rfl (k243 g2 (by decide) n7) g9 ?_
      replace H := kbe H; obtain ⟨r10, c11, H⟩ := H
      have m12 := s_X12_isHere (Z := Z) r4.2 v0 (kR r4.2 v0 29) n7 c11
      refine x_callV (q := 247) (as := [.ref (kR r4.2 v0 29)]) (rest := []) dX12_isOwnHere_244 rfl kc_RX12_253 kh_X12_isHere (by decide) (Nat.le_of_ble_eq_true rfl) m12 (ci := 12) (by exact ⟨rfl, by decide⟩) (k243 g2 (by decide) n7) ?_
      have n13 : (r10.2).1 = 243 := m12.1.full n7
      replace H := kite H; rcases H with ⟨g14, H⟩ | ⟨g14, H⟩
      · refine x_if_ne_f (q := 250) dX12_isOwnHere_247 (t := 272) (by decide) rfl g14 ?_
        refine x_aload_n (q := 251) dX12_isOwnHere_250 rfl rfl ?_
        refine x_aload_n (q := 252) dX12_isOwnHere_251 rfl rfl ?_
        replace H := kif H; obtain ⟨g15, H⟩ := H
        refine x_getR (q := 255) dX12_isOwnHere_252 rfl kl_RX12_81 rfl (k243 g2 (by decide) n13) g15 ?_
        replace H := kbe H; obtain ⟨r16, c17, H⟩ := H
        have m18 := s_X12_isHere (Z := Z) r10.2 v0 (kR r10.2 v0 30) n13 c17
        refine x_callV (q := 258) (as := [.ref (kR r10.2 v0 30)]) (rest := []) dX12_isOwnHere_255 rfl kc_RX12_253 kh_X12_isHere (by decide) (Nat.le_of_ble_eq_true rfl) m18 (ci := 12) (by exact ⟨rfl, by decide⟩) (k243 g2 (by decide) n13) ?_
        have n19 : (r16.2).1 = 243 := m18.1.full n13
        replace H := kite H; rcases H with ⟨g20, H⟩ | ⟨g20, H⟩
        · refine x_if_ne_f (q := 261) dX12_isOwnHere_258 (t := 272) (by decide) rfl g20 ?_
          refine x_aload_n (q := 262) dX12_isOwnHere_261 rfl rfl ?_
          refine x_aload_n (q := 263) dX12_isOwnHere_262 rfl rfl ?_
          replace H := kif H; obtain ⟨g21, H⟩ := H
          refine x_getR (q := 266) dX12_isOwnHere_263 rfl kl_RX12_84 rfl (k243 g2 (by decide) n19) g21 ?_
          replace H := kbe H; obtain ⟨r22, c23, H⟩ := H
          have m24 := s_X12_isHere (Z := Z) r16.2 v0 (kR r16.2 v0 31) n19 c23
          refine x_callV (q := 269) (as := [.ref (kR r16.2 v0 31)]) (rest := []) dX12_isOwnHere_266 rfl kc_RX12_253 kh_X12_isHere (by decide) (Nat.le_of_ble_eq_true rfl) m24 (ci := 12) (by exact ⟨rfl, by decide⟩) (k243 g2 (by decide) n19) ?_
          have n25 : (r22.2).1 = 243 := m24.1.full n19
          replace H := kite H; rcases H with ⟨g26, H⟩ | ⟨g26, H⟩
          · refine x_if_eq_t dX12_isOwnHere_269 (q := 276) (by decide) g26 ?_
            refine x_iconst (q := 277) (v := (0 : Int32)) dX12_isOwnHere_276 rfl (by decide) ?_
            refine x_istore_n (q := 278) (i := 1) (ls2 := [(1, .int (0 : Int32)), (0, .ref v0)]) dX12_isOwnHere_277 rfl rfl (by decide) rfl ?_
            refine x_iload_n (q := 279) dX12_isOwnHere_278 rfl rfl ?_
            cases H
            exact x_end ⟨(Or.inl rfl), dX12_isOwnHere_279, rfl, rfl⟩
          · refine x_if_eq_f (q := 272) dX12_isOwnHere_269 (t := 276) (by decide) rfl g26 ?_
            refine x_sub (ls2 := []) [] rfl ?_
            exact s_X12_isOwnHere_b272 r22.2 n25 H
        · refine x_if_ne_t dX12_isOwnHere_258 (q := 272) (by decide) g20 ?_
          refine x_sub (ls2 := []) [] rfl ?_
          exact s_X12_isOwnHere_b272 r16.2 n19 H
      · refine x_if_ne_t dX12_isOwnHere_247 (q := 272) (by decide) g14 ?_
        refine x_sub (ls2 := []) [] rfl ?_
        exact s_X12_isOwnHere_b272 r10.2 n13 H
    · refine x_if_ne_t dX12_isOwnHere_236 (q := 272) (by decide) g8 ?_
      refine x_sub (ls2 := []) [] rfl ?_
      exact s_X12_isOwnHere_b272 r4.2 n7 H
  · refine x_if_ne_t dX12_isOwnHere_225 (q := 272) (by decide) g1 ?_
    refine x_sub (ls2 := []) [] rfl ?_
    exact s_X12_isOwnHere_b272 h hn H
def f_X12_isOwnHere_b218 (h : KH) (v0 : Nat) : Option (Int32 × KH) :=
  f_X12_isOwnHere_b223 h v0 (1 : Int32)
set_option maxHeartbeats 4000000 in
set_option maxRecDepth 100000 in
theorem s_X12_isOwnHere_b218 {Z : Nat → (Nat → Nat) → State → Prop} (h : KH) (v0 : Nat) {t : Int32 × KH} (hn : h.1 = 243) (H : f_X12_isOwnHere_b218 h v0 = some t) : KX Z RX12 cX12_isOwnHere 2 false 3 (KRz cX12_isOwnHere t.1 t.2) 218 [(0, .ref v0)] [] h := by
  unfold f_X12_isOwnHere_b218 at H
  refine x_iconst (q := 219) (v := (1 : Int32)) dX12_isOwnHere_218 rfl (by decide) ?_
  refine x_goto dX12_isOwnHere_219 (q := 223) (by decide) ?_
  refine x_sub (ls2 := [(0, .ref v0)]) [0] rfl ?_
  exact s_X12_isOwnHere_b223 h v0 (1 : Int32) hn H
def f_X12_isOwnHere_b147 (h : KH) (v0 : Nat) (w0 : Int32) : Option (Int32 × KH) :=
  if w0 = 0 then
  if kkind v0 = 12 then if (kR h v0 22) < 999999 then kb (f_X12_isHere h v0 (kR h v0 22)) fun r4 =>
  if r4.1 = 0 then
  if (kR r4.2 v0 23) < 999999 then kb (f_X12_isHere r4.2 v0 (kR r4.2 v0 23)) fun r10 =>
  if r10.1 = 0 then
  if (kR r10.2 v0 24) < 999999 then kb (f_X12_isHere r10.2 v0 (kR r10.2 v0 24)) fun r16 =>
  if r16.1 = 0 then
  if (kR r16.2 v0 25) < 999999 then kb (f_X12_isHere r16.2 v0 (kR r16.2 v0 25)) fun r22 =>
  if r22.1 = 0 then
  if (kR r22.2 v0 26) < 999999 then kb (f_X12_isHere r22.2 v0 (kR r22.2 v0 26)) fun r28 =>
  if r28.1 = 0 then
  if (kR r28.2 v0 27) < 999999 then kb (f_X12_isHere r28.2 v0 (kR r28.2 v0 27)) fun r34 =>
  if r34.1 = 0 then
  f_X12_isOwnHere_b223 r34.2 v0 (0 : Int32)
  else
  f_X12_isOwnHere_b218 r34.2 v0 else none
  else
  f_X12_isOwnHere_b218 r28.2 v0 else none
  else
  f_X12_isOwnHere_b218 r22.2 v0 else none
  else
  f_X12_isOwnHere_b218 r16.2 v0 else none
  else
  f_X12_isOwnHere_b218 r10.2 v0 else none
  else
  f_X12_isOwnHere_b218 r4.2 v0 else none else none
  else
  f_X12_isOwnHere_b218 h v0
set_option maxHeartbeats 4000000 in
set_option maxRecDepth 100000 in
theorem s_X12_isOwnHere_b147 {Z : Nat → (Nat → Nat) → State → Prop} (h : KH) (v0 : Nat) (w0 : Int32) {t : Int32 × KH} (hn : h.1 = 243) (H : f_X12_isOwnHere_b147 h v0 w0 = some t) : KX Z RX12 cX12_isOwnHere 2 false 3 (KRz cX12_isOwnHere t.1 t.2) 147 [(0, .ref v0)] [.int w0] h := by
  unfold f_X12_isOwnHere_b147 at H
  refine x_istore_n (q := 148) (i := 1) (ls2 := [(1, .int w0), (0, .ref v0)]) dX12_isOwnHere_147 rfl rfl (by decide) rfl ?_
  refine x_iload_n (q := 149) dX12_isOwnHere_148 rfl rfl ?_
  replace H := kite H; rcases H with ⟨g1, H⟩ | ⟨g1, H⟩
  · refine x_if_ne_f (q := 152) dX12_isOwnHere_149 (t := 218) (by decide) rfl g1 ?_
    refine x_aload_n (q := 153) dX12_isOwnHere_152 rfl rfl ?_
    refine x_aload_n (q := 154) dX12_isOwnHere_153 rfl rfl ?_
    replace H := kif H; obtain ⟨g2, H⟩ := H
    replace H := kif H; obtain ⟨g3, H⟩ := H
    refine x_getR (q := 157) dX12_isOwnHere_154 rfl kl_RX12_57 rfl (k243 g2 (by decide) hn) g3 ?_
    replace H := kbe H; obtain ⟨r4, c5, H⟩ := H
    have m6 := s_X12_isHere (Z := Z) h v0 (kR h v0 22) hn c5
    refine x_callV (q := 160) (as := [.ref (kR h v0 22)]) (rest := []) dX12_isOwnHere_157 rfl kc_RX12_253 kh_X12_isHere (by decide) (Nat.le_of_ble_eq_true rfl) m6 (ci := 12) (by exact ⟨rfl, by decide⟩) (k243 g2 (by decide) hn) ?_
    have n7 : (r4.2).1 = 243 := m6.1.full hn
    replace H := kite H; rcases H with ⟨g8, H⟩ | ⟨g8, H⟩
    · refine x_if_ne_f (q := 163) dX12_isOwnHere_160 (t := 218) (by decide) rfl g8 ?_
      refine x_aload_n (q := 164) dX12_isOwnHere_163 rfl rfl ?_
      refine x_aload_n (q := 165) dX12_isOwnHere_164 rfl rfl ?_
      replace H := kif H; obtain ⟨g9, H⟩ := H
      refine x_getR (q := 168) dX12_isOwnHere_165 rfl kl_RX12_60 rfl (k243 g2 (by decide) n7) g9 ?_
      replace H := kbe H; obtain ⟨r10, c11, H⟩ := H
      have m12 := s_X12_isHere (Z := Z) r4.2 v0 (kR r4.2 v0 23) n7 c11
      refine x_callV (q := 171) (as := [.ref (kR r4.2 v0 23)]) (rest := []) dX12_isOwnHere_168 rfl kc_RX12_253 kh_X12_isHere (by decide) (Nat.le_of_ble_eq_true rfl) m12 (ci := 12) (by exact ⟨rfl, by decide⟩) (k243 g2 (by decide) n7) ?_
      have n13 : (r10.2).1 = 243 := m12.1.full n7
      replace H := kite H; rcases H with ⟨g14, H⟩ | ⟨g14, H⟩
      · refine x_if_ne_f (q := 174) dX12_isOwnHere_171 (t := 218) (by decide) rfl g14 ?_
        refine x_aload_n (q := 175) dX12_isOwnHere_174 rfl rfl ?_
        refine x_aload_n (q := 176) dX12_isOwnHere_175 rfl rfl ?_
        replace H := kif H; obtain ⟨g15, H⟩ := H
        refine x_getR (q := 179) dX12_isOwnHere_176 rfl kl_RX12_63 rfl (k243 g2 (by decide) n13) g15 ?_
        replace H := kbe H; obtain ⟨r16, c17, H⟩ := H
        have m18 := s_X12_isHere (Z := Z) r10.2 v0 (kR r10.2 v0 24) n13 c17
        refine x_callV (q := 182) (as := [.ref (kR r10.2 v0 24)]) (rest := []) dX12_isOwnHere_179 rfl kc_RX12_253 kh_X12_isHere (by decide) (Nat.le_of_ble_eq_true rfl) m18 (ci := 12) (by exact ⟨rfl, by decide⟩) (k243 g2 (by decide) n13) ?_
        have n19 : (r16.2).1 = 243 := m18.1.full n13
        replace H := kite H; rcases H with ⟨g20, H⟩ | ⟨g20, H⟩
        · refine x_if_ne_f (q := 185) dX12_isOwnHere_182 (t := 218) (by decide) rfl g20 ?_
          refine x_aload_n (q := 186) dX12_isOwnHere_185 rfl rfl ?_
          refine x_aload_n (q := 187) dX12_isOwnHere_186 rfl rfl ?_
          replace H := kif H; obtain ⟨g21, H⟩ := H
          refine x_getR (q := 190) dX12_isOwnHere_187 rfl kl_RX12_66 rfl (k243 g2 (by decide) n19) g21 ?_
          replace H := kbe H; obtain ⟨r22, c23, H⟩ := H
          have m24 := s_X12_isHere (Z := Z) r16.2 v0 (kR r16.2 v0 25) n19 c23
          refine x_callV (q := 193) (as := [.ref (kR r16.2 v0 25)]) (rest := []) dX12_isOwnHere_190 rfl kc_RX12_253 kh_X12_isHere (by decide) (Nat.le_of_ble_eq_true rfl) m24 (ci := 12) (by exact ⟨rfl, by decide⟩) (k243 g2 (by decide) n19) ?_
          have n25 : (r22.2).1 = 243 := m24.1.full n19
          replace H := kite H; rcases H with ⟨g26, H⟩ | ⟨g26, H⟩
          · refine x_if_ne_f (q := 196) dX12_isOwnHere_193 (t := 218) (by decide) rfl g26 ?_
            refine x_aload_n (q := 197) dX12_isOwnHere_196 rfl rfl ?_
            refine x_aload_n (q := 198) dX12_isOwnHere_197 rfl rfl ?_
            replace H := kif H; obtain ⟨g27, H⟩ := H
            refine x_getR (q := 201) dX12_isOwnHere_198 rfl kl_RX12_69 rfl (k243 g2 (by decide) n25) g27 ?_
            replace H := kbe H; obtain ⟨r28, c29, H⟩ := H
            have m30 := s_X12_isHere (Z := Z) r22.2 v0 (kR r22.2 v0 26) n25 c29
            refine x_callV (q := 204) (as := [.ref (kR r22.2 v0 26)]) (rest := []) dX12_isOwnHere_201 rfl kc_RX12_253 kh_X12_isHere (by decide) (Nat.le_of_ble_eq_true rfl) m30 (ci := 12) (by exact ⟨rfl, by decide⟩) (k243 g2 (by decide) n25) ?_
            have n31 : (r28.2).1 = 243 := m30.1.full n25
            replace H := kite H; rcases H with ⟨g32, H⟩ | ⟨g32, H⟩
            · refine x_if_ne_f (q := 207) dX12_isOwnHere_204 (t := 218) (by decide) rfl g32 ?_
              refine x_aload_n (q := 208) dX12_isOwnHere_207 rfl rfl ?_
              refine x_aload_n (q := 209) dX12_isOwnHere_208 rfl rfl ?_
              replace H := kif H; obtain ⟨g33, H⟩ := H
              refine x_getR (q := 212) dX12_isOwnHere_209 rfl kl_RX12_72 rfl (k243 g2 (by decide) n31) g33 ?_
              replace H := kbe H; obtain ⟨r34, c35, H⟩ := H
              have m36 := s_X12_isHere (Z := Z) r28.2 v0 (kR r28.2 v0 27) n31 c35
              refine x_callV (q := 215) (as := [.ref (kR r28.2 v0 27)]) (rest := []) dX12_isOwnHere_212 rfl kc_RX12_253 kh_X12_isHere (by decide) (Nat.le_of_ble_eq_true rfl) m36 (ci := 12) (by exact ⟨rfl, by decide⟩) (k243 g2 (by decide) n31) ?_
              have n37 : (r34.2).1 = 243 := m36.1.full n31
              replace H := kite H; rcases H with ⟨g38, H⟩ | ⟨g38, H⟩
              · refine x_if_eq_t dX12_isOwnHere_215 (q := 222) (by decide) g38 ?_
                refine x_iconst (q := 223) (v := (0 : Int32)) dX12_isOwnHere_222 rfl (by decide) ?_
                refine x_sub (ls2 := [(0, .ref v0)]) [1] rfl ?_
                exact s_X12_isOwnHere_b223 r34.2 v0 (0 : Int32) n37 H
              · refine x_if_eq_f (q := 218) dX12_isOwnHere_215 (t := 222) (by decide) rfl g38 ?_
                refine x_sub (ls2 := [(0, .ref v0)]) [1] rfl ?_
                exact s_X12_isOwnHere_b218 r34.2 v0 n37 H
            · refine x_if_ne_t dX12_isOwnHere_204 (q := 218) (by decide) g32 ?_
              refine x_sub (ls2 := [(0, .ref v0)]) [1] rfl ?_
              exact s_X12_isOwnHere_b218 r28.2 v0 n31 H
          · refine x_if_ne_t dX12_isOwnHere_193 (q := 218) (by decide) g26 ?_
            refine x_sub (ls2 := [(0, .ref v0)]) [1] rfl ?_
            exact s_X12_isOwnHere_b218 r22.2 v0 n25 H
        · refine x_if_ne_t dX12_isOwnHere_182 (q := 218) (by decide) g20 ?_
          refine x_sub (ls2 := [(0, .ref v0)]) [1] rfl ?_
          exact s_X12_isOwnHere_b218 r16.2 v0 n19 H
      · refine x_if_ne_t dX12_isOwnHere_171 (q := 218) (by decide) g14 ?_
        refine x_sub (ls2 := [(0, .ref v0)]) [1] rfl ?_
        exact s_X12_isOwnHere_b218 r10.2 v0 n13 H
    · refine x_if_ne_t dX12_isOwnHere_160 (q := 218) (by decide) g8 ?_
      refine x_sub (ls2 := [(0, .ref v0)]) [1] rfl ?_
      exact s_X12_isOwnHere_b218 r4.2 v0 n7 H
  · refine x_if_ne_t dX12_isOwnHere_149 (q := 218) (by decide) g1 ?_
    refine x_sub (ls2 := [(0, .ref v0)]) [1] rfl ?_
    exact s_X12_isOwnHere_b218 h v0 hn H
def f_X12_isOwnHere_b142 (h : KH) (v0 : Nat) : Option (Int32 × KH) :=
  f_X12_isOwnHere_b147 h v0 (1 : Int32)
set_option maxHeartbeats 4000000 in
set_option maxRecDepth 100000 in
theorem s_X12_isOwnHere_b142 {Z : Nat → (Nat → Nat) → State → Prop} (h : KH) (v0 : Nat) {t : Int32 × KH} (hn : h.1 = 243) (H : f_X12_isOwnHere_b142 h v0 = some t) : KX Z RX12 cX12_isOwnHere 2 false 3 (KRz cX12_isOwnHere t.1 t.2) 142 [(0, .ref v0)] [] h := by
  unfold f_X12_isOwnHere_b142 at H
  refine x_iconst (q := 143) (v := (1 : Int32)) dX12_isOwnHere_142 rfl (by decide) ?_
  refine x_goto dX12_isOwnHere_143 (q := 147) (by decide) ?_
  refine x_sub (ls2 := [(0, .ref v0)]) [0] rfl ?_
  exact s_X12_isOwnHere_b147 h v0 (1 : Int32) hn H
def f_X12_isOwnHere_b71 (h : KH) (v0 : Nat) (w0 : Int32) : Option (Int32 × KH) :=
  if w0 = 0 then
  if kkind v0 = 12 then if (kR h v0 16) < 999999 then kb (f_X12_isHere h v0 (kR h v0 16)) fun r4 =>
  if r4.1 = 0 then
  if (kR r4.2 v0 17) < 999999 then kb (f_X12_isHere r4.2 v0 (kR r4.2 v0 17)) fun r10 =>
  if r10.1 = 0 then
  if (kR r10.2 v0 18) < 999999 then kb (f_X12_isHere r10.2 v0 (kR r10.2 v0 18)) fun r16 =>
  if r16.1 = 0 then
  if (kR r16.2 v0 19) < 999999 then kb (f_X12_isHere r16.2 v0 (kR r16.2 v0 19)) fun r22 =>
  if r22.1 = 0 then
  if (kR r22.2 v0 20) < 999999 then kb (f_X12_isHere r22.2 v0 (kR r22.2 v0 20)) fun r28 =>
  if r28.1 = 0 then
  if (kR r28.2 v0 21) < 999999 then kb (f_X12_isHere r28.2 v0 (kR r28.2 v0 21)) fun r34 =>
  if r34.1 = 0 then
  f_X12_isOwnHere_b147 r34.2 v0 (0 : Int32)
  else
  f_X12_isOwnHere_b142 r34.2 v0 else none
  else
  f_X12_isOwnHere_b142 r28.2 v0 else none
  else
  f_X12_isOwnHere_b142 r22.2 v0 else none
  else
  f_X12_isOwnHere_b142 r16.2 v0 else none
  else
  f_X12_isOwnHere_b142 r10.2 v0 else none
  else
  f_X12_isOwnHere_b142 r4.2 v0 else none else none
  else
  f_X12_isOwnHere_b142 h v0
set_option maxHeartbeats 4000000 in
set_option maxRecDepth 100000 in
theorem s_X12_isOwnHere_b71 {Z : Nat → (Nat → Nat) → State → Prop} (h : KH) (v0 : Nat) (w0 : Int32) {t : Int32 × KH} (hn : h.1 = 243) (H : f_X12_isOwnHere_b71 h v0 w0 = some t) : KX Z RX12 cX12_isOwnHere 2 false 3 (KRz cX12_isOwnHere t.1 t.2) 71 [(0, .ref v0)] [.int w0] h := by
  unfold f_X12_isOwnHere_b71 at H
  refine x_istore_n (q := 72) (i := 1) (ls2 := [(1, .int w0), (0, .ref v0)]) dX12_isOwnHere_71 rfl rfl (by decide) rfl ?_
  refine x_iload_n (q := 73) dX12_isOwnHere_72 rfl rfl ?_
  replace H := kite H; rcases H with ⟨g1, H⟩ | ⟨g1, H⟩
  · refine x_if_ne_f (q := 76) dX12_isOwnHere_73 (t := 142) (by decide) rfl g1 ?_
    refine x_aload_n (q := 77) dX12_isOwnHere_76 rfl rfl ?_
    refine x_aload_n (q := 78) dX12_isOwnHere_77 rfl rfl ?_
    replace H := kif H; obtain ⟨g2, H⟩ := H
    replace H := kif H; obtain ⟨g3, H⟩ := H
    refine x_getR (q := 81) dX12_isOwnHere_78 rfl kl_RX12_39 rfl (k243 g2 (by decide) hn) g3 ?_
    replace H := kbe H; obtain ⟨r4, c5, H⟩ := H
    have m6 := s_X12_isHere (Z := Z) h v0 (kR h v0 16) hn c5
    refine x_callV (q := 84) (as := [.ref (kR h v0 16)]) (rest := []) dX12_isOwnHere_81 rfl kc_RX12_253 kh_X12_isHere (by decide) (Nat.le_of_ble_eq_true rfl) m6 (ci := 12) (by exact ⟨rfl, by decide⟩) (k243 g2 (by decide) hn) ?_
    have n7 : (r4.2).1 = 243 := m6.1.full hn
    replace H := kite H; rcases H with ⟨g8, H⟩ | ⟨g8, H⟩
    · refine x_if_ne_f (q := 87) dX12_isOwnHere_84 (t := 142) (by decide) rfl g8 ?_
      refine x_aload_n (q := 88) dX12_isOwnHere_87 rfl rfl ?_
      refine x_aload_n (q := 89) dX12_isOwnHere_88 rfl rfl ?_
      replace H := kif H; obtain ⟨g9, H⟩ := H
      refine x_getR (q := 92) dX12_isOwnHere_89 rfl kl_RX12_42 rfl (k243 g2 (by decide) n7) g9 ?_
      replace H := kbe H; obtain ⟨r10, c11, H⟩ := H
      have m12 := s_X12_isHere (Z := Z) r4.2 v0 (kR r4.2 v0 17) n7 c11
      refine x_callV (q := 95) (as := [.ref (kR r4.2 v0 17)]) (rest := []) dX12_isOwnHere_92 rfl kc_RX12_253 kh_X12_isHere (by decide) (Nat.le_of_ble_eq_true rfl) m12 (ci := 12) (by exact ⟨rfl, by decide⟩) (k243 g2 (by decide) n7) ?_
      have n13 : (r10.2).1 = 243 := m12.1.full n7
      replace H := kite H; rcases H with ⟨g14, H⟩ | ⟨g14, H⟩
      · refine x_if_ne_f (q := 98) dX12_isOwnHere_95 (t := 142) (by decide) rfl g14 ?_
        refine x_aload_n (q := 99) dX12_isOwnHere_98 rfl rfl ?_
        refine x_aload_n (q := 100) dX12_isOwnHere_99 rfl rfl ?_
        replace H := kif H; obtain ⟨g15, H⟩ := H
        refine x_getR (q := 103) dX12_isOwnHere_100 rfl kl_RX12_45 rfl (k243 g2 (by decide) n13) g15 ?_
        replace H := kbe H; obtain ⟨r16, c17, H⟩ := H
        have m18 := s_X12_isHere (Z := Z) r10.2 v0 (kR r10.2 v0 18) n13 c17
        refine x_callV (q := 106) (as := [.ref (kR r10.2 v0 18)]) (rest := []) dX12_isOwnHere_103 rfl kc_RX12_253 kh_X12_isHere (by decide) (Nat.le_of_ble_eq_true rfl) m18 (ci := 12) (by exact ⟨rfl, by decide⟩) (k243 g2 (by decide) n13) ?_
        have n19 : (r16.2).1 = 243 := m18.1.full n13
        replace H := kite H; rcases H with ⟨g20, H⟩ | ⟨g20, H⟩
        · refine x_if_ne_f (q := 109) dX12_isOwnHere_106 (t := 142) (by decide) rfl g20 ?_
          refine x_aload_n (q := 110) dX12_isOwnHere_109 rfl rfl ?_
          refine x_aload_n (q := 111) dX12_isOwnHere_110 rfl rfl ?_
          replace H := kif H; obtain ⟨g21, H⟩ := H
          refine x_getR (q := 114) dX12_isOwnHere_111 rfl kl_RX12_48 rfl (k243 g2 (by decide) n19) g21 ?_
          replace H := kbe H; obtain ⟨r22, c23, H⟩ := H
          have m24 := s_X12_isHere (Z := Z) r16.2 v0 (kR r16.2 v0 19) n19 c23
          refine x_callV (q := 117) (as := [.ref (kR r16.2 v0 19)]) (rest := []) dX12_isOwnHere_114 rfl kc_RX12_253 kh_X12_isHere (by decide) (Nat.le_of_ble_eq_true rfl) m24 (ci := 12) (by exact ⟨rfl, by decide⟩) (k243 g2 (by decide) n19) ?_
          have n25 : (r22.2).1 = 243 := m24.1.full n19
          replace H := kite H; rcases H with ⟨g26, H⟩ | ⟨g26, H⟩
          · refine x_if_ne_f (q := 120) dX12_isOwnHere_117 (t := 142) (by decide) rfl g26 ?_
            refine x_aload_n (q := 121) dX12_isOwnHere_120 rfl rfl ?_
            refine x_aload_n (q := 122) dX12_isOwnHere_121 rfl rfl ?_
            replace H := kif H; obtain ⟨g27, H⟩ := H
            refine x_getR (q := 125) dX12_isOwnHere_122 rfl kl_RX12_51 rfl (k243 g2 (by decide) n25) g27 ?_
            replace H := kbe H; obtain ⟨r28, c29, H⟩ := H
            have m30 := s_X12_isHere (Z := Z) r22.2 v0 (kR r22.2 v0 20) n25 c29
            refine x_callV (q := 128) (as := [.ref (kR r22.2 v0 20)]) (rest := []) dX12_isOwnHere_125 rfl kc_RX12_253 kh_X12_isHere (by decide) (Nat.le_of_ble_eq_true rfl) m30 (ci := 12) (by exact ⟨rfl, by decide⟩) (k243 g2 (by decide) n25) ?_
            have n31 : (r28.2).1 = 243 := m30.1.full n25
            replace H := kite H; rcases H with ⟨g32, H⟩ | ⟨g32, H⟩
            · refine x_if_ne_f (q := 131) dX12_isOwnHere_128 (t := 142) (by decide) rfl g32 ?_
              refine x_aload_n (q := 132) dX12_isOwnHere_131 rfl rfl ?_
              refine x_aload_n (q := 133) dX12_isOwnHere_132 rfl rfl ?_
              replace H := kif H; obtain ⟨g33, H⟩ := H
              refine x_getR (q := 136) dX12_isOwnHere_133 rfl kl_RX12_54 rfl (k243 g2 (by decide) n31) g33 ?_
              replace H := kbe H; obtain ⟨r34, c35, H⟩ := H
              have m36 := s_X12_isHere (Z := Z) r28.2 v0 (kR r28.2 v0 21) n31 c35
              refine x_callV (q := 139) (as := [.ref (kR r28.2 v0 21)]) (rest := []) dX12_isOwnHere_136 rfl kc_RX12_253 kh_X12_isHere (by decide) (Nat.le_of_ble_eq_true rfl) m36 (ci := 12) (by exact ⟨rfl, by decide⟩) (k243 g2 (by decide) n31) ?_
              have n37 : (r34.2).1 = 243 := m36.1.full n31
              replace H := kite H; rcases H with ⟨g38, H⟩ | ⟨g38, H⟩
              · refine x_if_eq_t dX12_isOwnHere_139 (q := 146) (by decide) g38 ?_
                refine x_iconst (q := 147) (v := (0 : Int32)) dX12_isOwnHere_146 rfl (by decide) ?_
                refine x_sub (ls2 := [(0, .ref v0)]) [1] rfl ?_
                exact s_X12_isOwnHere_b147 r34.2 v0 (0 : Int32) n37 H
              · refine x_if_eq_f (q := 142) dX12_isOwnHere_139 (t := 146) (by decide) rfl g38 ?_
                refine x_sub (ls2 := [(0, .ref v0)]) [1] rfl ?_
                exact s_X12_isOwnHere_b142 r34.2 v0 n37 H
            · refine x_if_ne_t dX12_isOwnHere_128 (q := 142) (by decide) g32 ?_
              refine x_sub (ls2 := [(0, .ref v0)]) [1] rfl ?_
              exact s_X12_isOwnHere_b142 r28.2 v0 n31 H
          · refine x_if_ne_t dX12_isOwnHere_117 (q := 142) (by decide) g26 ?_
            refine x_sub (ls2 := [(0, .ref v0)]) [1] rfl ?_
            exact s_X12_isOwnHere_b142 r22.2 v0 n25 H
        · refine x_if_ne_t dX12_isOwnHere_106 (q := 142) (by decide) g20 ?_
          refine x_sub (ls2 := [(0, .ref v0)]) [1] rfl ?_
          exact s_X12_isOwnHere_b142 r16.2 v0 n19 H
      · refine x_if_ne_t dX12_isOwnHere_95 (q := 142) (by decide) g14 ?_
        refine x_sub (ls2 := [(0, .ref v0)]) [1] rfl ?_
        exact s_X12_isOwnHere_b142 r10.2 v0 n13 H
    · refine x_if_ne_t dX12_isOwnHere_84 (q := 142) (by decide) g8 ?_
      refine x_sub (ls2 := [(0, .ref v0)]) [1] rfl ?_
      exact s_X12_isOwnHere_b142 r4.2 v0 n7 H
  · refine x_if_ne_t dX12_isOwnHere_73 (q := 142) (by decide) g1 ?_
    refine x_sub (ls2 := [(0, .ref v0)]) [1] rfl ?_
    exact s_X12_isOwnHere_b142 h v0 hn H
def f_X12_isOwnHere_b66 (h : KH) (v0 : Nat) : Option (Int32 × KH) :=
  f_X12_isOwnHere_b71 h v0 (1 : Int32)
set_option maxHeartbeats 4000000 in
set_option maxRecDepth 100000 in
theorem s_X12_isOwnHere_b66 {Z : Nat → (Nat → Nat) → State → Prop} (h : KH) (v0 : Nat) {t : Int32 × KH} (hn : h.1 = 243) (H : f_X12_isOwnHere_b66 h v0 = some t) : KX Z RX12 cX12_isOwnHere 2 false 3 (KRz cX12_isOwnHere t.1 t.2) 66 [(0, .ref v0)] [] h := by
  unfold f_X12_isOwnHere_b66 at H
  refine x_iconst (q := 67) (v := (1 : Int32)) dX12_isOwnHere_66 rfl (by decide) ?_
  refine x_goto dX12_isOwnHere_67 (q := 71) (by decide) ?_
  refine x_sub (ls2 := [(0, .ref v0)]) [0] rfl ?_
  exact s_X12_isOwnHere_b71 h v0 (1 : Int32) hn H
def f_X12_isOwnHere (h : KH) (v0 : Nat) : Option (Int32 × KH) :=
  if kkind v0 = 12 then if (kR h v0 10) < 999999 then kb (f_X12_isHere h v0 (kR h v0 10)) fun r3 =>
  if r3.1 = 0 then
  if (kR r3.2 v0 11) < 999999 then kb (f_X12_isHere r3.2 v0 (kR r3.2 v0 11)) fun r9 =>
  if r9.1 = 0 then
  if (kR r9.2 v0 12) < 999999 then kb (f_X12_isHere r9.2 v0 (kR r9.2 v0 12)) fun r15 =>
  if r15.1 = 0 then
  if (kR r15.2 v0 13) < 999999 then kb (f_X12_isHere r15.2 v0 (kR r15.2 v0 13)) fun r21 =>
  if r21.1 = 0 then
  if (kR r21.2 v0 14) < 999999 then kb (f_X12_isHere r21.2 v0 (kR r21.2 v0 14)) fun r27 =>
  if r27.1 = 0 then
  if (kR r27.2 v0 15) < 999999 then kb (f_X12_isHere r27.2 v0 (kR r27.2 v0 15)) fun r33 =>
  if r33.1 = 0 then
  f_X12_isOwnHere_b71 r33.2 v0 (0 : Int32)
  else
  f_X12_isOwnHere_b66 r33.2 v0 else none
  else
  f_X12_isOwnHere_b66 r27.2 v0 else none
  else
  f_X12_isOwnHere_b66 r21.2 v0 else none
  else
  f_X12_isOwnHere_b66 r15.2 v0 else none
  else
  f_X12_isOwnHere_b66 r9.2 v0 else none
  else
  f_X12_isOwnHere_b66 r3.2 v0 else none else none
set_option maxHeartbeats 4000000 in
set_option maxRecDepth 100000 in
theorem s0_X12_isOwnHere {Z : Nat → (Nat → Nat) → State → Prop} (h : KH) (v0 : Nat) {t : Int32 × KH} (hn : h.1 = 243) (H : f_X12_isOwnHere h v0 = some t) : KX Z RX12 cX12_isOwnHere 2 false 3 (KRz cX12_isOwnHere t.1 t.2) 0 [(0, .ref v0)] [] h := by
  unfold f_X12_isOwnHere at H
  refine x_aload_n (q := 1) dX12_isOwnHere_0 rfl rfl ?_
  refine x_aload_n (q := 2) dX12_isOwnHere_1 rfl rfl ?_
  replace H := kif H; obtain ⟨g1, H⟩ := H
  replace H := kif H; obtain ⟨g2, H⟩ := H
  refine x_getR (q := 5) dX12_isOwnHere_2 rfl kl_RX12_20 rfl (k243 g1 (by decide) hn) g2 ?_
  replace H := kbe H; obtain ⟨r3, c4, H⟩ := H
  have m5 := s_X12_isHere (Z := Z) h v0 (kR h v0 10) hn c4
  refine x_callV (q := 8) (as := [.ref (kR h v0 10)]) (rest := []) dX12_isOwnHere_5 rfl kc_RX12_253 kh_X12_isHere (by decide) (Nat.le_of_ble_eq_true rfl) m5 (ci := 12) (by exact ⟨rfl, by decide⟩) (k243 g1 (by decide) hn) ?_
  have n6 : (r3.2).1 = 243 := m5.1.full hn
  replace H := kite H; rcases H with ⟨g7, H⟩ | ⟨g7, H⟩
  · refine x_if_ne_f (q := 11) dX12_isOwnHere_8 (t := 66) (by decide) rfl g7 ?_
    refine x_aload_n (q := 12) dX12_isOwnHere_11 rfl rfl ?_
    refine x_aload_n (q := 13) dX12_isOwnHere_12 rfl rfl ?_
    replace H := kif H; obtain ⟨g8, H⟩ := H
    refine x_getR (q := 16) dX12_isOwnHere_13 rfl kl_RX12_24 rfl (k243 g1 (by decide) n6) g8 ?_
    replace H := kbe H; obtain ⟨r9, c10, H⟩ := H
    have m11 := s_X12_isHere (Z := Z) r3.2 v0 (kR r3.2 v0 11) n6 c10
    refine x_callV (q := 19) (as := [.ref (kR r3.2 v0 11)]) (rest := []) dX12_isOwnHere_16 rfl kc_RX12_253 kh_X12_isHere (by decide) (Nat.le_of_ble_eq_true rfl) m11 (ci := 12) (by exact ⟨rfl, by decide⟩) (k243 g1 (by decide) n6) ?_
    have n12 : (r9.2).1 = 243 := m11.1.full n6
    replace H := kite H; rcases H with ⟨g13, H⟩ | ⟨g13, H⟩
    · refine x_if_ne_f (q := 22) dX12_isOwnHere_19 (t := 66) (by decide) rfl g13 ?_
      refine x_aload_n (q := 23) dX12_isOwnHere_22 rfl rfl ?_
      refine x_aload_n (q := 24) dX12_isOwnHere_23 rfl rfl ?_
      replace H := kif H; obtain ⟨g14, H⟩ := H
      refine x_getR (q := 27) dX12_isOwnHere_24 rfl kl_RX12_27 rfl (k243 g1 (by decide) n12) g14 ?_
      replace H := kbe H; obtain ⟨r15, c16, H⟩ := H
      have m17 := s_X12_isHere (Z := Z) r9.2 v0 (kR r9.2 v0 12) n12 c16
      refine x_callV (q := 30) (as := [.ref (kR r9.2 v0 12)]) (rest := []) dX12_isOwnHere_27 rfl kc_RX12_253 kh_X12_isHere (by decide) (Nat.le_of_ble_eq_true rfl) m17 (ci := 12) (by exact ⟨rfl, by decide⟩) (k243 g1 (by decide) n12) ?_
      have n18 : (r15.2).1 = 243 := m17.1.full n12
      replace H := kite H; rcases H with ⟨g19, H⟩ | ⟨g19, H⟩
      · refine x_if_ne_f (q := 33) dX12_isOwnHere_30 (t := 66) (by decide) rfl g19 ?_
        refine x_aload_n (q := 34) dX12_isOwnHere_33 rfl rfl ?_
        refine x_aload_n (q := 35) dX12_isOwnHere_34 rfl rfl ?_
        replace H := kif H; obtain ⟨g20, H⟩ := H
        refine x_getR (q := 38) dX12_isOwnHere_35 rfl kl_RX12_30 rfl (k243 g1 (by decide) n18) g20 ?_
        replace H := kbe H; obtain ⟨r21, c22, H⟩ := H
        have m23 := s_X12_isHere (Z := Z) r15.2 v0 (kR r15.2 v0 13) n18 c22
        refine x_callV (q := 41) (as := [.ref (kR r15.2 v0 13)]) (rest := []) dX12_isOwnHere_38 rfl kc_RX12_253 kh_X12_isHere (by decide) (Nat.le_of_ble_eq_true rfl) m23 (ci := 12) (by exact ⟨rfl, by decide⟩) (k243 g1 (by decide) n18) ?_
        have n24 : (r21.2).1 = 243 := m23.1.full n18
        replace H := kite H; rcases H with ⟨g25, H⟩ | ⟨g25, H⟩
        · refine x_if_ne_f (q := 44) dX12_isOwnHere_41 (t := 66) (by decide) rfl g25 ?_
          refine x_aload_n (q := 45) dX12_isOwnHere_44 rfl rfl ?_
          refine x_aload_n (q := 46) dX12_isOwnHere_45 rfl rfl ?_
          replace H := kif H; obtain ⟨g26, H⟩ := H
          refine x_getR (q := 49) dX12_isOwnHere_46 rfl kl_RX12_33 rfl (k243 g1 (by decide) n24) g26 ?_
          replace H := kbe H; obtain ⟨r27, c28, H⟩ := H
          have m29 := s_X12_isHere (Z := Z) r21.2 v0 (kR r21.2 v0 14) n24 c28
          refine x_callV (q := 52) (as := [.ref (kR r21.2 v0 14)]) (rest := []) dX12_isOwnHere_49 rfl kc_RX12_253 kh_X12_isHere (by decide) (Nat.le_of_ble_eq_true rfl) m29 (ci := 12) (by exact ⟨rfl, by decide⟩) (k243 g1 (by decide) n24) ?_
          have n30 : (r27.2).1 = 243 := m29.1.full n24
          replace H := kite H; rcases H with ⟨g31, H⟩ | ⟨g31, H⟩
          · refine x_if_ne_f (q := 55) dX12_isOwnHere_52 (t := 66) (by decide) rfl g31 ?_
            refine x_aload_n (q := 56) dX12_isOwnHere_55 rfl rfl ?_
            refine x_aload_n (q := 57) dX12_isOwnHere_56 rfl rfl ?_
            replace H := kif H; obtain ⟨g32, H⟩ := H
            refine x_getR (q := 60) dX12_isOwnHere_57 rfl kl_RX12_36 rfl (k243 g1 (by decide) n30) g32 ?_
            replace H := kbe H; obtain ⟨r33, c34, H⟩ := H
            have m35 := s_X12_isHere (Z := Z) r27.2 v0 (kR r27.2 v0 15) n30 c34
            refine x_callV (q := 63) (as := [.ref (kR r27.2 v0 15)]) (rest := []) dX12_isOwnHere_60 rfl kc_RX12_253 kh_X12_isHere (by decide) (Nat.le_of_ble_eq_true rfl) m35 (ci := 12) (by exact ⟨rfl, by decide⟩) (k243 g1 (by decide) n30) ?_
            have n36 : (r33.2).1 = 243 := m35.1.full n30
            replace H := kite H; rcases H with ⟨g37, H⟩ | ⟨g37, H⟩
            · refine x_if_eq_t dX12_isOwnHere_63 (q := 70) (by decide) g37 ?_
              refine x_iconst (q := 71) (v := (0 : Int32)) dX12_isOwnHere_70 rfl (by decide) ?_
              refine x_sub (ls2 := [(0, .ref v0)]) [0] rfl ?_
              exact s_X12_isOwnHere_b71 r33.2 v0 (0 : Int32) n36 H
            · refine x_if_eq_f (q := 66) dX12_isOwnHere_63 (t := 70) (by decide) rfl g37 ?_
              refine x_sub (ls2 := [(0, .ref v0)]) [0] rfl ?_
              exact s_X12_isOwnHere_b66 r33.2 v0 n36 H
          · refine x_if_ne_t dX12_isOwnHere_52 (q := 66) (by decide) g31 ?_
            refine x_sub (ls2 := [(0, .ref v0)]) [0] rfl ?_
            exact s_X12_isOwnHere_b66 r27.2 v0 n30 H
        · refine x_if_ne_t dX12_isOwnHere_41 (q := 66) (by decide) g25 ?_
          refine x_sub (ls2 := [(0, .ref v0)]) [0] rfl ?_
          exact s_X12_isOwnHere_b66 r21.2 v0 n24 H
      · refine x_if_ne_t dX12_isOwnHere_30 (q := 66) (by decide) g19 ?_
        refine x_sub (ls2 := [(0, .ref v0)]) [0] rfl ?_
        exact s_X12_isOwnHere_b66 r15.2 v0 n18 H
    · refine x_if_ne_t dX12_isOwnHere_19 (q := 66) (by decide) g13 ?_
      refine x_sub (ls2 := [(0, .ref v0)]) [0] rfl ?_
      exact s_X12_isOwnHere_b66 r9.2 v0 n12 H
  · refine x_if_ne_t dX12_isOwnHere_8 (q := 66) (by decide) g7 ?_
    refine x_sub (ls2 := [(0, .ref v0)]) [0] rfl ?_
    exact s_X12_isOwnHere_b66 r3.2 v0 n6 H
theorem s_X12_isOwnHere {Z : Nat → (Nat → Nat) → State → Prop} (h : KH) (v0 : Nat) {t : Int32 × KH} (hn : h.1 = 243) (H : f_X12_isOwnHere h v0 = some t) : KM Z yX12_isOwnHere cX12_isOwnHere 2 (some .boolean) 3 [.ref v0] h (some (.int t.1)) t.2 :=
  kx_z (own := RX12) (ini := false) (by decide +kernel) (by decide +kernel) rfl (Nat.le_of_ble_eq_true rfl) (s0_X12_isOwnHere h v0 hn H)
theorem dX12_name_0 : decode cX12_name 0 = .ok (.aload_n 0, 1) := by decide +kernel
theorem dX12_name_1 : decode cX12_name 1 = .ok (.getfield 230, 3) := by decide +kernel
theorem dX12_name_4 : decode cX12_name 4 = .ok (.ifCond .eq 5, 3) := by decide +kernel
theorem dX12_name_7 : decode cX12_name 7 = .ok (.lconst 0, 1) := by decide +kernel
theorem dX12_name_8 : decode cX12_name 8 = .ok (.lreturn, 1) := by decide +kernel
theorem dX12_name_9 : decode cX12_name 9 = .ok (.aload_n 0, 1) := by decide +kernel
theorem dX12_name_10 : decode cX12_name 10 = .ok (.invokevirtual 242, 3) := by decide +kernel
theorem dX12_name_13 : decode cX12_name 13 = .ok (.invokestatic 246, 3) := by decide +kernel
theorem dX12_name_16 : decode cX12_name 16 = .ok (.ifCond .eq 21, 3) := by decide +kernel
theorem dX12_name_19 : decode cX12_name 19 = .ok (.aload_n 0, 1) := by decide +kernel
theorem dX12_name_20 : decode cX12_name 20 = .ok (.getfield 236, 3) := by decide +kernel
theorem dX12_name_23 : decode cX12_name 23 = .ok (.aload_n 0, 1) := by decide +kernel
theorem dX12_name_24 : decode cX12_name 24 = .ok (.getfield 250, 3) := by decide +kernel
theorem dX12_name_27 : decode cX12_name 27 = .ok (.if_icmp .eq 10, 3) := by decide +kernel
theorem dX12_name_30 : decode cX12_name 30 = .ok (.aload_n 0, 1) := by decide +kernel
theorem dX12_name_31 : decode cX12_name 31 = .ok (.invokevirtual 274, 3) := by decide +kernel
theorem dX12_name_34 : decode cX12_name 34 = .ok (.ifCond .eq 14, 3) := by decide +kernel
theorem dX12_name_37 : decode cX12_name 37 = .ok (.aload_n 0, 1) := by decide +kernel
theorem dX12_name_38 : decode cX12_name 38 = .ok (.iconst 1, 1) := by decide +kernel
theorem dX12_name_39 : decode cX12_name 39 = .ok (.aload_n 0, 1) := by decide +kernel
theorem dX12_name_40 : decode cX12_name 40 = .ok (.getfield 236, 3) := by decide +kernel
theorem dX12_name_43 : decode cX12_name 43 = .ok (.invokevirtual 260, 3) := by decide +kernel
theorem dX12_name_46 : decode cX12_name 46 = .ok (.lconst 0, 1) := by decide +kernel
theorem dX12_name_47 : decode cX12_name 47 = .ok (.lreturn, 1) := by decide +kernel
theorem dX12_name_48 : decode cX12_name 48 = .ok (.aload_n 0, 1) := by decide +kernel
theorem dX12_name_49 : decode cX12_name 49 = .ok (.aload_n 0, 1) := by decide +kernel
theorem dX12_name_50 : decode cX12_name 50 = .ok (.getfield 236, 3) := by decide +kernel
theorem dX12_name_53 : decode cX12_name 53 = .ok (.putfield 278, 3) := by decide +kernel
theorem dX12_name_56 : decode cX12_name 56 = .ok (.lconst 0, 1) := by decide +kernel
theorem dX12_name_57 : decode cX12_name 57 = .ok (.lstore_n 1, 1) := by decide +kernel
theorem dX12_name_58 : decode cX12_name 58 = .ok (.aload_n 0, 1) := by decide +kernel
theorem dX12_name_59 : decode cX12_name 59 = .ok (.getfield 236, 3) := by decide +kernel
theorem dX12_name_62 : decode cX12_name 62 = .ok (.aload_n 0, 1) := by decide +kernel
theorem dX12_name_63 : decode cX12_name 63 = .ok (.getfield 239, 3) := by decide +kernel
theorem dX12_name_66 : decode cX12_name 66 = .ok (.if_icmp .ge 79, 3) := by decide +kernel
theorem dX12_name_69 : decode cX12_name 69 = .ok (.aload_n 0, 1) := by decide +kernel
theorem dX12_name_70 : decode cX12_name 70 = .ok (.getfield 7, 3) := by decide +kernel
theorem dX12_name_73 : decode cX12_name 73 = .ok (.aload_n 0, 1) := by decide +kernel
theorem dX12_name_74 : decode cX12_name 74 = .ok (.getfield 236, 3) := by decide +kernel
theorem dX12_name_77 : decode cX12_name 77 = .ok (.iaload, 1) := by decide +kernel
theorem dX12_name_78 : decode cX12_name 78 = .ok (.invokestatic 246, 3) := by decide +kernel
theorem dX12_name_81 : decode cX12_name 81 = .ok (.ifCond .eq 64, 3) := by decide +kernel
theorem dX12_name_84 : decode cX12_name 84 = .ok (.aload_n 0, 1) := by decide +kernel
theorem dX12_name_85 : decode cX12_name 85 = .ok (.getfield 236, 3) := by decide +kernel
theorem dX12_name_88 : decode cX12_name 88 = .ok (.aload_n 0, 1) := by decide +kernel
theorem dX12_name_89 : decode cX12_name 89 = .ok (.getfield 278, 3) := by decide +kernel
theorem dX12_name_92 : decode cX12_name 92 = .ok (.isub, 1) := by decide +kernel
theorem dX12_name_93 : decode cX12_name 93 = .ok (.bipush 6, 2) := by decide +kernel
theorem dX12_name_95 : decode cX12_name 95 = .ok (.if_icmp .ne 14, 3) := by decide +kernel
theorem dX12_name_98 : decode cX12_name 98 = .ok (.aload_n 0, 1) := by decide +kernel
theorem dX12_name_99 : decode cX12_name 99 = .ok (.iconst 1, 1) := by decide +kernel
theorem dX12_name_100 : decode cX12_name 100 = .ok (.aload_n 0, 1) := by decide +kernel
theorem dX12_name_101 : decode cX12_name 101 = .ok (.getfield 236, 3) := by decide +kernel
theorem dX12_name_104 : decode cX12_name 104 = .ok (.invokevirtual 260, 3) := by decide +kernel
theorem dX12_name_107 : decode cX12_name 107 = .ok (.lconst 0, 1) := by decide +kernel
theorem dX12_name_108 : decode cX12_name 108 = .ok (.lreturn, 1) := by decide +kernel
theorem dX12_name_109 : decode cX12_name 109 = .ok (.ldc2_w 281, 3) := by decide +kernel
theorem dX12_name_112 : decode cX12_name 112 = .ok (.lload_n 1, 1) := by decide +kernel
theorem dX12_name_113 : decode cX12_name 113 = .ok (.lmul, 1) := by decide +kernel
theorem dX12_name_114 : decode cX12_name 114 = .ok (.aload_n 0, 1) := by decide +kernel
theorem dX12_name_115 : decode cX12_name 115 = .ok (.getfield 7, 3) := by decide +kernel
theorem dX12_name_118 : decode cX12_name 118 = .ok (.aload_n 0, 1) := by decide +kernel
theorem dX12_name_119 : decode cX12_name 119 = .ok (.getfield 236, 3) := by decide +kernel
theorem dX12_name_122 : decode cX12_name 122 = .ok (.iaload, 1) := by decide +kernel
theorem dX12_name_123 : decode cX12_name 123 = .ok (.i2l, 1) := by decide +kernel
theorem dX12_name_124 : decode cX12_name 124 = .ok (.ladd, 1) := by decide +kernel
theorem dX12_name_125 : decode cX12_name 125 = .ok (.ldc2_w 283, 3) := by decide +kernel
theorem dX12_name_128 : decode cX12_name 128 = .ok (.lsub, 1) := by decide +kernel
theorem dX12_name_129 : decode cX12_name 129 = .ok (.lconst 1, 1) := by decide +kernel
theorem dX12_name_130 : decode cX12_name 130 = .ok (.ladd, 1) := by decide +kernel
theorem dX12_name_131 : decode cX12_name 131 = .ok (.lstore_n 1, 1) := by decide +kernel
theorem dX12_name_132 : decode cX12_name 132 = .ok (.aload_n 0, 1) := by decide +kernel
theorem dX12_name_133 : decode cX12_name 133 = .ok (.dup, 1) := by decide +kernel
theorem dX12_name_134 : decode cX12_name 134 = .ok (.getfield 236, 3) := by decide +kernel
theorem dX12_name_137 : decode cX12_name 137 = .ok (.iconst 1, 1) := by decide +kernel
theorem dX12_name_138 : decode cX12_name 138 = .ok (.iadd, 1) := by decide +kernel
theorem dX12_name_139 : decode cX12_name 139 = .ok (.putfield 236, 3) := by decide +kernel
theorem dX12_name_142 : decode cX12_name 142 = .ok (.goto (-84), 3) := by decide +kernel
theorem dX12_name_145 : decode cX12_name 145 = .ok (.aload_n 0, 1) := by decide +kernel
theorem dX12_name_146 : decode cX12_name 146 = .ok (.aload_n 0, 1) := by decide +kernel
theorem dX12_name_147 : decode cX12_name 147 = .ok (.getfield 236, 3) := by decide +kernel
theorem dX12_name_150 : decode cX12_name 150 = .ok (.putfield 250, 3) := by decide +kernel
theorem dX12_name_153 : decode cX12_name 153 = .ok (.lload_n 1, 1) := by decide +kernel
theorem dX12_name_154 : decode cX12_name 154 = .ok (.lreturn, 1) := by decide +kernel
theorem kc_RX12_274 : Cond.methodLink RX12 274 yX12_isOwnHere ∈ ktG ∧ (Cond.instanceMethod yX12_isOwnHere ∈ ktG ∧ Cond.selects yX12_isOwnHere.cls yX12_isOwnHere yX12_isOwnHere ∈ ktG) ∧ Cond.initialized yX12_isOwnHere.cls ∈ ktG ∧ Cond.code yX12_isOwnHere cX12_isOwnHere 2 (some .boolean) ∈ ktG := ⟨(kwm 1541 (by decide +kernel) (by decide +kernel)), ⟨(kwm 1543 (by decide +kernel) (by decide +kernel)), (kwm 45 (by decide +kernel) (by decide +kernel))⟩, (kwm 139 (by decide +kernel) (by decide +kernel)), kwm 1544 (by decide +kernel) (by decide +kernel)⟩
theorem kh_X12_isOwnHere : yX12_isOwnHere.cls ≠ "java/lang/invoke/MethodHandle" ∧ yX12_isOwnHere.cls ≠ "java/lang/invoke/VarHandle" ∧ (parseMethodDescriptor yX12_isOwnHere.desc).map (fun d => d.parameters.length) = some 0 := by decide +kernel
theorem kl_RX12_278 : KLk RX12 278 12 32 := ⟨RX12, TX12, 97, rfl, by decide, Or.inl (kwm 1229 (by decide +kernel) (by decide +kernel))⟩
theorem kk_RX12_281 : Jvm.Cond.constantLong RX12 281 (27 : Int64) ∈ ktG := kwm 1545 (by decide +kernel) (by decide +kernel)
theorem kk_RX12_283 : Jvm.Cond.constantLong RX12 283 (97 : Int64) ∈ ktG := kwm 1546 (by decide +kernel) (by decide +kernel)
def f_X12_name_b37 (h : KH) (v0 : Nat) : Option (Int64 × KH) :=
  if kkind v0 = 12 then kb (f_X12_fail h v0 (1 : Int32) (kI h v0 2)) fun r2 =>
  some ((0 : Int64), r2) else none
set_option maxHeartbeats 4000000 in
set_option maxRecDepth 100000 in
theorem s_X12_name_b37 {Z : Nat → (Nat → Nat) → State → Prop} (h : KH) (v0 : Nat) {t : Int64 × KH} (hn : h.1 = 243) (H : f_X12_name_b37 h v0 = some t) : KX Z RX12 cX12_name 3 false 4 (KRl cX12_name t.1 t.2) 37 [(0, .ref v0)] [] h := by
  unfold f_X12_name_b37 at H
  refine x_aload_n (q := 38) dX12_name_37 rfl rfl ?_
  refine x_iconst (q := 39) (v := (1 : Int32)) dX12_name_38 rfl (by decide) ?_
  refine x_aload_n (q := 40) dX12_name_39 rfl rfl ?_
  replace H := kif H; obtain ⟨g1, H⟩ := H
  refine x_getI (q := 43) dX12_name_40 rfl kl_RX12_236 (Or.inl rfl) (k243 g1 (by decide) hn) ?_
  replace H := kbe H; obtain ⟨r2, c3, H⟩ := H
  have m4 := s_X12_fail (Z := Z) h v0 (1 : Int32) (kI h v0 2) hn c3
  refine x_callV (q := 46) (as := [.int (1 : Int32), .int (kI h v0 2)]) (rest := []) dX12_name_43 rfl kc_RX12_260 kh_X12_fail (by decide) (Nat.le_of_ble_eq_true rfl) m4 (ci := 12) (by exact ⟨rfl, by decide⟩) (k243 g1 (by decide) hn) ?_
  have n5 : (r2).1 = 243 := m4.1.full hn
  refine x_lconst (q := 47) (v := (0 : Int64)) dX12_name_46 rfl (by decide) ?_
  cases H
  exact x_end ⟨dX12_name_47, rfl, rfl⟩
def E_X12_name_l58 (v0 : Nat) : ((Int64 × KH) ⊕ (Int64 × KH)) → Nat → List (Nat × Value) → List Value → KH → Prop := Sum.elim (fun (e : Int64 × KH) pc ls st hh => pc = 145 ∧ ls = [(0, .ref v0), (1, .long e.1)] ∧ st = [] ∧ e.2 = hh) (fun o => (KRl cX12_name o.1 o.2))
def B_X12_name_l58 (v0 : Nat) : ((Int64 × KH) ⊕ ((Int64 × KH) ⊕ (Int64 × KH))) → Nat → List (Nat × Value) → List Value → KH → Prop := Sum.elim (fun (s : Int64 × KH) pc ls st hh => pc = 58 ∧ ls = [(0, .ref v0), (1, .long s.1)] ∧ st = [] ∧ hh = s.2) (E_X12_name_l58 v0)
def f_X12_name_l58 (v0 : Nat) (s : Int64 × KH) : Option ((Int64 × KH) ⊕ ((Int64 × KH) ⊕ (Int64 × KH))) :=
  if kkind v0 = 12 then if (kI s.2 v0 3) ≤ (kI s.2 v0 2) then
  some (.inr (.inl (s.1, s.2)))
  else
  if (kR s.2 v0 0) < 999999 then if kkind (kR s.2 v0 0) = 20 then if ((kI s.2 v0 2) < 0 ∨ klen (kR s.2 v0 0) ≤ ((kI s.2 v0 2)).toNatClampNeg) then none else kb (f_X12_isLetter s.2 (kI s.2 (kR s.2 v0 0) (((kI s.2 v0 2)).toNatClampNeg))) fun r6 =>
  if r6 = 0 then
  some (.inr (.inl (s.1, s.2)))
  else
  if ((kI s.2 v0 2) - (kI s.2 v0 32)) = (6 : Int32) then
  kout2 (kb (f_X12_fail s.2 v0 (1 : Int32) (kI s.2 v0 2)) fun r16 =>
  some ((0 : Int64), r16))
  else
  kl (((((27 : Int64) * s.1) + (((kI s.2 (kR s.2 v0 0) (((kI s.2 v0 2)).toNatClampNeg))).toInt64)) - (97 : Int64)) + (1 : Int64)) fun x11 =>
  kl (ksI s.2 v0 2 ((kI s.2 v0 2) + (1 : Int32))) fun h13 =>
  some (.inl (x11, h13)) else none else none else none
set_option maxHeartbeats 4000000 in
set_option maxRecDepth 100000 in
theorem s_X12_name_l58 {Z : Nat → (Nat → Nat) → State → Prop} (v0 : Nat) (s : Int64 × KH) (t : (Int64 × KH) ⊕ ((Int64 × KH) ⊕ (Int64 × KH))) (hn : (s.2).1 = 243) (H : f_X12_name_l58 v0 s = some t) : KX Z RX12 cX12_name 3 false 4 (B_X12_name_l58 v0 t) 58 [(0, .ref v0), (1, .long s.1)] [] s.2 := by
  unfold f_X12_name_l58 at H
  refine x_aload_n (q := 59) dX12_name_58 rfl rfl ?_
  replace H := kif H; obtain ⟨g1, H⟩ := H
  refine x_getI (q := 62) dX12_name_59 rfl kl_RX12_236 (Or.inl rfl) (k243 g1 (by decide) hn) ?_
  refine x_aload_n (q := 63) dX12_name_62 rfl rfl ?_
  refine x_getI (q := 66) dX12_name_63 rfl kl_RX12_239 (Or.inl rfl) (k243 g1 (by decide) hn) ?_
  replace H := kite H; rcases H with ⟨g2, H⟩ | ⟨g2, H⟩
  · refine x_icmp_ge_t dX12_name_66 (q := 145) (by decide) g2 ?_
    cases H
    refine x_sub (ls2 := [(0, .ref v0), (1, .long s.1)]) [0, 1] rfl ?_
    exact x_end (x_cfg rfl)
  · refine x_icmp_ge_f (q := 69) dX12_name_66 (t := 145) (by decide) rfl g2 ?_
    refine x_aload_n (q := 70) dX12_name_69 rfl rfl ?_
    replace H := kif H; obtain ⟨g3, H⟩ := H
    refine x_getR (q := 73) dX12_name_70 rfl kl_RX12_7 rfl (k243 g1 (by decide) hn) g3 ?_
    refine x_aload_n (q := 74) dX12_name_73 rfl rfl ?_
    refine x_getI (q := 77) dX12_name_74 rfl kl_RX12_236 (Or.inl rfl) (k243 g1 (by decide) hn) ?_
    replace H := kif H; obtain ⟨g4, H⟩ := H
    replace H := kifn H; obtain ⟨g5, H⟩ := H
    refine x_iald (q := 78) dX12_name_77 rfl (k243 g4 (by decide) hn) g5 ?_
    replace H := kbe H; obtain ⟨r6, c7, H⟩ := H
    have m8 := s_X12_isLetter (Z := Z) s.2 (kI s.2 (kR s.2 v0 0) (((kI s.2 v0 2)).toNatClampNeg)) hn c7
    refine x_callS (q := 81) (as := [.int (kI s.2 (kR s.2 v0 0) (((kI s.2 v0 2)).toNatClampNeg))]) (rest := []) dX12_name_78 rfl kc_RX12_246 kh_X12_isLetter (by decide) (Nat.le_of_ble_eq_true rfl) m8 ?_
    replace H := kite H; rcases H with ⟨g9, H⟩ | ⟨g9, H⟩
    · refine x_if_eq_t dX12_name_81 (q := 145) (by decide) g9 ?_
      cases H
      refine x_sub (ls2 := [(0, .ref v0), (1, .long s.1)]) [0, 1] rfl ?_
      exact x_end (x_cfg rfl)
    · refine x_if_eq_f (q := 84) dX12_name_81 (t := 145) (by decide) rfl g9 ?_
      refine x_aload_n (q := 85) dX12_name_84 rfl rfl ?_
      refine x_getI (q := 88) dX12_name_85 rfl kl_RX12_236 (Or.inl rfl) (k243 g1 (by decide) hn) ?_
      refine x_aload_n (q := 89) dX12_name_88 rfl rfl ?_
      refine x_getI (q := 92) dX12_name_89 rfl kl_RX12_278 (Or.inl rfl) (k243 g1 (by decide) hn) ?_
      refine x_isub (q := 93) dX12_name_92 rfl ?_
      refine x_bipush (q := 95) (v := (6 : Int32)) dX12_name_93 rfl (by decide) ?_
      replace H := kite H; rcases H with ⟨g10, H⟩ | ⟨g10, H⟩
      · refine x_icmp_ne_f (q := 98) dX12_name_95 (t := 109) (by decide) rfl g10 ?_
        replace H := ko2e H; obtain ⟨o20, H, rfl⟩ := H
        refine x_aload_n (q := 99) dX12_name_98 rfl rfl ?_
        refine x_iconst (q := 100) (v := (1 : Int32)) dX12_name_99 rfl (by decide) ?_
        refine x_aload_n (q := 101) dX12_name_100 rfl rfl ?_
        refine x_getI (q := 104) dX12_name_101 rfl kl_RX12_236 (Or.inl rfl) (k243 g1 (by decide) hn) ?_
        replace H := kbe H; obtain ⟨r16, c17, H⟩ := H
        have m18 := s_X12_fail (Z := Z) s.2 v0 (1 : Int32) (kI s.2 v0 2) hn c17
        refine x_callV (q := 107) (as := [.int (1 : Int32), .int (kI s.2 v0 2)]) (rest := []) dX12_name_104 rfl kc_RX12_260 kh_X12_fail (by decide) (Nat.le_of_ble_eq_true rfl) m18 (ci := 12) (by exact ⟨rfl, by decide⟩) (k243 g1 (by decide) hn) ?_
        have n19 : (r16).1 = 243 := m18.1.full hn
        refine x_lconst (q := 108) (v := (0 : Int64)) dX12_name_107 rfl (by decide) ?_
        cases H
        exact x_end ⟨dX12_name_108, rfl, rfl⟩
      · refine x_icmp_ne_t dX12_name_95 (q := 109) (by decide) g10 ?_
        refine x_ldc2 (q := 112) (v := (27 : Int64)) dX12_name_109 rfl kk_RX12_281 ?_
        refine x_lload_n (q := 113) dX12_name_112 rfl rfl ?_
        refine x_lmul (q := 114) dX12_name_113 rfl ?_
        refine x_aload_n (q := 115) dX12_name_114 rfl rfl ?_
        refine x_getR (q := 118) dX12_name_115 rfl kl_RX12_7 rfl (k243 g1 (by decide) hn) g3 ?_
        refine x_aload_n (q := 119) dX12_name_118 rfl rfl ?_
        refine x_getI (q := 122) dX12_name_119 rfl kl_RX12_236 (Or.inl rfl) (k243 g1 (by decide) hn) ?_
        refine x_iald (q := 123) dX12_name_122 rfl (k243 g4 (by decide) hn) g5 ?_
        refine x_i2l (q := 124) dX12_name_123 rfl ?_
        refine x_ladd (q := 125) dX12_name_124 rfl ?_
        refine x_ldc2 (q := 128) (v := (97 : Int64)) dX12_name_125 rfl kk_RX12_283 ?_
        refine x_lsub (q := 129) dX12_name_128 rfl ?_
        refine x_lconst (q := 130) (v := (1 : Int64)) dX12_name_129 rfl (by decide) ?_
        refine x_ladd (q := 131) dX12_name_130 rfl ?_
        replace H := kle H; obtain ⟨x11, q12, H⟩ := H
        refine x_nmL q12 ?_
        refine x_lstore_n (q := 132) (i := 1) (ls2 := [(1, .long x11), (0, .ref v0)]) dX12_name_131 rfl rfl (by decide) rfl ?_
        refine x_aload_n (q := 133) dX12_name_132 rfl rfl ?_
        refine x_dup (q := 134) dX12_name_133 rfl rfl ?_
        refine x_getI (q := 137) dX12_name_134 rfl kl_RX12_236 (Or.inl rfl) (k243 g1 (by decide) hn) ?_
        refine x_iconst (q := 138) (v := (1 : Int32)) dX12_name_137 rfl (by decide) ?_
        refine x_iadd (q := 139) dX12_name_138 rfl ?_
        replace H := kle H; obtain ⟨h13, q14, H⟩ := H
        refine x_putI (q := 142) dX12_name_139 rfl kl_RX12_236 (Or.inl rfl) rfl (k243 g1 (by decide) hn) ?_
        refine x_nmH q14 ?_
        have n15 : h13.1 = 243 := by rw [q14]; exact hn
        refine x_goto dX12_name_142 (q := 58) (by decide) ?_
        cases H
        refine x_sub (ls2 := [(0, .ref v0), (1, .long x11)]) [1, 0] rfl ?_
        exact x_end (x_cfg rfl)
theorem sl_X12_name_l58 {Z : Nat → (Nat → Nat) → State → Prop} (v0 : Nat) (n : Nat) (s : Int64 × KH) (r : (Int64 × KH) ⊕ (Int64 × KH)) (hn : (s.2).1 = 243) (H : kloop (f_X12_name_l58 v0) n s = some r) : KX Z RX12 cX12_name 3 false 4 (E_X12_name_l58 v0 r) 58 [(0, .ref v0), (1, .long s.1)] [] s.2 :=
  k_loop (ls := (fun (s : Int64 × KH) => ([(0, .ref v0), (1, .long s.1)] : List (Nat × Value)))) (hp := (fun (s : Int64 × KH) => (s.2 : KH))) (G := E_X12_name_l58 v0) (fun s t hn H => s_X12_name_l58 v0 s t hn H) n s r hn H
def f_X12_name_b145 (h : KH) (v0 : Nat) (v1 : Int64) : Option (Int64 × KH) :=
  if kkind v0 = 12 then kl (ksI h v0 4 (kI h v0 2)) fun h2 =>
  some (v1, h2) else none
set_option maxHeartbeats 4000000 in
set_option maxRecDepth 100000 in
theorem s_X12_name_b145 {Z : Nat → (Nat → Nat) → State → Prop} (h : KH) (v0 : Nat) (v1 : Int64) {t : Int64 × KH} (hn : h.1 = 243) (H : f_X12_name_b145 h v0 v1 = some t) : KX Z RX12 cX12_name 3 false 4 (KRl cX12_name t.1 t.2) 145 [(0, .ref v0), (1, .long v1)] [] h := by
  unfold f_X12_name_b145 at H
  refine x_aload_n (q := 146) dX12_name_145 rfl rfl ?_
  refine x_aload_n (q := 147) dX12_name_146 rfl rfl ?_
  replace H := kif H; obtain ⟨g1, H⟩ := H
  refine x_getI (q := 150) dX12_name_147 rfl kl_RX12_236 (Or.inl rfl) (k243 g1 (by decide) hn) ?_
  replace H := kle H; obtain ⟨h2, q3, H⟩ := H
  refine x_putI (q := 153) dX12_name_150 rfl kl_RX12_250 (Or.inl rfl) rfl (k243 g1 (by decide) hn) ?_
  refine x_nmH q3 ?_
  have n4 : h2.1 = 243 := by rw [q3]; exact hn
  refine x_lload_n (q := 154) dX12_name_153 rfl rfl ?_
  cases H
  exact x_end ⟨dX12_name_154, rfl, rfl⟩
def f_X12_name (h : KH) (v0 : Nat) : Option (Int64 × KH) :=
  if kkind v0 = 12 then if (kI h v0 5) = 0 then
  kb (f_X12_look0 h v0) fun r3 =>
  kb (f_X12_isLetter r3.2 r3.1) fun r7 =>
  if r7 = 0 then
  f_X12_name_b37 r3.2 v0
  else
  if (kI r3.2 v0 2) = (kI r3.2 v0 4) then
  f_X12_name_b37 r3.2 v0
  else
  kb (f_X12_isOwnHere r3.2 v0) fun r12 =>
  if r12.1 = 0 then
  kl (ksI r12.2 v0 32 (kI r12.2 v0 2)) fun h17 =>
  kb (kloop (f_X12_name_l58 v0) KF ((0 : Int64), h17)) fun e20 =>
  ksum e20 (fun x23 =>
  f_X12_name_b145 x23.2 v0 x23.1) (fun o24 => some o24)
  else
  f_X12_name_b37 r12.2 v0
  else
  some ((0 : Int64), h) else none
set_option maxHeartbeats 4000000 in
set_option maxRecDepth 100000 in
theorem s0_X12_name {Z : Nat → (Nat → Nat) → State → Prop} (h : KH) (v0 : Nat) {t : Int64 × KH} (hn : h.1 = 243) (H : f_X12_name h v0 = some t) : KX Z RX12 cX12_name 3 false 4 (KRl cX12_name t.1 t.2) 0 [(0, .ref v0)] [] h := by
  unfold f_X12_name at H
  refine x_aload_n (q := 1) dX12_name_0 rfl rfl ?_
  replace H := kif H; obtain ⟨g1, H⟩ := H
  refine x_getI (q := 4) dX12_name_1 rfl kl_RX12_230 (Or.inl rfl) (k243 g1 (by decide) hn) ?_
  replace H := kite H; rcases H with ⟨g2, H⟩ | ⟨g2, H⟩
  · refine x_if_eq_t dX12_name_4 (q := 9) (by decide) g2 ?_
    refine x_aload_n (q := 10) dX12_name_9 rfl rfl ?_
    replace H := kbe H; obtain ⟨r3, c4, H⟩ := H
    have m5 := s_X12_look0 (Z := Z) h v0 hn c4
    refine x_callV (q := 13) (as := []) (rest := []) dX12_name_10 rfl kc_RX12_242 kh_X12_look0 (by decide) (Nat.le_of_ble_eq_true rfl) m5 (ci := 12) (by exact ⟨rfl, by decide⟩) (k243 g1 (by decide) hn) ?_
    have n6 : (r3.2).1 = 243 := m5.1.full hn
    replace H := kbe H; obtain ⟨r7, c8, H⟩ := H
    have m9 := s_X12_isLetter (Z := Z) r3.2 r3.1 n6 c8
    refine x_callS (q := 16) (as := [.int r3.1]) (rest := []) dX12_name_13 rfl kc_RX12_246 kh_X12_isLetter (by decide) (Nat.le_of_ble_eq_true rfl) m9 ?_
    replace H := kite H; rcases H with ⟨g10, H⟩ | ⟨g10, H⟩
    · refine x_if_eq_t dX12_name_16 (q := 37) (by decide) g10 ?_
      refine x_sub (ls2 := [(0, .ref v0)]) [0] rfl ?_
      exact s_X12_name_b37 r3.2 v0 n6 H
    · refine x_if_eq_f (q := 19) dX12_name_16 (t := 37) (by decide) rfl g10 ?_
      refine x_aload_n (q := 20) dX12_name_19 rfl rfl ?_
      refine x_getI (q := 23) dX12_name_20 rfl kl_RX12_236 (Or.inl rfl) (k243 g1 (by decide) n6) ?_
      refine x_aload_n (q := 24) dX12_name_23 rfl rfl ?_
      refine x_getI (q := 27) dX12_name_24 rfl kl_RX12_250 (Or.inl rfl) (k243 g1 (by decide) n6) ?_
      replace H := kite H; rcases H with ⟨g11, H⟩ | ⟨g11, H⟩
      · refine x_icmp_eq_t dX12_name_27 (q := 37) (by decide) g11 ?_
        refine x_sub (ls2 := [(0, .ref v0)]) [0] rfl ?_
        exact s_X12_name_b37 r3.2 v0 n6 H
      · refine x_icmp_eq_f (q := 30) dX12_name_27 (t := 37) (by decide) rfl g11 ?_
        refine x_aload_n (q := 31) dX12_name_30 rfl rfl ?_
        replace H := kbe H; obtain ⟨r12, c13, H⟩ := H
        have m14 := s_X12_isOwnHere (Z := Z) r3.2 v0 n6 c13
        refine x_callV (q := 34) (as := []) (rest := []) dX12_name_31 rfl kc_RX12_274 kh_X12_isOwnHere (by decide) (Nat.le_of_ble_eq_true rfl) m14 (ci := 12) (by exact ⟨rfl, by decide⟩) (k243 g1 (by decide) n6) ?_
        have n15 : (r12.2).1 = 243 := m14.1.full n6
        replace H := kite H; rcases H with ⟨g16, H⟩ | ⟨g16, H⟩
        · refine x_if_eq_t dX12_name_34 (q := 48) (by decide) g16 ?_
          refine x_aload_n (q := 49) dX12_name_48 rfl rfl ?_
          refine x_aload_n (q := 50) dX12_name_49 rfl rfl ?_
          refine x_getI (q := 53) dX12_name_50 rfl kl_RX12_236 (Or.inl rfl) (k243 g1 (by decide) n15) ?_
          replace H := kle H; obtain ⟨h17, q18, H⟩ := H
          refine x_putI (q := 56) dX12_name_53 rfl kl_RX12_278 (Or.inl rfl) rfl (k243 g1 (by decide) n15) ?_
          refine x_nmH q18 ?_
          have n19 : h17.1 = 243 := by rw [q18]; exact n15
          refine x_lconst (q := 57) (v := (0 : Int64)) dX12_name_56 rfl (by decide) ?_
          refine x_lstore_n (q := 58) (i := 1) (ls2 := [(1, .long (0 : Int64)), (0, .ref v0)]) dX12_name_57 rfl rfl (by decide) rfl ?_
          refine x_sub (ls2 := [(0, .ref v0), (1, .long (0 : Int64))]) [1, 0] rfl ?_
          replace H := kbe H; obtain ⟨e20, c21, H⟩ := H
          refine x_app (sl_X12_name_l58 v0 KF ((0 : Int64), h17) e20 n19 c21) fun pc2 ls2 st2 h2 hg m22 => ?_
          replace H := kse H; rcases H with ⟨x23, rfl, H⟩ | ⟨o24, rfl, H⟩
          · obtain ⟨rfl, rfl, rfl, rfl⟩ := hg
            refine x_sub (ls2 := [(0, .ref v0), (1, .long x23.1)]) [0, 1] rfl ?_
            exact s_X12_name_b145 x23.2 v0 x23.1 (m22.full n19) H
          · cases H
            exact x_end hg
        · refine x_if_eq_f (q := 37) dX12_name_34 (t := 48) (by decide) rfl g16 ?_
          refine x_sub (ls2 := [(0, .ref v0)]) [0] rfl ?_
          exact s_X12_name_b37 r12.2 v0 n15 H
  · refine x_if_eq_f (q := 7) dX12_name_4 (t := 9) (by decide) rfl g2 ?_
    refine x_lconst (q := 8) (v := (0 : Int64)) dX12_name_7 rfl (by decide) ?_
    cases H
    exact x_end ⟨dX12_name_8, rfl, rfl⟩
theorem s_X12_name {Z : Nat → (Nat → Nat) → State → Prop} (h : KH) (v0 : Nat) {t : Int64 × KH} (hn : h.1 = 243) (H : f_X12_name h v0 = some t) : KM Z yX12_name cX12_name 3 (some .long) 4 [.ref v0] h (some (.long t.1)) t.2 :=
  kx_l (own := RX12) (ini := false) (by decide +kernel) (by decide +kernel) rfl (Nat.le_of_ble_eq_true rfl) (s0_X12_name h v0 hn H)
theorem dX12_isAllowed_0 : decode cX12_isAllowed 0 = .ok (.aload_n 0, 1) := by decide +kernel
theorem dX12_isAllowed_1 : decode cX12_isAllowed 1 = .ok (.getfield 285, 3) := by decide +kernel
theorem dX12_isAllowed_4 : decode cX12_isAllowed 4 = .ok (.ifCond .eq 16, 3) := by decide +kernel
theorem dX12_isAllowed_7 : decode cX12_isAllowed 7 = .ok (.iload_n 1, 1) := by decide +kernel
theorem dX12_isAllowed_8 : decode cX12_isAllowed 8 = .ok (.iconst 5, 1) := by decide +kernel
theorem dX12_isAllowed_9 : decode cX12_isAllowed 9 = .ok (.if_icmp .ge 7, 3) := by decide +kernel
theorem dX12_isAllowed_12 : decode cX12_isAllowed 12 = .ok (.iconst 1, 1) := by decide +kernel
theorem dX12_isAllowed_13 : decode cX12_isAllowed 13 = .ok (.goto 27, 3) := by decide +kernel
theorem dX12_isAllowed_16 : decode cX12_isAllowed 16 = .ok (.iconst 0, 1) := by decide +kernel
theorem dX12_isAllowed_17 : decode cX12_isAllowed 17 = .ok (.goto 23, 3) := by decide +kernel
theorem dX12_isAllowed_20 : decode cX12_isAllowed 20 = .ok (.iload_n 1, 1) := by decide +kernel
theorem dX12_isAllowed_21 : decode cX12_isAllowed 21 = .ok (.iconst 2, 1) := by decide +kernel
theorem dX12_isAllowed_22 : decode cX12_isAllowed 22 = .ok (.if_icmp .eq 13, 3) := by decide +kernel
theorem dX12_isAllowed_25 : decode cX12_isAllowed 25 = .ok (.iload_n 1, 1) := by decide +kernel
theorem dX12_isAllowed_26 : decode cX12_isAllowed 26 = .ok (.iconst 3, 1) := by decide +kernel
theorem dX12_isAllowed_27 : decode cX12_isAllowed 27 = .ok (.if_icmp .eq 8, 3) := by decide +kernel
theorem dX12_isAllowed_30 : decode cX12_isAllowed 30 = .ok (.iload_n 1, 1) := by decide +kernel
theorem dX12_isAllowed_31 : decode cX12_isAllowed 31 = .ok (.iconst 4, 1) := by decide +kernel
theorem dX12_isAllowed_32 : decode cX12_isAllowed 32 = .ok (.if_icmp .le 7, 3) := by decide +kernel
theorem dX12_isAllowed_35 : decode cX12_isAllowed 35 = .ok (.iconst 1, 1) := by decide +kernel
theorem dX12_isAllowed_36 : decode cX12_isAllowed 36 = .ok (.goto 4, 3) := by decide +kernel
theorem dX12_isAllowed_39 : decode cX12_isAllowed 39 = .ok (.iconst 0, 1) := by decide +kernel
theorem dX12_isAllowed_40 : decode cX12_isAllowed 40 = .ok (.ireturn, 1) := by decide +kernel
theorem kl_RX12_285 : KLk RX12 285 12 44 := ⟨RX12, TX12, 97, rfl, by decide, Or.inl (kwm 1241 (by decide +kernel) (by decide +kernel))⟩
def f_X12_isAllowed_b35 (h : KH) : Option (Int32) :=
  some (1 : Int32)
set_option maxHeartbeats 4000000 in
set_option maxRecDepth 100000 in
theorem s_X12_isAllowed_b35 {Z : Nat → (Nat → Nat) → State → Prop} (h : KH) {t : Int32} (hn : h.1 = 243) (H : f_X12_isAllowed_b35 h = some t) : KX Z RX12 cX12_isAllowed 2 false 1 (KRz cX12_isAllowed t h) 35 [] [] h := by
  unfold f_X12_isAllowed_b35 at H
  refine x_iconst (q := 36) (v := (1 : Int32)) dX12_isAllowed_35 rfl (by decide) ?_
  refine x_goto dX12_isAllowed_36 (q := 40) (by decide) ?_
  cases H
  exact x_end ⟨(Or.inr rfl), dX12_isAllowed_40, rfl, rfl⟩
def f_X12_isAllowed (h : KH) (v0 : Nat) (v1 : Int32) : Option (Int32) :=
  if kkind v0 = 12 then if (kI h v0 44) = 0 then
  if v1 = (2 : Int32) then
  f_X12_isAllowed_b35 h
  else
  if v1 = (3 : Int32) then
  f_X12_isAllowed_b35 h
  else
  if v1 ≤ (4 : Int32) then
  some (0 : Int32)
  else
  f_X12_isAllowed_b35 h
  else
  if (5 : Int32) ≤ v1 then
  some (0 : Int32)
  else
  some (1 : Int32) else none
set_option maxHeartbeats 4000000 in
set_option maxRecDepth 100000 in
theorem s0_X12_isAllowed {Z : Nat → (Nat → Nat) → State → Prop} (h : KH) (v0 : Nat) (v1 : Int32) {t : Int32} (hn : h.1 = 243) (H : f_X12_isAllowed h v0 v1 = some t) : KX Z RX12 cX12_isAllowed 2 false 1 (KRz cX12_isAllowed t h) 0 [(0, .ref v0), (1, .int v1)] [] h := by
  unfold f_X12_isAllowed at H
  refine x_aload_n (q := 1) dX12_isAllowed_0 rfl rfl ?_
  replace H := kif H; obtain ⟨g1, H⟩ := H
  refine x_getI (q := 4) dX12_isAllowed_1 rfl kl_RX12_285 (Or.inr rfl) (k243 g1 (by decide) hn) ?_
  replace H := kite H; rcases H with ⟨g2, H⟩ | ⟨g2, H⟩
  · refine x_if_eq_t dX12_isAllowed_4 (q := 20) (by decide) g2 ?_
    refine x_iload_n (q := 21) dX12_isAllowed_20 rfl rfl ?_
    refine x_iconst (q := 22) (v := (2 : Int32)) dX12_isAllowed_21 rfl (by decide) ?_
    replace H := kite H; rcases H with ⟨g3, H⟩ | ⟨g3, H⟩
    · refine x_icmp_eq_t dX12_isAllowed_22 (q := 35) (by decide) g3 ?_
      refine x_sub (ls2 := []) [] rfl ?_
      exact s_X12_isAllowed_b35 h hn H
    · refine x_icmp_eq_f (q := 25) dX12_isAllowed_22 (t := 35) (by decide) rfl g3 ?_
      refine x_iload_n (q := 26) dX12_isAllowed_25 rfl rfl ?_
      refine x_iconst (q := 27) (v := (3 : Int32)) dX12_isAllowed_26 rfl (by decide) ?_
      replace H := kite H; rcases H with ⟨g4, H⟩ | ⟨g4, H⟩
      · refine x_icmp_eq_t dX12_isAllowed_27 (q := 35) (by decide) g4 ?_
        refine x_sub (ls2 := []) [] rfl ?_
        exact s_X12_isAllowed_b35 h hn H
      · refine x_icmp_eq_f (q := 30) dX12_isAllowed_27 (t := 35) (by decide) rfl g4 ?_
        refine x_iload_n (q := 31) dX12_isAllowed_30 rfl rfl ?_
        refine x_iconst (q := 32) (v := (4 : Int32)) dX12_isAllowed_31 rfl (by decide) ?_
        replace H := kite H; rcases H with ⟨g5, H⟩ | ⟨g5, H⟩
        · refine x_icmp_le_t dX12_isAllowed_32 (q := 39) (by decide) g5 ?_
          refine x_iconst (q := 40) (v := (0 : Int32)) dX12_isAllowed_39 rfl (by decide) ?_
          cases H
          exact x_end ⟨(Or.inl rfl), dX12_isAllowed_40, rfl, rfl⟩
        · refine x_icmp_le_f (q := 35) dX12_isAllowed_32 (t := 39) (by decide) rfl g5 ?_
          refine x_sub (ls2 := []) [] rfl ?_
          exact s_X12_isAllowed_b35 h hn H
  · refine x_if_eq_f (q := 7) dX12_isAllowed_4 (t := 20) (by decide) rfl g2 ?_
    refine x_iload_n (q := 8) dX12_isAllowed_7 rfl rfl ?_
    refine x_iconst (q := 9) (v := (5 : Int32)) dX12_isAllowed_8 rfl (by decide) ?_
    replace H := kite H; rcases H with ⟨g6, H⟩ | ⟨g6, H⟩
    · refine x_icmp_ge_t dX12_isAllowed_9 (q := 16) (by decide) g6 ?_
      refine x_iconst (q := 17) (v := (0 : Int32)) dX12_isAllowed_16 rfl (by decide) ?_
      refine x_goto dX12_isAllowed_17 (q := 40) (by decide) ?_
      cases H
      exact x_end ⟨(Or.inl rfl), dX12_isAllowed_40, rfl, rfl⟩
    · refine x_icmp_ge_f (q := 12) dX12_isAllowed_9 (t := 16) (by decide) rfl g6 ?_
      refine x_iconst (q := 13) (v := (1 : Int32)) dX12_isAllowed_12 rfl (by decide) ?_
      refine x_goto dX12_isAllowed_13 (q := 40) (by decide) ?_
      cases H
      exact x_end ⟨(Or.inr rfl), dX12_isAllowed_40, rfl, rfl⟩
theorem s_X12_isAllowed {Z : Nat → (Nat → Nat) → State → Prop} (h : KH) (v0 : Nat) (v1 : Int32) {t : Int32} (hn : h.1 = 243) (H : f_X12_isAllowed h v0 v1 = some t) : KM Z yX12_isAllowed cX12_isAllowed 2 (some .boolean) 1 [.ref v0, .int v1] h (some (.int t)) h :=
  kx_z (own := RX12) (ini := false) (by decide +kernel) (by decide +kernel) rfl (Nat.le_of_ble_eq_true rfl) (s0_X12_isAllowed h v0 v1 hn H)
theorem dX12_isFull_0 : decode cX12_isFull 0 = .ok (.aload_n 0, 1) := by decide +kernel
theorem dX12_isFull_1 : decode cX12_isFull 1 = .ok (.getfield 230, 3) := by decide +kernel
theorem dX12_isFull_4 : decode cX12_isFull 4 = .ok (.ifCond .ne 19, 3) := by decide +kernel
theorem dX12_isFull_7 : decode cX12_isFull 7 = .ok (.aload_n 0, 1) := by decide +kernel
theorem dX12_isFull_8 : decode cX12_isFull 8 = .ok (.getfield 87, 3) := by decide +kernel
theorem dX12_isFull_11 : decode cX12_isFull 11 = .ok (.iload_n 1, 1) := by decide +kernel
theorem dX12_isFull_12 : decode cX12_isFull 12 = .ok (.iaload, 1) := by decide +kernel
theorem dX12_isFull_13 : decode cX12_isFull 13 = .ok (.iload_n 2, 1) := by decide +kernel
theorem dX12_isFull_14 : decode cX12_isFull 14 = .ok (.if_icmp .ne 9, 3) := by decide +kernel
theorem dX12_isFull_17 : decode cX12_isFull 17 = .ok (.aload_n 0, 1) := by decide +kernel
theorem dX12_isFull_18 : decode cX12_isFull 18 = .ok (.iconst 5, 1) := by decide +kernel
theorem dX12_isFull_19 : decode cX12_isFull 19 = .ok (.iload_n 3, 1) := by decide +kernel
theorem dX12_isFull_20 : decode cX12_isFull 20 = .ok (.invokevirtual 260, 3) := by decide +kernel
theorem dX12_isFull_23 : decode cX12_isFull 23 = .ok (.aload_n 0, 1) := by decide +kernel
theorem dX12_isFull_24 : decode cX12_isFull 24 = .ok (.getfield 230, 3) := by decide +kernel
theorem dX12_isFull_27 : decode cX12_isFull 27 = .ok (.ifCond .eq 7, 3) := by decide +kernel
theorem dX12_isFull_30 : decode cX12_isFull 30 = .ok (.iconst 1, 1) := by decide +kernel
theorem dX12_isFull_31 : decode cX12_isFull 31 = .ok (.goto 4, 3) := by decide +kernel
theorem dX12_isFull_34 : decode cX12_isFull 34 = .ok (.iconst 0, 1) := by decide +kernel
theorem dX12_isFull_35 : decode cX12_isFull 35 = .ok (.ireturn, 1) := by decide +kernel
theorem kl_RX12_87 : KLk RX12 87 12 33 := ⟨RX12, TX12, 97, rfl, by decide, Or.inl (kwm 1230 (by decide +kernel) (by decide +kernel))⟩
def f_X12_isFull_b23 (h : KH) (v0 : Nat) : Option (Int32 × KH) :=
  if kkind v0 = 12 then if (kI h v0 5) = 0 then
  some ((0 : Int32), h)
  else
  some ((1 : Int32), h) else none
set_option maxHeartbeats 4000000 in
set_option maxRecDepth 100000 in
theorem s_X12_isFull_b23 {Z : Nat → (Nat → Nat) → State → Prop} (h : KH) (v0 : Nat) {t : Int32 × KH} (hn : h.1 = 243) (H : f_X12_isFull_b23 h v0 = some t) : KX Z RX12 cX12_isFull 4 false 2 (KRz cX12_isFull t.1 t.2) 23 [(0, .ref v0)] [] h := by
  unfold f_X12_isFull_b23 at H
  refine x_aload_n (q := 24) dX12_isFull_23 rfl rfl ?_
  replace H := kif H; obtain ⟨g1, H⟩ := H
  refine x_getI (q := 27) dX12_isFull_24 rfl kl_RX12_230 (Or.inl rfl) (k243 g1 (by decide) hn) ?_
  replace H := kite H; rcases H with ⟨g2, H⟩ | ⟨g2, H⟩
  · refine x_if_eq_t dX12_isFull_27 (q := 34) (by decide) g2 ?_
    refine x_iconst (q := 35) (v := (0 : Int32)) dX12_isFull_34 rfl (by decide) ?_
    cases H
    exact x_end ⟨(Or.inl rfl), dX12_isFull_35, rfl, rfl⟩
  · refine x_if_eq_f (q := 30) dX12_isFull_27 (t := 34) (by decide) rfl g2 ?_
    refine x_iconst (q := 31) (v := (1 : Int32)) dX12_isFull_30 rfl (by decide) ?_
    refine x_goto dX12_isFull_31 (q := 35) (by decide) ?_
    cases H
    exact x_end ⟨(Or.inr rfl), dX12_isFull_35, rfl, rfl⟩
def f_X12_isFull (h : KH) (v0 : Nat) (v1 : Int32) (v2 : Int32) (v3 : Int32) : Option (Int32 × KH) :=
  if kkind v0 = 12 then if (kI h v0 5) = 0 then
  if (kR h v0 33) < 999999 then if kkind (kR h v0 33) = 20 then if (v1 < 0 ∨ klen (kR h v0 33) ≤ (v1).toNatClampNeg) then none else if (kI h (kR h v0 33) ((v1).toNatClampNeg)) = v2 then
  kb (f_X12_fail h v0 (5 : Int32) v3) fun r7 =>
  f_X12_isFull_b23 r7 v0
  else
  f_X12_isFull_b23 h v0 else none else none
  else
  f_X12_isFull_b23 h v0 else none
set_option maxHeartbeats 4000000 in
set_option maxRecDepth 100000 in
theorem s0_X12_isFull {Z : Nat → (Nat → Nat) → State → Prop} (h : KH) (v0 : Nat) (v1 : Int32) (v2 : Int32) (v3 : Int32) {t : Int32 × KH} (hn : h.1 = 243) (H : f_X12_isFull h v0 v1 v2 v3 = some t) : KX Z RX12 cX12_isFull 4 false 2 (KRz cX12_isFull t.1 t.2) 0 [(0, .ref v0), (1, .int v1), (2, .int v2), (3, .int v3)] [] h := by
  unfold f_X12_isFull at H
  refine x_aload_n (q := 1) dX12_isFull_0 rfl rfl ?_
  replace H := kif H; obtain ⟨g1, H⟩ := H
  refine x_getI (q := 4) dX12_isFull_1 rfl kl_RX12_230 (Or.inl rfl) (k243 g1 (by decide) hn) ?_
  replace H := kite H; rcases H with ⟨g2, H⟩ | ⟨g2, H⟩
  · refine x_if_ne_f (q := 7) dX12_isFull_4 (t := 23) (by decide) rfl g2 ?_
    refine x_aload_n (q := 8) dX12_isFull_7 rfl rfl ?_
    replace H := kif H; obtain ⟨g3, H⟩ := H
    refine x_getR (q := 11) dX12_isFull_8 rfl kl_RX12_87 rfl (k243 g1 (by decide) hn) g3 ?_
    refine x_iload_n (q := 12) dX12_isFull_11 rfl rfl ?_
    replace H := kif H; obtain ⟨g4, H⟩ := H
    replace H := kifn H; obtain ⟨g5, H⟩ := H
    refine x_iald (q := 13) dX12_isFull_12 rfl (k243 g4 (by decide) hn) g5 ?_
    refine x_iload_n (q := 14) dX12_isFull_13 rfl rfl ?_
    replace H := kite H; rcases H with ⟨g6, H⟩ | ⟨g6, H⟩
    · refine x_icmp_ne_f (q := 17) dX12_isFull_14 (t := 23) (by decide) rfl g6 ?_
      refine x_aload_n (q := 18) dX12_isFull_17 rfl rfl ?_
      refine x_iconst (q := 19) (v := (5 : Int32)) dX12_isFull_18 rfl (by decide) ?_
      refine x_iload_n (q := 20) dX12_isFull_19 rfl rfl ?_
      replace H := kbe H; obtain ⟨r7, c8, H⟩ := H
      have m9 := s_X12_fail (Z := Z) h v0 (5 : Int32) v3 hn c8
      refine x_callV (q := 23) (as := [.int (5 : Int32), .int v3]) (rest := []) dX12_isFull_20 rfl kc_RX12_260 kh_X12_fail (by decide) (Nat.le_of_ble_eq_true rfl) m9 (ci := 12) (by exact ⟨rfl, by decide⟩) (k243 g1 (by decide) hn) ?_
      have n10 : (r7).1 = 243 := m9.1.full hn
      refine x_sub (ls2 := [(0, .ref v0)]) [0] rfl ?_
      exact s_X12_isFull_b23 r7 v0 n10 H
    · refine x_icmp_ne_t dX12_isFull_14 (q := 23) (by decide) g6 ?_
      refine x_sub (ls2 := [(0, .ref v0)]) [0] rfl ?_
      exact s_X12_isFull_b23 h v0 hn H
  · refine x_if_ne_t dX12_isFull_4 (q := 23) (by decide) g2 ?_
    refine x_sub (ls2 := [(0, .ref v0)]) [0] rfl ?_
    exact s_X12_isFull_b23 h v0 hn H
theorem s_X12_isFull {Z : Nat → (Nat → Nat) → State → Prop} (h : KH) (v0 : Nat) (v1 : Int32) (v2 : Int32) (v3 : Int32) {t : Int32 × KH} (hn : h.1 = 243) (H : f_X12_isFull h v0 v1 v2 v3 = some t) : KM Z yX12_isFull cX12_isFull 4 (some .boolean) 2 [.ref v0, .int v1, .int v2, .int v3] h (some (.int t.1)) t.2 :=
  kx_z (own := RX12) (ini := false) (by decide +kernel) (by decide +kernel) rfl (Nat.le_of_ble_eq_true rfl) (s0_X12_isFull h v0 v1 v2 v3 hn H)
theorem dX12_newName_0 : decode cX12_newName 0 = .ok (.aload_n 0, 1) := by decide +kernel
theorem dX12_newName_1 : decode cX12_newName 1 = .ok (.invokevirtual 289, 3) := by decide +kernel
theorem dX12_newName_4 : decode cX12_newName 4 = .ok (.lstore_n 1, 1) := by decide +kernel
theorem dX12_newName_5 : decode cX12_newName 5 = .ok (.iconst 0, 1) := by decide +kernel
theorem dX12_newName_6 : decode cX12_newName 6 = .ok (.istore_n 3, 1) := by decide +kernel
theorem dX12_newName_7 : decode cX12_newName 7 = .ok (.iload_n 3, 1) := by decide +kernel
theorem dX12_newName_8 : decode cX12_newName 8 = .ok (.iconst 3, 1) := by decide +kernel
theorem dX12_newName_9 : decode cX12_newName 9 = .ok (.if_icmp .ge 62, 3) := by decide +kernel
theorem dX12_newName_12 : decode cX12_newName 12 = .ok (.iconst 0, 1) := by decide +kernel
theorem dX12_newName_13 : decode cX12_newName 13 = .ok (.istore 4, 2) := by decide +kernel
theorem dX12_newName_15 : decode cX12_newName 15 = .ok (.iload 4, 2) := by decide +kernel
theorem dX12_newName_17 : decode cX12_newName 17 = .ok (.aload_n 0, 1) := by decide +kernel
theorem dX12_newName_18 : decode cX12_newName 18 = .ok (.getfield 87, 3) := by decide +kernel
theorem dX12_newName_21 : decode cX12_newName 21 = .ok (.iload_n 3, 1) := by decide +kernel
theorem dX12_newName_22 : decode cX12_newName 22 = .ok (.iaload, 1) := by decide +kernel
theorem dX12_newName_23 : decode cX12_newName 23 = .ok (.if_icmp .ge 42, 3) := by decide +kernel
theorem dX12_newName_26 : decode cX12_newName 26 = .ok (.aload_n 0, 1) := by decide +kernel
theorem dX12_newName_27 : decode cX12_newName 27 = .ok (.getfield 230, 3) := by decide +kernel
theorem dX12_newName_30 : decode cX12_newName 30 = .ok (.ifCond .ne 29, 3) := by decide +kernel
theorem dX12_newName_33 : decode cX12_newName 33 = .ok (.aload_n 0, 1) := by decide +kernel
theorem dX12_newName_34 : decode cX12_newName 34 = .ok (.getfield 90, 3) := by decide +kernel
theorem dX12_newName_37 : decode cX12_newName 37 = .ok (.bipush 6, 2) := by decide +kernel
theorem dX12_newName_39 : decode cX12_newName 39 = .ok (.iload_n 3, 1) := by decide +kernel
theorem dX12_newName_40 : decode cX12_newName 40 = .ok (.imul, 1) := by decide +kernel
theorem dX12_newName_41 : decode cX12_newName 41 = .ok (.iload 4, 2) := by decide +kernel
theorem dX12_newName_43 : decode cX12_newName 43 = .ok (.iadd, 1) := by decide +kernel
theorem dX12_newName_44 : decode cX12_newName 44 = .ok (.laload, 1) := by decide +kernel
theorem dX12_newName_45 : decode cX12_newName 45 = .ok (.lload_n 1, 1) := by decide +kernel
theorem dX12_newName_46 : decode cX12_newName 46 = .ok (.lcmp, 1) := by decide +kernel
theorem dX12_newName_47 : decode cX12_newName 47 = .ok (.ifCond .ne 12, 3) := by decide +kernel
theorem dX12_newName_50 : decode cX12_newName 50 = .ok (.aload_n 0, 1) := by decide +kernel
theorem dX12_newName_51 : decode cX12_newName 51 = .ok (.iconst 3, 1) := by decide +kernel
theorem dX12_newName_52 : decode cX12_newName 52 = .ok (.aload_n 0, 1) := by decide +kernel
theorem dX12_newName_53 : decode cX12_newName 53 = .ok (.getfield 278, 3) := by decide +kernel
theorem dX12_newName_56 : decode cX12_newName 56 = .ok (.invokevirtual 260, 3) := by decide +kernel
theorem dX12_newName_59 : decode cX12_newName 59 = .ok (.iinc 4 1, 3) := by decide +kernel
theorem dX12_newName_62 : decode cX12_newName 62 = .ok (.goto (-47), 3) := by decide +kernel
theorem dX12_newName_65 : decode cX12_newName 65 = .ok (.iinc 3 1, 3) := by decide +kernel
theorem dX12_newName_68 : decode cX12_newName 68 = .ok (.goto (-61), 3) := by decide +kernel
theorem dX12_newName_71 : decode cX12_newName 71 = .ok (.lload_n 1, 1) := by decide +kernel
theorem dX12_newName_72 : decode cX12_newName 72 = .ok (.lreturn, 1) := by decide +kernel
theorem kc_RX12_289 : Cond.methodLink RX12 289 yX12_name ∈ ktG ∧ (Cond.instanceMethod yX12_name ∈ ktG ∧ Cond.selects yX12_name.cls yX12_name yX12_name ∈ ktG) ∧ Cond.initialized yX12_name.cls ∈ ktG ∧ Cond.code yX12_name cX12_name 3 (some .long) ∈ ktG := ⟨(kwm 1537 (by decide +kernel) (by decide +kernel)), ⟨(kwm 1539 (by decide +kernel) (by decide +kernel)), (kwm 44 (by decide +kernel) (by decide +kernel))⟩, (kwm 139 (by decide +kernel) (by decide +kernel)), kwm 1540 (by decide +kernel) (by decide +kernel)⟩
theorem kh_X12_name : yX12_name.cls ≠ "java/lang/invoke/MethodHandle" ∧ yX12_name.cls ≠ "java/lang/invoke/VarHandle" ∧ (parseMethodDescriptor yX12_name.desc).map (fun d => d.parameters.length) = some 0 := by decide +kernel
theorem kl_RX12_90 : KLk RX12 90 12 34 := ⟨RX12, TX12, 97, rfl, by decide, Or.inl (kwm 1231 (by decide +kernel) (by decide +kernel))⟩
def E_X12_newName_l7 (v0 : Nat) (v1 : Int64) : KH → Nat → List (Nat × Value) → List Value → KH → Prop := fun (e : KH) pc ls st hh => pc = 71 ∧ ls = [(1, .long v1)] ∧ st = [] ∧ e = hh
def B_X12_newName_l7 (v0 : Nat) (v1 : Int64) : ((Int32 × KH) ⊕ (KH)) → Nat → List (Nat × Value) → List Value → KH → Prop := Sum.elim (fun (s : Int32 × KH) pc ls st hh => pc = 7 ∧ ls = [(0, .ref v0), (1, .long v1), (3, .int s.1)] ∧ st = [] ∧ hh = s.2) (E_X12_newName_l7 v0 v1)
def E_X12_newName_l15 (v0 : Nat) (v1 : Int64) (v3 : Int32) : KH → Nat → List (Nat × Value) → List Value → KH → Prop := fun (e : KH) pc ls st hh => pc = 65 ∧ ls = [(0, .ref v0), (1, .long v1), (3, .int v3)] ∧ st = [] ∧ e = hh
def B_X12_newName_l15 (v0 : Nat) (v1 : Int64) (v3 : Int32) : ((Int32 × KH) ⊕ (KH)) → Nat → List (Nat × Value) → List Value → KH → Prop := Sum.elim (fun (s : Int32 × KH) pc ls st hh => pc = 15 ∧ ls = [(0, .ref v0), (1, .long v1), (3, .int v3), (4, .int s.1)] ∧ st = [] ∧ hh = s.2) (E_X12_newName_l15 v0 v1 v3)
def f_X12_newName_b59 (h : KH) (v0 : Nat) (v1 : Int64) (v3 : Int32) (v4 : Int32) : Option ((Int32 × KH) ⊕ (KH)) :=
  kl (v4 + (1 : Int32)) fun x1 =>
  some (.inl (x1, h))
set_option maxHeartbeats 4000000 in
set_option maxRecDepth 100000 in
theorem s_X12_newName_b59 {Z : Nat → (Nat → Nat) → State → Prop} (h : KH) (v0 : Nat) (v1 : Int64) (v3 : Int32) (v4 : Int32) {t : (Int32 × KH) ⊕ (KH)} (hn : h.1 = 243) (H : f_X12_newName_b59 h v0 v1 v3 v4 = some t) : KX Z RX12 cX12_newName 5 false 5 (B_X12_newName_l15 v0 v1 v3 t) 59 [(0, .ref v0), (1, .long v1), (3, .int v3), (4, .int v4)] [] h := by
  unfold f_X12_newName_b59 at H
  replace H := kle H; obtain ⟨x1, q2, H⟩ := H
  refine x_iinc (q := 62) (i := 4) (ls2 := [(4, .int x1), (0, .ref v0), (1, .long v1), (3, .int v3)]) dX12_newName_59 rfl rfl (by decide) (by rw [q2]; rfl) ?_
  refine x_goto dX12_newName_62 (q := 15) (by decide) ?_
  cases H
  refine x_sub (ls2 := [(0, .ref v0), (1, .long v1), (3, .int v3), (4, .int x1)]) [1, 2, 3, 0] rfl ?_
  exact x_end (x_cfg rfl)
def f_X12_newName_l15 (v0 : Nat) (v1 : Int64) (v3 : Int32) (s : Int32 × KH) : Option ((Int32 × KH) ⊕ (KH)) :=
  if kkind v0 = 12 then if (kR s.2 v0 33) < 999999 then if kkind (kR s.2 v0 33) = 20 then if (v3 < 0 ∨ klen (kR s.2 v0 33) ≤ (v3).toNatClampNeg) then none else if (kI s.2 (kR s.2 v0 33) ((v3).toNatClampNeg)) ≤ s.1 then
  some (.inr s.2)
  else
  if (kI s.2 v0 5) = 0 then
  if (kR s.2 v0 34) < 999999 then if kkind (kR s.2 v0 34) = 21 then if ((((6 : Int32) * v3) + s.1) < 0 ∨ klen (kR s.2 v0 34) ≤ ((((6 : Int32) * v3) + s.1)).toNatClampNeg) then none else if (lg_cmp (kL s.2 (kR s.2 v0 34) (((((6 : Int32) * v3) + s.1)).toNatClampNeg)) v1) = 0 then
  kb (f_X12_fail s.2 v0 (3 : Int32) (kI s.2 v0 32)) fun r11 =>
  f_X12_newName_b59 r11 v0 v1 v3 s.1
  else
  f_X12_newName_b59 s.2 v0 v1 v3 s.1 else none else none
  else
  f_X12_newName_b59 s.2 v0 v1 v3 s.1 else none else none else none
set_option maxHeartbeats 4000000 in
set_option maxRecDepth 100000 in
theorem s_X12_newName_l15 {Z : Nat → (Nat → Nat) → State → Prop} (v0 : Nat) (v1 : Int64) (v3 : Int32) (s : Int32 × KH) (t : (Int32 × KH) ⊕ (KH)) (hn : (s.2).1 = 243) (H : f_X12_newName_l15 v0 v1 v3 s = some t) : KX Z RX12 cX12_newName 5 false 5 (B_X12_newName_l15 v0 v1 v3 t) 15 [(0, .ref v0), (1, .long v1), (3, .int v3), (4, .int s.1)] [] s.2 := by
  unfold f_X12_newName_l15 at H
  refine x_iload (q := 17) dX12_newName_15 rfl rfl ?_
  refine x_aload_n (q := 18) dX12_newName_17 rfl rfl ?_
  replace H := kif H; obtain ⟨g1, H⟩ := H
  replace H := kif H; obtain ⟨g2, H⟩ := H
  refine x_getR (q := 21) dX12_newName_18 rfl kl_RX12_87 rfl (k243 g1 (by decide) hn) g2 ?_
  refine x_iload_n (q := 22) dX12_newName_21 rfl rfl ?_
  replace H := kif H; obtain ⟨g3, H⟩ := H
  replace H := kifn H; obtain ⟨g4, H⟩ := H
  refine x_iald (q := 23) dX12_newName_22 rfl (k243 g3 (by decide) hn) g4 ?_
  replace H := kite H; rcases H with ⟨g5, H⟩ | ⟨g5, H⟩
  · refine x_icmp_ge_t dX12_newName_23 (q := 65) (by decide) g5 ?_
    cases H
    refine x_sub (ls2 := [(0, .ref v0), (1, .long v1), (3, .int v3)]) [0, 1, 2] rfl ?_
    exact x_end (x_cfg rfl)
  · refine x_icmp_ge_f (q := 26) dX12_newName_23 (t := 65) (by decide) rfl g5 ?_
    refine x_aload_n (q := 27) dX12_newName_26 rfl rfl ?_
    refine x_getI (q := 30) dX12_newName_27 rfl kl_RX12_230 (Or.inl rfl) (k243 g1 (by decide) hn) ?_
    replace H := kite H; rcases H with ⟨g6, H⟩ | ⟨g6, H⟩
    · refine x_if_ne_f (q := 33) dX12_newName_30 (t := 59) (by decide) rfl g6 ?_
      refine x_aload_n (q := 34) dX12_newName_33 rfl rfl ?_
      replace H := kif H; obtain ⟨g7, H⟩ := H
      refine x_getR (q := 37) dX12_newName_34 rfl kl_RX12_90 rfl (k243 g1 (by decide) hn) g7 ?_
      refine x_bipush (q := 39) (v := (6 : Int32)) dX12_newName_37 rfl (by decide) ?_
      refine x_iload_n (q := 40) dX12_newName_39 rfl rfl ?_
      refine x_imul (q := 41) dX12_newName_40 rfl ?_
      refine x_iload (q := 43) dX12_newName_41 rfl rfl ?_
      refine x_iadd (q := 44) dX12_newName_43 rfl ?_
      replace H := kif H; obtain ⟨g8, H⟩ := H
      replace H := kifn H; obtain ⟨g9, H⟩ := H
      refine x_lald (q := 45) dX12_newName_44 rfl (k243 g8 (by decide) hn) g9 ?_
      refine x_lload_n (q := 46) dX12_newName_45 rfl rfl ?_
      refine x_lcmp (q := 47) dX12_newName_46 rfl ?_
      replace H := kite H; rcases H with ⟨g10, H⟩ | ⟨g10, H⟩
      · refine x_if_ne_f (q := 50) dX12_newName_47 (t := 59) (by decide) rfl g10 ?_
        refine x_aload_n (q := 51) dX12_newName_50 rfl rfl ?_
        refine x_iconst (q := 52) (v := (3 : Int32)) dX12_newName_51 rfl (by decide) ?_
        refine x_aload_n (q := 53) dX12_newName_52 rfl rfl ?_
        refine x_getI (q := 56) dX12_newName_53 rfl kl_RX12_278 (Or.inl rfl) (k243 g1 (by decide) hn) ?_
        replace H := kbe H; obtain ⟨r11, c12, H⟩ := H
        have m13 := s_X12_fail (Z := Z) s.2 v0 (3 : Int32) (kI s.2 v0 32) hn c12
        refine x_callV (q := 59) (as := [.int (3 : Int32), .int (kI s.2 v0 32)]) (rest := []) dX12_newName_56 rfl kc_RX12_260 kh_X12_fail (by decide) (Nat.le_of_ble_eq_true rfl) m13 (ci := 12) (by exact ⟨rfl, by decide⟩) (k243 g1 (by decide) hn) ?_
        have n14 : (r11).1 = 243 := m13.1.full hn
        refine x_sub (ls2 := [(0, .ref v0), (1, .long v1), (3, .int v3), (4, .int s.1)]) [0, 1, 2, 3] rfl ?_
        exact s_X12_newName_b59 r11 v0 v1 v3 s.1 n14 H
      · refine x_if_ne_t dX12_newName_47 (q := 59) (by decide) g10 ?_
        refine x_sub (ls2 := [(0, .ref v0), (1, .long v1), (3, .int v3), (4, .int s.1)]) [0, 1, 2, 3] rfl ?_
        exact s_X12_newName_b59 s.2 v0 v1 v3 s.1 hn H
    · refine x_if_ne_t dX12_newName_30 (q := 59) (by decide) g6 ?_
      refine x_sub (ls2 := [(0, .ref v0), (1, .long v1), (3, .int v3), (4, .int s.1)]) [0, 1, 2, 3] rfl ?_
      exact s_X12_newName_b59 s.2 v0 v1 v3 s.1 hn H
theorem sl_X12_newName_l15 {Z : Nat → (Nat → Nat) → State → Prop} (v0 : Nat) (v1 : Int64) (v3 : Int32) (n : Nat) (s : Int32 × KH) (r : KH) (hn : (s.2).1 = 243) (H : kloop (f_X12_newName_l15 v0 v1 v3) n s = some r) : KX Z RX12 cX12_newName 5 false 5 (E_X12_newName_l15 v0 v1 v3 r) 15 [(0, .ref v0), (1, .long v1), (3, .int v3), (4, .int s.1)] [] s.2 :=
  k_loop (ls := (fun (s : Int32 × KH) => ([(0, .ref v0), (1, .long v1), (3, .int v3), (4, .int s.1)] : List (Nat × Value)))) (hp := (fun (s : Int32 × KH) => (s.2 : KH))) (G := E_X12_newName_l15 v0 v1 v3) (fun s t hn H => s_X12_newName_l15 v0 v1 v3 s t hn H) n s r hn H
def f_X12_newName_l7 (v0 : Nat) (v1 : Int64) (s : Int32 × KH) : Option ((Int32 × KH) ⊕ (KH)) :=
  if (3 : Int32) ≤ s.1 then
  some (.inr s.2)
  else
  kb (kloop (f_X12_newName_l15 v0 v1 s.1) KF ((0 : Int32), s.2)) fun e2 =>
  kl (s.1 + (1 : Int32)) fun x5 =>
  some (.inl (x5, e2))
set_option maxHeartbeats 4000000 in
set_option maxRecDepth 100000 in
theorem s_X12_newName_l7 {Z : Nat → (Nat → Nat) → State → Prop} (v0 : Nat) (v1 : Int64) (s : Int32 × KH) (t : (Int32 × KH) ⊕ (KH)) (hn : (s.2).1 = 243) (H : f_X12_newName_l7 v0 v1 s = some t) : KX Z RX12 cX12_newName 5 false 5 (B_X12_newName_l7 v0 v1 t) 7 [(0, .ref v0), (1, .long v1), (3, .int s.1)] [] s.2 := by
  unfold f_X12_newName_l7 at H
  refine x_iload_n (q := 8) dX12_newName_7 rfl rfl ?_
  refine x_iconst (q := 9) (v := (3 : Int32)) dX12_newName_8 rfl (by decide) ?_
  replace H := kite H; rcases H with ⟨g1, H⟩ | ⟨g1, H⟩
  · refine x_icmp_ge_t dX12_newName_9 (q := 71) (by decide) g1 ?_
    cases H
    refine x_sub (ls2 := [(1, .long v1)]) [1] rfl ?_
    exact x_end (x_cfg rfl)
  · refine x_icmp_ge_f (q := 12) dX12_newName_9 (t := 71) (by decide) rfl g1 ?_
    refine x_iconst (q := 13) (v := (0 : Int32)) dX12_newName_12 rfl (by decide) ?_
    refine x_istore (q := 15) (i := 4) (ls2 := [(4, .int (0 : Int32)), (0, .ref v0), (1, .long v1), (3, .int s.1)]) dX12_newName_13 rfl (by decide) rfl ?_
    refine x_sub (ls2 := [(0, .ref v0), (1, .long v1), (3, .int s.1), (4, .int (0 : Int32))]) [1, 2, 3, 0] rfl ?_
    replace H := kbe H; obtain ⟨e2, c3, H⟩ := H
    refine x_app (sl_X12_newName_l15 v0 v1 s.1 KF ((0 : Int32), s.2) e2 hn c3) fun pc2 ls2 st2 h2 hg m4 => ?_
    obtain ⟨rfl, rfl, rfl, rfl⟩ := hg
    replace H := kle H; obtain ⟨x5, q6, H⟩ := H
    refine x_iinc (q := 68) (i := 3) (ls2 := [(3, .int x5), (0, .ref v0), (1, .long v1)]) dX12_newName_65 rfl rfl (by decide) (by rw [q6]; rfl) ?_
    refine x_goto dX12_newName_68 (q := 7) (by decide) ?_
    cases H
    refine x_sub (ls2 := [(0, .ref v0), (1, .long v1), (3, .int x5)]) [1, 2, 0] rfl ?_
    exact x_end (x_cfg rfl)
theorem sl_X12_newName_l7 {Z : Nat → (Nat → Nat) → State → Prop} (v0 : Nat) (v1 : Int64) (n : Nat) (s : Int32 × KH) (r : KH) (hn : (s.2).1 = 243) (H : kloop (f_X12_newName_l7 v0 v1) n s = some r) : KX Z RX12 cX12_newName 5 false 5 (E_X12_newName_l7 v0 v1 r) 7 [(0, .ref v0), (1, .long v1), (3, .int s.1)] [] s.2 :=
  k_loop (ls := (fun (s : Int32 × KH) => ([(0, .ref v0), (1, .long v1), (3, .int s.1)] : List (Nat × Value)))) (hp := (fun (s : Int32 × KH) => (s.2 : KH))) (G := E_X12_newName_l7 v0 v1) (fun s t hn H => s_X12_newName_l7 v0 v1 s t hn H) n s r hn H
def f_X12_newName (h : KH) (v0 : Nat) : Option (Int64 × KH) :=
  if kkind v0 = 12 then kb (f_X12_name h v0) fun r2 =>
  kb (kloop (f_X12_newName_l7 v0 r2.1) KF ((0 : Int32), r2.2)) fun e6 =>
  some (r2.1, e6) else none
set_option maxHeartbeats 4000000 in
set_option maxRecDepth 100000 in
theorem s0_X12_newName {Z : Nat → (Nat → Nat) → State → Prop} (h : KH) (v0 : Nat) {t : Int64 × KH} (hn : h.1 = 243) (H : f_X12_newName h v0 = some t) : KX Z RX12 cX12_newName 5 false 5 (KRl cX12_newName t.1 t.2) 0 [(0, .ref v0)] [] h := by
  unfold f_X12_newName at H
  refine x_aload_n (q := 1) dX12_newName_0 rfl rfl ?_
  replace H := kif H; obtain ⟨g1, H⟩ := H
  replace H := kbe H; obtain ⟨r2, c3, H⟩ := H
  have m4 := s_X12_name (Z := Z) h v0 hn c3
  refine x_callV (q := 4) (as := []) (rest := []) dX12_newName_1 rfl kc_RX12_289 kh_X12_name (by decide) (Nat.le_of_ble_eq_true rfl) m4 (ci := 12) (by exact ⟨rfl, by decide⟩) (k243 g1 (by decide) hn) ?_
  have n5 : (r2.2).1 = 243 := m4.1.full hn
  refine x_lstore_n (q := 5) (i := 1) (ls2 := [(1, .long r2.1), (0, .ref v0)]) dX12_newName_4 rfl rfl (by decide) rfl ?_
  refine x_iconst (q := 6) (v := (0 : Int32)) dX12_newName_5 rfl (by decide) ?_
  refine x_istore_n (q := 7) (i := 3) (ls2 := [(3, .int (0 : Int32)), (1, .long r2.1), (0, .ref v0)]) dX12_newName_6 rfl rfl (by decide) rfl ?_
  refine x_sub (ls2 := [(0, .ref v0), (1, .long r2.1), (3, .int (0 : Int32))]) [2, 1, 0] rfl ?_
  replace H := kbe H; obtain ⟨e6, c7, H⟩ := H
  refine x_app (sl_X12_newName_l7 v0 r2.1 KF ((0 : Int32), r2.2) e6 n5 c7) fun pc2 ls2 st2 h2 hg m8 => ?_
  obtain ⟨rfl, rfl, rfl, rfl⟩ := hg
  refine x_lload_n (q := 72) dX12_newName_71 rfl rfl ?_
  cases H
  exact x_end ⟨dX12_newName_72, rfl, rfl⟩
theorem s_X12_newName {Z : Nat → (Nat → Nat) → State → Prop} (h : KH) (v0 : Nat) {t : Int64 × KH} (hn : h.1 = 243) (H : f_X12_newName h v0 = some t) : KM Z yX12_newName cX12_newName 5 (some .long) 5 [.ref v0] h (some (.long t.1)) t.2 :=
  kx_l (own := RX12) (ini := false) (by decide +kernel) (by decide +kernel) rfl (Nat.le_of_ble_eq_true rfl) (s0_X12_newName h v0 hn H)
theorem dX12_adds_0 : decode cX12_adds 0 = .ok (.aload_n 0, 1) := by decide +kernel
theorem dX12_adds_1 : decode cX12_adds 1 = .ok (.getfield 90, 3) := by decide +kernel
theorem dX12_adds_4 : decode cX12_adds 4 = .ok (.bipush 6, 2) := by decide +kernel
theorem dX12_adds_6 : decode cX12_adds 6 = .ok (.iload_n 1, 1) := by decide +kernel
theorem dX12_adds_7 : decode cX12_adds 7 = .ok (.imul, 1) := by decide +kernel
theorem dX12_adds_8 : decode cX12_adds 8 = .ok (.aload_n 0, 1) := by decide +kernel
theorem dX12_adds_9 : decode cX12_adds 9 = .ok (.getfield 87, 3) := by decide +kernel
theorem dX12_adds_12 : decode cX12_adds 12 = .ok (.iload_n 1, 1) := by decide +kernel
theorem dX12_adds_13 : decode cX12_adds 13 = .ok (.iaload, 1) := by decide +kernel
theorem dX12_adds_14 : decode cX12_adds 14 = .ok (.iadd, 1) := by decide +kernel
theorem dX12_adds_15 : decode cX12_adds 15 = .ok (.lload_n 2, 1) := by decide +kernel
theorem dX12_adds_16 : decode cX12_adds 16 = .ok (.lastore, 1) := by decide +kernel
theorem dX12_adds_17 : decode cX12_adds 17 = .ok (.aload_n 0, 1) := by decide +kernel
theorem dX12_adds_18 : decode cX12_adds 18 = .ok (.getfield 87, 3) := by decide +kernel
theorem dX12_adds_21 : decode cX12_adds 21 = .ok (.iload_n 1, 1) := by decide +kernel
theorem dX12_adds_22 : decode cX12_adds 22 = .ok (.dup2, 1) := by decide +kernel
theorem dX12_adds_23 : decode cX12_adds 23 = .ok (.iaload, 1) := by decide +kernel
theorem dX12_adds_24 : decode cX12_adds 24 = .ok (.iconst 1, 1) := by decide +kernel
theorem dX12_adds_25 : decode cX12_adds 25 = .ok (.iadd, 1) := by decide +kernel
theorem dX12_adds_26 : decode cX12_adds 26 = .ok (.iastore, 1) := by decide +kernel
theorem dX12_adds_27 : decode cX12_adds 27 = .ok (.aload_n 0, 1) := by decide +kernel
theorem dX12_adds_28 : decode cX12_adds 28 = .ok (.getfield 87, 3) := by decide +kernel
theorem dX12_adds_31 : decode cX12_adds 31 = .ok (.iload_n 1, 1) := by decide +kernel
theorem dX12_adds_32 : decode cX12_adds 32 = .ok (.iaload, 1) := by decide +kernel
theorem dX12_adds_33 : decode cX12_adds 33 = .ok (.iconst 1, 1) := by decide +kernel
theorem dX12_adds_34 : decode cX12_adds 34 = .ok (.isub, 1) := by decide +kernel
theorem dX12_adds_35 : decode cX12_adds 35 = .ok (.ireturn, 1) := by decide +kernel
def f_X12_adds (h : KH) (v0 : Nat) (v1 : Int32) (v2 : Int64) : Option (Int32 × KH) :=
  if kkind v0 = 12 then if (kR h v0 34) < 999999 then if (kR h v0 33) < 999999 then if kkind (kR h v0 33) = 20 then if (v1 < 0 ∨ klen (kR h v0 33) ≤ (v1).toNatClampNeg) then none else if kkind (kR h v0 34) = 21 then if ((((6 : Int32) * v1) + (kI h (kR h v0 33) ((v1).toNatClampNeg))) < 0 ∨ klen (kR h v0 34) ≤ ((((6 : Int32) * v1) + (kI h (kR h v0 33) ((v1).toNatClampNeg)))).toNatClampNeg) then none else kl (ksL h (kR h v0 34) (((((6 : Int32) * v1) + (kI h (kR h v0 33) ((v1).toNatClampNeg)))).toNatClampNeg) v2) fun h8 =>
  if (kR h8 v0 33) < 999999 then if kkind (kR h8 v0 33) = 20 then if (v1 < 0 ∨ klen (kR h8 v0 33) ≤ (v1).toNatClampNeg) then none else kl (ksI h8 (kR h8 v0 33) ((v1).toNatClampNeg) ((kI h8 (kR h8 v0 33) ((v1).toNatClampNeg)) + (1 : Int32))) fun h14 =>
  if (kR h14 v0 33) < 999999 then if kkind (kR h14 v0 33) = 20 then if (v1 < 0 ∨ klen (kR h14 v0 33) ≤ (v1).toNatClampNeg) then none else some (((kI h14 (kR h14 v0 33) ((v1).toNatClampNeg)) - (1 : Int32)), h14) else none else none else none else none else none else none else none else none else none
set_option maxHeartbeats 4000000 in
set_option maxRecDepth 100000 in
theorem s0_X12_adds {Z : Nat → (Nat → Nat) → State → Prop} (h : KH) (v0 : Nat) (v1 : Int32) (v2 : Int64) {t : Int32 × KH} (hn : h.1 = 243) (H : f_X12_adds h v0 v1 v2 = some t) : KX Z RX12 cX12_adds 4 false 1 (KRi cX12_adds t.1 t.2) 0 [(0, .ref v0), (1, .int v1), (2, .long v2)] [] h := by
  unfold f_X12_adds at H
  refine x_aload_n (q := 1) dX12_adds_0 rfl rfl ?_
  replace H := kif H; obtain ⟨g1, H⟩ := H
  replace H := kif H; obtain ⟨g2, H⟩ := H
  refine x_getR (q := 4) dX12_adds_1 rfl kl_RX12_90 rfl (k243 g1 (by decide) hn) g2 ?_
  refine x_bipush (q := 6) (v := (6 : Int32)) dX12_adds_4 rfl (by decide) ?_
  refine x_iload_n (q := 7) dX12_adds_6 rfl rfl ?_
  refine x_imul (q := 8) dX12_adds_7 rfl ?_
  refine x_aload_n (q := 9) dX12_adds_8 rfl rfl ?_
  replace H := kif H; obtain ⟨g3, H⟩ := H
  refine x_getR (q := 12) dX12_adds_9 rfl kl_RX12_87 rfl (k243 g1 (by decide) hn) g3 ?_
  refine x_iload_n (q := 13) dX12_adds_12 rfl rfl ?_
  replace H := kif H; obtain ⟨g4, H⟩ := H
  replace H := kifn H; obtain ⟨g5, H⟩ := H
  refine x_iald (q := 14) dX12_adds_13 rfl (k243 g4 (by decide) hn) g5 ?_
  refine x_iadd (q := 15) dX12_adds_14 rfl ?_
  refine x_lload_n (q := 16) dX12_adds_15 rfl rfl ?_
  replace H := kif H; obtain ⟨g6, H⟩ := H
  replace H := kifn H; obtain ⟨g7, H⟩ := H
  replace H := kle H; obtain ⟨h8, q9, H⟩ := H
  refine x_last (q := 17) dX12_adds_16 rfl (k243 g6 (by decide) hn) g7 ?_
  refine x_nmH q9 ?_
  have n10 : h8.1 = 243 := by rw [q9]; exact hn
  refine x_aload_n (q := 18) dX12_adds_17 rfl rfl ?_
  replace H := kif H; obtain ⟨g11, H⟩ := H
  refine x_getR (q := 21) dX12_adds_18 rfl kl_RX12_87 rfl (k243 g1 (by decide) n10) g11 ?_
  refine x_iload_n (q := 22) dX12_adds_21 rfl rfl ?_
  refine x_dup2 (q := 23) dX12_adds_22 rfl ⟨rfl, rfl⟩ ?_
  replace H := kif H; obtain ⟨g12, H⟩ := H
  replace H := kifn H; obtain ⟨g13, H⟩ := H
  refine x_iald (q := 24) dX12_adds_23 rfl (k243 g12 (by decide) n10) g13 ?_
  refine x_iconst (q := 25) (v := (1 : Int32)) dX12_adds_24 rfl (by decide) ?_
  refine x_iadd (q := 26) dX12_adds_25 rfl ?_
  replace H := kle H; obtain ⟨h14, q15, H⟩ := H
  refine x_iast (q := 27) dX12_adds_26 rfl (k243 g12 (by decide) n10) g13 ?_
  refine x_nmH q15 ?_
  have n16 : h14.1 = 243 := by rw [q15]; exact n10
  refine x_aload_n (q := 28) dX12_adds_27 rfl rfl ?_
  replace H := kif H; obtain ⟨g17, H⟩ := H
  refine x_getR (q := 31) dX12_adds_28 rfl kl_RX12_87 rfl (k243 g1 (by decide) n16) g17 ?_
  refine x_iload_n (q := 32) dX12_adds_31 rfl rfl ?_
  replace H := kif H; obtain ⟨g18, H⟩ := H
  replace H := kifn H; obtain ⟨g19, H⟩ := H
  refine x_iald (q := 33) dX12_adds_32 rfl (k243 g18 (by decide) n16) g19 ?_
  refine x_iconst (q := 34) (v := (1 : Int32)) dX12_adds_33 rfl (by decide) ?_
  refine x_isub (q := 35) dX12_adds_34 rfl ?_
  cases H
  exact x_end ⟨dX12_adds_35, rfl, rfl⟩
theorem s_X12_adds {Z : Nat → (Nat → Nat) → State → Prop} (h : KH) (v0 : Nat) (v1 : Int32) (v2 : Int64) {t : Int32 × KH} (hn : h.1 = 243) (H : f_X12_adds h v0 v1 v2 = some t) : KM Z yX12_adds cX12_adds 4 (some .int) 1 [.ref v0, .int v1, .long v2] h (some (.int t.1)) t.2 :=
  kx_i (own := RX12) (ini := false) (by decide +kernel) (by decide +kernel) rfl (Nat.le_of_ble_eq_true rfl) (s0_X12_adds h v0 v1 v2 hn H)
theorem dX12_kindTold_0 : decode cX12_kindTold 0 = .ok (.aload_n 0, 1) := by decide +kernel
theorem dX12_kindTold_1 : decode cX12_kindTold 1 = .ok (.iconst 0, 1) := by decide +kernel
theorem dX12_kindTold_2 : decode cX12_kindTold 2 = .ok (.bipush 6, 2) := by decide +kernel
theorem dX12_kindTold_4 : decode cX12_kindTold 4 = .ok (.iload_n 1, 1) := by decide +kernel
theorem dX12_kindTold_5 : decode cX12_kindTold 5 = .ok (.invokevirtual 293, 3) := by decide +kernel
theorem dX12_kindTold_8 : decode cX12_kindTold 8 = .ok (.ifCond .eq 4, 3) := by decide +kernel
theorem dX12_kindTold_11 : decode cX12_kindTold 11 = .ok (.return_, 1) := by decide +kernel
theorem dX12_kindTold_12 : decode cX12_kindTold 12 = .ok (.aload_n 0, 1) := by decide +kernel
theorem dX12_kindTold_13 : decode cX12_kindTold 13 = .ok (.invokevirtual 297, 3) := by decide +kernel
theorem dX12_kindTold_16 : decode cX12_kindTold 16 = .ok (.lstore_n 2, 1) := by decide +kernel
theorem dX12_kindTold_17 : decode cX12_kindTold 17 = .ok (.aload_n 0, 1) := by decide +kernel
theorem dX12_kindTold_18 : decode cX12_kindTold 18 = .ok (.aload_n 0, 1) := by decide +kernel
theorem dX12_kindTold_19 : decode cX12_kindTold 19 = .ok (.getfield 24, 3) := by decide +kernel
theorem dX12_kindTold_22 : decode cX12_kindTold 22 = .ok (.invokevirtual 300, 3) := by decide +kernel
theorem dX12_kindTold_25 : decode cX12_kindTold 25 = .ok (.aload_n 0, 1) := by decide +kernel
theorem dX12_kindTold_26 : decode cX12_kindTold 26 = .ok (.iconst 0, 1) := by decide +kernel
theorem dX12_kindTold_27 : decode cX12_kindTold 27 = .ok (.bipush 99, 2) := by decide +kernel
theorem dX12_kindTold_29 : decode cX12_kindTold 29 = .ok (.invokevirtual 304, 3) := by decide +kernel
theorem dX12_kindTold_32 : decode cX12_kindTold 32 = .ok (.istore 4, 2) := by decide +kernel
theorem dX12_kindTold_34 : decode cX12_kindTold 34 = .ok (.aload_n 0, 1) := by decide +kernel
theorem dX12_kindTold_35 : decode cX12_kindTold 35 = .ok (.aload_n 0, 1) := by decide +kernel
theorem dX12_kindTold_36 : decode cX12_kindTold 36 = .ok (.getfield 27, 3) := by decide +kernel
theorem dX12_kindTold_39 : decode cX12_kindTold 39 = .ok (.invokevirtual 300, 3) := by decide +kernel
theorem dX12_kindTold_42 : decode cX12_kindTold 42 = .ok (.aload_n 0, 1) := by decide +kernel
theorem dX12_kindTold_43 : decode cX12_kindTold 43 = .ok (.iconst 0, 1) := by decide +kernel
theorem dX12_kindTold_44 : decode cX12_kindTold 44 = .ok (.bipush 99, 2) := by decide +kernel
theorem dX12_kindTold_46 : decode cX12_kindTold 46 = .ok (.invokevirtual 304, 3) := by decide +kernel
theorem dX12_kindTold_49 : decode cX12_kindTold 49 = .ok (.istore 5, 2) := by decide +kernel
theorem dX12_kindTold_51 : decode cX12_kindTold 51 = .ok (.aload_n 0, 1) := by decide +kernel
theorem dX12_kindTold_52 : decode cX12_kindTold 52 = .ok (.aload_n 0, 1) := by decide +kernel
theorem dX12_kindTold_53 : decode cX12_kindTold 53 = .ok (.getfield 30, 3) := by decide +kernel
theorem dX12_kindTold_56 : decode cX12_kindTold 56 = .ok (.invokevirtual 300, 3) := by decide +kernel
theorem dX12_kindTold_59 : decode cX12_kindTold 59 = .ok (.aload_n 0, 1) := by decide +kernel
theorem dX12_kindTold_60 : decode cX12_kindTold 60 = .ok (.iconst 0, 1) := by decide +kernel
theorem dX12_kindTold_61 : decode cX12_kindTold 61 = .ok (.bipush 9, 2) := by decide +kernel
theorem dX12_kindTold_63 : decode cX12_kindTold 63 = .ok (.invokevirtual 304, 3) := by decide +kernel
theorem dX12_kindTold_66 : decode cX12_kindTold 66 = .ok (.istore 6, 2) := by decide +kernel
theorem dX12_kindTold_68 : decode cX12_kindTold 68 = .ok (.aload_n 0, 1) := by decide +kernel
theorem dX12_kindTold_69 : decode cX12_kindTold 69 = .ok (.aload_n 0, 1) := by decide +kernel
theorem dX12_kindTold_70 : decode cX12_kindTold 70 = .ok (.getfield 33, 3) := by decide +kernel
theorem dX12_kindTold_73 : decode cX12_kindTold 73 = .ok (.invokevirtual 300, 3) := by decide +kernel
theorem dX12_kindTold_76 : decode cX12_kindTold 76 = .ok (.aload_n 0, 1) := by decide +kernel
theorem dX12_kindTold_77 : decode cX12_kindTold 77 = .ok (.iconst 0, 1) := by decide +kernel
theorem dX12_kindTold_78 : decode cX12_kindTold 78 = .ok (.bipush 9, 2) := by decide +kernel
theorem dX12_kindTold_80 : decode cX12_kindTold 80 = .ok (.invokevirtual 304, 3) := by decide +kernel
theorem dX12_kindTold_83 : decode cX12_kindTold 83 = .ok (.istore 7, 2) := by decide +kernel
theorem dX12_kindTold_85 : decode cX12_kindTold 85 = .ok (.aload_n 0, 1) := by decide +kernel
theorem dX12_kindTold_86 : decode cX12_kindTold 86 = .ok (.getfield 230, 3) := by decide +kernel
theorem dX12_kindTold_89 : decode cX12_kindTold 89 = .ok (.ifCond .eq 4, 3) := by decide +kernel
theorem dX12_kindTold_92 : decode cX12_kindTold 92 = .ok (.return_, 1) := by decide +kernel
theorem dX12_kindTold_93 : decode cX12_kindTold 93 = .ok (.iconst 4, 1) := by decide +kernel
theorem dX12_kindTold_94 : decode cX12_kindTold 94 = .ok (.aload_n 0, 1) := by decide +kernel
theorem dX12_kindTold_95 : decode cX12_kindTold 95 = .ok (.iconst 0, 1) := by decide +kernel
theorem dX12_kindTold_96 : decode cX12_kindTold 96 = .ok (.lload_n 2, 1) := by decide +kernel
theorem dX12_kindTold_97 : decode cX12_kindTold 97 = .ok (.invokevirtual 308, 3) := by decide +kernel
theorem dX12_kindTold_100 : decode cX12_kindTold 100 = .ok (.imul, 1) := by decide +kernel
theorem dX12_kindTold_101 : decode cX12_kindTold 101 = .ok (.istore 8, 2) := by decide +kernel
theorem dX12_kindTold_103 : decode cX12_kindTold 103 = .ok (.aload_n 0, 1) := by decide +kernel
theorem dX12_kindTold_104 : decode cX12_kindTold 104 = .ok (.getfield 94, 3) := by decide +kernel
theorem dX12_kindTold_107 : decode cX12_kindTold 107 = .ok (.iload 8, 2) := by decide +kernel
theorem dX12_kindTold_109 : decode cX12_kindTold 109 = .ok (.iload 4, 2) := by decide +kernel
theorem dX12_kindTold_111 : decode cX12_kindTold 111 = .ok (.iastore, 1) := by decide +kernel
theorem dX12_kindTold_112 : decode cX12_kindTold 112 = .ok (.aload_n 0, 1) := by decide +kernel
theorem dX12_kindTold_113 : decode cX12_kindTold 113 = .ok (.getfield 94, 3) := by decide +kernel
theorem dX12_kindTold_116 : decode cX12_kindTold 116 = .ok (.iload 8, 2) := by decide +kernel
theorem dX12_kindTold_118 : decode cX12_kindTold 118 = .ok (.iconst 1, 1) := by decide +kernel
theorem dX12_kindTold_119 : decode cX12_kindTold 119 = .ok (.iadd, 1) := by decide +kernel
theorem dX12_kindTold_120 : decode cX12_kindTold 120 = .ok (.iload 5, 2) := by decide +kernel
theorem dX12_kindTold_122 : decode cX12_kindTold 122 = .ok (.iastore, 1) := by decide +kernel
theorem dX12_kindTold_123 : decode cX12_kindTold 123 = .ok (.aload_n 0, 1) := by decide +kernel
theorem dX12_kindTold_124 : decode cX12_kindTold 124 = .ok (.getfield 94, 3) := by decide +kernel
theorem dX12_kindTold_127 : decode cX12_kindTold 127 = .ok (.iload 8, 2) := by decide +kernel
theorem dX12_kindTold_129 : decode cX12_kindTold 129 = .ok (.iconst 2, 1) := by decide +kernel
theorem dX12_kindTold_130 : decode cX12_kindTold 130 = .ok (.iadd, 1) := by decide +kernel
theorem dX12_kindTold_131 : decode cX12_kindTold 131 = .ok (.iload 6, 2) := by decide +kernel
theorem dX12_kindTold_133 : decode cX12_kindTold 133 = .ok (.iastore, 1) := by decide +kernel
theorem dX12_kindTold_134 : decode cX12_kindTold 134 = .ok (.aload_n 0, 1) := by decide +kernel
theorem dX12_kindTold_135 : decode cX12_kindTold 135 = .ok (.getfield 94, 3) := by decide +kernel
theorem dX12_kindTold_138 : decode cX12_kindTold 138 = .ok (.iload 8, 2) := by decide +kernel
theorem dX12_kindTold_140 : decode cX12_kindTold 140 = .ok (.iconst 3, 1) := by decide +kernel
theorem dX12_kindTold_141 : decode cX12_kindTold 141 = .ok (.iadd, 1) := by decide +kernel
theorem dX12_kindTold_142 : decode cX12_kindTold 142 = .ok (.iload 7, 2) := by decide +kernel
theorem dX12_kindTold_144 : decode cX12_kindTold 144 = .ok (.iastore, 1) := by decide +kernel
theorem dX12_kindTold_145 : decode cX12_kindTold 145 = .ok (.return_, 1) := by decide +kernel
theorem kc_RX12_293 : Cond.methodLink RX12 293 yX12_isFull ∈ ktG ∧ (Cond.instanceMethod yX12_isFull ∈ ktG ∧ Cond.selects yX12_isFull.cls yX12_isFull yX12_isFull ∈ ktG) ∧ Cond.initialized yX12_isFull.cls ∈ ktG ∧ Cond.code yX12_isFull cX12_isFull 4 (some .boolean) ∈ ktG := ⟨(kwm 1529 (by decide +kernel) (by decide +kernel)), ⟨(kwm 1531 (by decide +kernel) (by decide +kernel)), (kwm 42 (by decide +kernel) (by decide +kernel))⟩, (kwm 139 (by decide +kernel) (by decide +kernel)), kwm 1532 (by decide +kernel) (by decide +kernel)⟩
theorem kh_X12_isFull : yX12_isFull.cls ≠ "java/lang/invoke/MethodHandle" ∧ yX12_isFull.cls ≠ "java/lang/invoke/VarHandle" ∧ (parseMethodDescriptor yX12_isFull.desc).map (fun d => d.parameters.length) = some 3 := by decide +kernel
theorem kc_RX12_297 : Cond.methodLink RX12 297 yX12_newName ∈ ktG ∧ (Cond.instanceMethod yX12_newName ∈ ktG ∧ Cond.selects yX12_newName.cls yX12_newName yX12_newName ∈ ktG) ∧ Cond.initialized yX12_newName.cls ∈ ktG ∧ Cond.code yX12_newName cX12_newName 5 (some .long) ∈ ktG := ⟨(kwm 1533 (by decide +kernel) (by decide +kernel)), ⟨(kwm 1535 (by decide +kernel) (by decide +kernel)), (kwm 43 (by decide +kernel) (by decide +kernel))⟩, (kwm 139 (by decide +kernel) (by decide +kernel)), kwm 1536 (by decide +kernel) (by decide +kernel)⟩
theorem kh_X12_newName : yX12_newName.cls ≠ "java/lang/invoke/MethodHandle" ∧ yX12_newName.cls ≠ "java/lang/invoke/VarHandle" ∧ (parseMethodDescriptor yX12_newName.desc).map (fun d => d.parameters.length) = some 0 := by decide +kernel
theorem kc_RX12_300 : Cond.methodLink RX12 300 yX12_asks ∈ ktG ∧ (Cond.instanceMethod yX12_asks ∈ ktG ∧ Cond.selects yX12_asks.cls yX12_asks yX12_asks ∈ ktG) ∧ Cond.initialized yX12_asks.cls ∈ ktG ∧ Cond.code yX12_asks cX12_asks 2 none ∈ ktG := ⟨(kwm 1547 (by decide +kernel) (by decide +kernel)), ⟨(kwm 1549 (by decide +kernel) (by decide +kernel)), (kwm 46 (by decide +kernel) (by decide +kernel))⟩, (kwm 139 (by decide +kernel) (by decide +kernel)), kwm 1550 (by decide +kernel) (by decide +kernel)⟩
theorem kh_X12_asks : yX12_asks.cls ≠ "java/lang/invoke/MethodHandle" ∧ yX12_asks.cls ≠ "java/lang/invoke/VarHandle" ∧ (parseMethodDescriptor yX12_asks.desc).map (fun d => d.parameters.length) = some 1 := by decide +kernel
theorem kc_RX12_304 : Cond.methodLink RX12 304 yX12_number ∈ ktG ∧ (Cond.instanceMethod yX12_number ∈ ktG ∧ Cond.selects yX12_number.cls yX12_number yX12_number ∈ ktG) ∧ Cond.initialized yX12_number.cls ∈ ktG ∧ Cond.code yX12_number cX12_number 5 (some .int) ∈ ktG := ⟨(kwm 1551 (by decide +kernel) (by decide +kernel)), ⟨(kwm 1553 (by decide +kernel) (by decide +kernel)), (kwm 47 (by decide +kernel) (by decide +kernel))⟩, (kwm 139 (by decide +kernel) (by decide +kernel)), kwm 1554 (by decide +kernel) (by decide +kernel)⟩
theorem kh_X12_number : yX12_number.cls ≠ "java/lang/invoke/MethodHandle" ∧ yX12_number.cls ≠ "java/lang/invoke/VarHandle" ∧ (parseMethodDescriptor yX12_number.desc).map (fun d => d.parameters.length) = some 2 := by decide +kernel
theorem kc_RX12_308 : Cond.methodLink RX12 308 yX12_adds ∈ ktG ∧ (Cond.instanceMethod yX12_adds ∈ ktG ∧ Cond.selects yX12_adds.cls yX12_adds yX12_adds ∈ ktG) ∧ Cond.initialized yX12_adds.cls ∈ ktG ∧ Cond.code yX12_adds cX12_adds 4 (some .int) ∈ ktG := ⟨(kwm 1561 (by decide +kernel) (by decide +kernel)), ⟨(kwm 1563 (by decide +kernel) (by decide +kernel)), (kwm 48 (by decide +kernel) (by decide +kernel))⟩, (kwm 139 (by decide +kernel) (by decide +kernel)), kwm 1564 (by decide +kernel) (by decide +kernel)⟩
theorem kh_X12_adds : yX12_adds.cls ≠ "java/lang/invoke/MethodHandle" ∧ yX12_adds.cls ≠ "java/lang/invoke/VarHandle" ∧ (parseMethodDescriptor yX12_adds.desc).map (fun d => d.parameters.length) = some 2 := by decide +kernel
theorem kl_RX12_94 : KLk RX12 94 12 35 := ⟨RX12, TX12, 97, rfl, by decide, Or.inl (kwm 1232 (by decide +kernel) (by decide +kernel))⟩
def f_X12_kindTold (h : KH) (v0 : Nat) (v1 : Int32) : Option (KH) :=
  if kkind v0 = 12 then kb (f_X12_isFull h v0 (0 : Int32) (6 : Int32) v1) fun r2 =>
  if r2.1 = 0 then
  kb (f_X12_newName r2.2 v0) fun r7 =>
  if (kR r7.2 v0 11) < 999999 then kb (f_X12_asks r7.2 v0 (kR r7.2 v0 11)) fun r12 =>
  kb (f_X12_number r12 v0 (0 : Int32) (99 : Int32)) fun r16 =>
  if (kR r16.2 v0 12) < 999999 then kb (f_X12_asks r16.2 v0 (kR r16.2 v0 12)) fun r21 =>
  kb (f_X12_number r21 v0 (0 : Int32) (99 : Int32)) fun r25 =>
  if (kR r25.2 v0 13) < 999999 then kb (f_X12_asks r25.2 v0 (kR r25.2 v0 13)) fun r30 =>
  kb (f_X12_number r30 v0 (0 : Int32) (9 : Int32)) fun r34 =>
  if (kR r34.2 v0 14) < 999999 then kb (f_X12_asks r34.2 v0 (kR r34.2 v0 14)) fun r39 =>
  kb (f_X12_number r39 v0 (0 : Int32) (9 : Int32)) fun r43 =>
  if (kI r43.2 v0 5) = 0 then
  kb (f_X12_adds r43.2 v0 (0 : Int32) r7.1) fun r48 =>
  kl ((4 : Int32) * r48.1) fun x52 =>
  if (kR r48.2 v0 35) < 999999 then if kkind (kR r48.2 v0 35) = 20 then if (x52 < 0 ∨ klen (kR r48.2 v0 35) ≤ (x52).toNatClampNeg) then none else kl (ksI r48.2 (kR r48.2 v0 35) ((x52).toNatClampNeg) r16.1) fun h57 =>
  if (kR h57 v0 35) < 999999 then if kkind (kR h57 v0 35) = 20 then if ((x52 + (1 : Int32)) < 0 ∨ klen (kR h57 v0 35) ≤ ((x52 + (1 : Int32))).toNatClampNeg) then none else kl (ksI h57 (kR h57 v0 35) (((x52 + (1 : Int32))).toNatClampNeg) r25.1) fun h63 =>
  if (kR h63 v0 35) < 999999 then if kkind (kR h63 v0 35) = 20 then if ((x52 + (2 : Int32)) < 0 ∨ klen (kR h63 v0 35) ≤ ((x52 + (2 : Int32))).toNatClampNeg) then none else kl (ksI h63 (kR h63 v0 35) (((x52 + (2 : Int32))).toNatClampNeg) r34.1) fun h69 =>
  if (kR h69 v0 35) < 999999 then if kkind (kR h69 v0 35) = 20 then if ((x52 + (3 : Int32)) < 0 ∨ klen (kR h69 v0 35) ≤ ((x52 + (3 : Int32))).toNatClampNeg) then none else kl (ksI h69 (kR h69 v0 35) (((x52 + (3 : Int32))).toNatClampNeg) r43.1) fun h75 =>
  some h75 else none else none else none else none else none else none else none else none
  else
  some r43.2 else none else none else none else none
  else
  some r2.2 else none
set_option maxHeartbeats 4000000 in
set_option maxRecDepth 100000 in
theorem s0_X12_kindTold {Z : Nat → (Nat → Nat) → State → Prop} (h : KH) (v0 : Nat) (v1 : Int32) {t : KH} (hn : h.1 = 243) (H : f_X12_kindTold h v0 v1 = some t) : KX Z RX12 cX12_kindTold 9 false 6 (KRv cX12_kindTold t) 0 [(0, .ref v0), (1, .int v1)] [] h := by
  unfold f_X12_kindTold at H
  refine x_aload_n (q := 1) dX12_kindTold_0 rfl rfl ?_
  refine x_iconst (q := 2) (v := (0 : Int32)) dX12_kindTold_1 rfl (by decide) ?_
  refine x_bipush (q := 4) (v := (6 : Int32)) dX12_kindTold_2 rfl (by decide) ?_
  refine x_iload_n (q := 5) dX12_kindTold_4 rfl rfl ?_
  replace H := kif H; obtain ⟨g1, H⟩ := H
  replace H := kbe H; obtain ⟨r2, c3, H⟩ := H
  have m4 := s_X12_isFull (Z := Z) h v0 (0 : Int32) (6 : Int32) v1 hn c3
  refine x_callV (q := 8) (as := [.int (0 : Int32), .int (6 : Int32), .int v1]) (rest := []) dX12_kindTold_5 rfl kc_RX12_293 kh_X12_isFull (by decide) (Nat.le_of_ble_eq_true rfl) m4 (ci := 12) (by exact ⟨rfl, by decide⟩) (k243 g1 (by decide) hn) ?_
  have n5 : (r2.2).1 = 243 := m4.1.full hn
  replace H := kite H; rcases H with ⟨g6, H⟩ | ⟨g6, H⟩
  · refine x_if_eq_t dX12_kindTold_8 (q := 12) (by decide) g6 ?_
    refine x_aload_n (q := 13) dX12_kindTold_12 rfl rfl ?_
    replace H := kbe H; obtain ⟨r7, c8, H⟩ := H
    have m9 := s_X12_newName (Z := Z) r2.2 v0 n5 c8
    refine x_callV (q := 16) (as := []) (rest := []) dX12_kindTold_13 rfl kc_RX12_297 kh_X12_newName (by decide) (Nat.le_of_ble_eq_true rfl) m9 (ci := 12) (by exact ⟨rfl, by decide⟩) (k243 g1 (by decide) n5) ?_
    have n10 : (r7.2).1 = 243 := m9.1.full n5
    refine x_lstore_n (q := 17) (i := 2) (ls2 := [(2, .long r7.1), (0, .ref v0), (1, .int v1)]) dX12_kindTold_16 rfl rfl (by decide) rfl ?_
    refine x_aload_n (q := 18) dX12_kindTold_17 rfl rfl ?_
    refine x_aload_n (q := 19) dX12_kindTold_18 rfl rfl ?_
    replace H := kif H; obtain ⟨g11, H⟩ := H
    refine x_getR (q := 22) dX12_kindTold_19 rfl kl_RX12_24 rfl (k243 g1 (by decide) n10) g11 ?_
    replace H := kbe H; obtain ⟨r12, c13, H⟩ := H
    have m14 := s_X12_asks (Z := Z) r7.2 v0 (kR r7.2 v0 11) n10 c13
    refine x_callV (q := 25) (as := [.ref (kR r7.2 v0 11)]) (rest := []) dX12_kindTold_22 rfl kc_RX12_300 kh_X12_asks (by decide) (Nat.le_of_ble_eq_true rfl) m14 (ci := 12) (by exact ⟨rfl, by decide⟩) (k243 g1 (by decide) n10) ?_
    have n15 : (r12).1 = 243 := m14.1.full n10
    refine x_aload_n (q := 26) dX12_kindTold_25 rfl rfl ?_
    refine x_iconst (q := 27) (v := (0 : Int32)) dX12_kindTold_26 rfl (by decide) ?_
    refine x_bipush (q := 29) (v := (99 : Int32)) dX12_kindTold_27 rfl (by decide) ?_
    replace H := kbe H; obtain ⟨r16, c17, H⟩ := H
    have m18 := s_X12_number (Z := Z) r12 v0 (0 : Int32) (99 : Int32) n15 c17
    refine x_callV (q := 32) (as := [.int (0 : Int32), .int (99 : Int32)]) (rest := []) dX12_kindTold_29 rfl kc_RX12_304 kh_X12_number (by decide) (Nat.le_of_ble_eq_true rfl) m18 (ci := 12) (by exact ⟨rfl, by decide⟩) (k243 g1 (by decide) n15) ?_
    have n19 : (r16.2).1 = 243 := m18.1.full n15
    refine x_istore (q := 34) (i := 4) (ls2 := [(4, .int r16.1), (2, .long r7.1), (0, .ref v0), (1, .int v1)]) dX12_kindTold_32 rfl (by decide) rfl ?_
    refine x_aload_n (q := 35) dX12_kindTold_34 rfl rfl ?_
    refine x_aload_n (q := 36) dX12_kindTold_35 rfl rfl ?_
    replace H := kif H; obtain ⟨g20, H⟩ := H
    refine x_getR (q := 39) dX12_kindTold_36 rfl kl_RX12_27 rfl (k243 g1 (by decide) n19) g20 ?_
    replace H := kbe H; obtain ⟨r21, c22, H⟩ := H
    have m23 := s_X12_asks (Z := Z) r16.2 v0 (kR r16.2 v0 12) n19 c22
    refine x_callV (q := 42) (as := [.ref (kR r16.2 v0 12)]) (rest := []) dX12_kindTold_39 rfl kc_RX12_300 kh_X12_asks (by decide) (Nat.le_of_ble_eq_true rfl) m23 (ci := 12) (by exact ⟨rfl, by decide⟩) (k243 g1 (by decide) n19) ?_
    have n24 : (r21).1 = 243 := m23.1.full n19
    refine x_aload_n (q := 43) dX12_kindTold_42 rfl rfl ?_
    refine x_iconst (q := 44) (v := (0 : Int32)) dX12_kindTold_43 rfl (by decide) ?_
    refine x_bipush (q := 46) (v := (99 : Int32)) dX12_kindTold_44 rfl (by decide) ?_
    replace H := kbe H; obtain ⟨r25, c26, H⟩ := H
    have m27 := s_X12_number (Z := Z) r21 v0 (0 : Int32) (99 : Int32) n24 c26
    refine x_callV (q := 49) (as := [.int (0 : Int32), .int (99 : Int32)]) (rest := []) dX12_kindTold_46 rfl kc_RX12_304 kh_X12_number (by decide) (Nat.le_of_ble_eq_true rfl) m27 (ci := 12) (by exact ⟨rfl, by decide⟩) (k243 g1 (by decide) n24) ?_
    have n28 : (r25.2).1 = 243 := m27.1.full n24
    refine x_istore (q := 51) (i := 5) (ls2 := [(5, .int r25.1), (4, .int r16.1), (2, .long r7.1), (0, .ref v0), (1, .int v1)]) dX12_kindTold_49 rfl (by decide) rfl ?_
    refine x_aload_n (q := 52) dX12_kindTold_51 rfl rfl ?_
    refine x_aload_n (q := 53) dX12_kindTold_52 rfl rfl ?_
    replace H := kif H; obtain ⟨g29, H⟩ := H
    refine x_getR (q := 56) dX12_kindTold_53 rfl kl_RX12_30 rfl (k243 g1 (by decide) n28) g29 ?_
    replace H := kbe H; obtain ⟨r30, c31, H⟩ := H
    have m32 := s_X12_asks (Z := Z) r25.2 v0 (kR r25.2 v0 13) n28 c31
    refine x_callV (q := 59) (as := [.ref (kR r25.2 v0 13)]) (rest := []) dX12_kindTold_56 rfl kc_RX12_300 kh_X12_asks (by decide) (Nat.le_of_ble_eq_true rfl) m32 (ci := 12) (by exact ⟨rfl, by decide⟩) (k243 g1 (by decide) n28) ?_
    have n33 : (r30).1 = 243 := m32.1.full n28
    refine x_aload_n (q := 60) dX12_kindTold_59 rfl rfl ?_
    refine x_iconst (q := 61) (v := (0 : Int32)) dX12_kindTold_60 rfl (by decide) ?_
    refine x_bipush (q := 63) (v := (9 : Int32)) dX12_kindTold_61 rfl (by decide) ?_
    replace H := kbe H; obtain ⟨r34, c35, H⟩ := H
    have m36 := s_X12_number (Z := Z) r30 v0 (0 : Int32) (9 : Int32) n33 c35
    refine x_callV (q := 66) (as := [.int (0 : Int32), .int (9 : Int32)]) (rest := []) dX12_kindTold_63 rfl kc_RX12_304 kh_X12_number (by decide) (Nat.le_of_ble_eq_true rfl) m36 (ci := 12) (by exact ⟨rfl, by decide⟩) (k243 g1 (by decide) n33) ?_
    have n37 : (r34.2).1 = 243 := m36.1.full n33
    refine x_istore (q := 68) (i := 6) (ls2 := [(6, .int r34.1), (5, .int r25.1), (4, .int r16.1), (2, .long r7.1), (0, .ref v0), (1, .int v1)]) dX12_kindTold_66 rfl (by decide) rfl ?_
    refine x_aload_n (q := 69) dX12_kindTold_68 rfl rfl ?_
    refine x_aload_n (q := 70) dX12_kindTold_69 rfl rfl ?_
    replace H := kif H; obtain ⟨g38, H⟩ := H
    refine x_getR (q := 73) dX12_kindTold_70 rfl kl_RX12_33 rfl (k243 g1 (by decide) n37) g38 ?_
    replace H := kbe H; obtain ⟨r39, c40, H⟩ := H
    have m41 := s_X12_asks (Z := Z) r34.2 v0 (kR r34.2 v0 14) n37 c40
    refine x_callV (q := 76) (as := [.ref (kR r34.2 v0 14)]) (rest := []) dX12_kindTold_73 rfl kc_RX12_300 kh_X12_asks (by decide) (Nat.le_of_ble_eq_true rfl) m41 (ci := 12) (by exact ⟨rfl, by decide⟩) (k243 g1 (by decide) n37) ?_
    have n42 : (r39).1 = 243 := m41.1.full n37
    refine x_aload_n (q := 77) dX12_kindTold_76 rfl rfl ?_
    refine x_iconst (q := 78) (v := (0 : Int32)) dX12_kindTold_77 rfl (by decide) ?_
    refine x_bipush (q := 80) (v := (9 : Int32)) dX12_kindTold_78 rfl (by decide) ?_
    replace H := kbe H; obtain ⟨r43, c44, H⟩ := H
    have m45 := s_X12_number (Z := Z) r39 v0 (0 : Int32) (9 : Int32) n42 c44
    refine x_callV (q := 83) (as := [.int (0 : Int32), .int (9 : Int32)]) (rest := []) dX12_kindTold_80 rfl kc_RX12_304 kh_X12_number (by decide) (Nat.le_of_ble_eq_true rfl) m45 (ci := 12) (by exact ⟨rfl, by decide⟩) (k243 g1 (by decide) n42) ?_
    have n46 : (r43.2).1 = 243 := m45.1.full n42
    refine x_istore (q := 85) (i := 7) (ls2 := [(7, .int r43.1), (6, .int r34.1), (5, .int r25.1), (4, .int r16.1), (2, .long r7.1), (0, .ref v0), (1, .int v1)]) dX12_kindTold_83 rfl (by decide) rfl ?_
    refine x_aload_n (q := 86) dX12_kindTold_85 rfl rfl ?_
    refine x_getI (q := 89) dX12_kindTold_86 rfl kl_RX12_230 (Or.inl rfl) (k243 g1 (by decide) n46) ?_
    replace H := kite H; rcases H with ⟨g47, H⟩ | ⟨g47, H⟩
    · refine x_if_eq_t dX12_kindTold_89 (q := 93) (by decide) g47 ?_
      refine x_iconst (q := 94) (v := (4 : Int32)) dX12_kindTold_93 rfl (by decide) ?_
      refine x_aload_n (q := 95) dX12_kindTold_94 rfl rfl ?_
      refine x_iconst (q := 96) (v := (0 : Int32)) dX12_kindTold_95 rfl (by decide) ?_
      refine x_lload_n (q := 97) dX12_kindTold_96 rfl rfl ?_
      replace H := kbe H; obtain ⟨r48, c49, H⟩ := H
      have m50 := s_X12_adds (Z := Z) r43.2 v0 (0 : Int32) r7.1 n46 c49
      refine x_callV (q := 100) (as := [.int (0 : Int32), .long r7.1]) (rest := [.int (4 : Int32)]) dX12_kindTold_97 rfl kc_RX12_308 kh_X12_adds (by decide) (Nat.le_of_ble_eq_true rfl) m50 (ci := 12) (by exact ⟨rfl, by decide⟩) (k243 g1 (by decide) n46) ?_
      have n51 : (r48.2).1 = 243 := m50.1.full n46
      refine x_imul (q := 101) dX12_kindTold_100 rfl ?_
      replace H := kle H; obtain ⟨x52, q53, H⟩ := H
      refine x_nmI q53 ?_
      refine x_istore (q := 103) (i := 8) (ls2 := [(8, .int x52), (7, .int r43.1), (6, .int r34.1), (5, .int r25.1), (4, .int r16.1), (2, .long r7.1), (0, .ref v0), (1, .int v1)]) dX12_kindTold_101 rfl (by decide) rfl ?_
      refine x_aload_n (q := 104) dX12_kindTold_103 rfl rfl ?_
      replace H := kif H; obtain ⟨g54, H⟩ := H
      refine x_getR (q := 107) dX12_kindTold_104 rfl kl_RX12_94 rfl (k243 g1 (by decide) n51) g54 ?_
      refine x_iload (q := 109) dX12_kindTold_107 rfl rfl ?_
      refine x_iload (q := 111) dX12_kindTold_109 rfl rfl ?_
      replace H := kif H; obtain ⟨g55, H⟩ := H
      replace H := kifn H; obtain ⟨g56, H⟩ := H
      replace H := kle H; obtain ⟨h57, q58, H⟩ := H
      refine x_iast (q := 112) dX12_kindTold_111 rfl (k243 g55 (by decide) n51) g56 ?_
      refine x_nmH q58 ?_
      have n59 : h57.1 = 243 := by rw [q58]; exact n51
      refine x_aload_n (q := 113) dX12_kindTold_112 rfl rfl ?_
      replace H := kif H; obtain ⟨g60, H⟩ := H
      refine x_getR (q := 116) dX12_kindTold_113 rfl kl_RX12_94 rfl (k243 g1 (by decide) n59) g60 ?_
      refine x_iload (q := 118) dX12_kindTold_116 rfl rfl ?_
      refine x_iconst (q := 119) (v := (1 : Int32)) dX12_kindTold_118 rfl (by decide) ?_
      refine x_iadd (q := 120) dX12_kindTold_119 rfl ?_
      refine x_iload (q := 122) dX12_kindTold_120 rfl rfl ?_
      replace H := kif H; obtain ⟨g61, H⟩ := H
      replace H := kifn H; obtain ⟨g62, H⟩ := H
      replace H := kle H; obtain ⟨h63, q64, H⟩ := H
      refine x_iast (q := 123) dX12_kindTold_122 rfl (k243 g61 (by decide) n59) g62 ?_
      refine x_nmH q64 ?_
      have n65 : h63.1 = 243 := by rw [q64]; exact n59
      refine x_aload_n (q := 124) dX12_kindTold_123 rfl rfl ?_
      replace H := kif H; obtain ⟨g66, H⟩ := H
      refine x_getR (q := 127) dX12_kindTold_124 rfl kl_RX12_94 rfl (k243 g1 (by decide) n65) g66 ?_
      refine x_iload (q := 129) dX12_kindTold_127 rfl rfl ?_
      refine x_iconst (q := 130) (v := (2 : Int32)) dX12_kindTold_129 rfl (by decide) ?_
      refine x_iadd (q := 131) dX12_kindTold_130 rfl ?_
      refine x_iload (q := 133) dX12_kindTold_131 rfl rfl ?_
      replace H := kif H; obtain ⟨g67, H⟩ := H
      replace H := kifn H; obtain ⟨g68, H⟩ := H
      replace H := kle H; obtain ⟨h69, q70, H⟩ := H
      refine x_iast (q := 134) dX12_kindTold_133 rfl (k243 g67 (by decide) n65) g68 ?_
      refine x_nmH q70 ?_
      have n71 : h69.1 = 243 := by rw [q70]; exact n65
      refine x_aload_n (q := 135) dX12_kindTold_134 rfl rfl ?_
      replace H := kif H; obtain ⟨g72, H⟩ := H
      refine x_getR (q := 138) dX12_kindTold_135 rfl kl_RX12_94 rfl (k243 g1 (by decide) n71) g72 ?_
      refine x_iload (q := 140) dX12_kindTold_138 rfl rfl ?_
      refine x_iconst (q := 141) (v := (3 : Int32)) dX12_kindTold_140 rfl (by decide) ?_
      refine x_iadd (q := 142) dX12_kindTold_141 rfl ?_
      refine x_iload (q := 144) dX12_kindTold_142 rfl rfl ?_
      replace H := kif H; obtain ⟨g73, H⟩ := H
      replace H := kifn H; obtain ⟨g74, H⟩ := H
      replace H := kle H; obtain ⟨h75, q76, H⟩ := H
      refine x_iast (q := 145) dX12_kindTold_144 rfl (k243 g73 (by decide) n71) g74 ?_
      refine x_nmH q76 ?_
      have n77 : h75.1 = 243 := by rw [q76]; exact n71
      cases H
      exact x_end ⟨dX12_kindTold_145, rfl, rfl⟩
    · refine x_if_eq_f (q := 92) dX12_kindTold_89 (t := 93) (by decide) rfl g47 ?_
      cases H
      exact x_end ⟨dX12_kindTold_92, rfl, rfl⟩
  · refine x_if_eq_f (q := 11) dX12_kindTold_8 (t := 12) (by decide) rfl g6 ?_
    cases H
    exact x_end ⟨dX12_kindTold_11, rfl, rfl⟩
theorem s_X12_kindTold {Z : Nat → (Nat → Nat) → State → Prop} (h : KH) (v0 : Nat) (v1 : Int32) {t : KH} (hn : h.1 = 243) (H : f_X12_kindTold h v0 v1 = some t) : KM Z yX12_kindTold cX12_kindTold 9 none 6 [.ref v0, .int v1] h none t :=
  kx_v (own := RX12) (ini := false) (by decide +kernel) (by decide +kernel) rfl (Nat.le_of_ble_eq_true rfl) (s0_X12_kindTold h v0 v1 hn H)
theorem dX12_testTold_0 : decode cX12_testTold 0 = .ok (.aload_n 0, 1) := by decide +kernel
theorem dX12_testTold_1 : decode cX12_testTold 1 = .ok (.iconst 1, 1) := by decide +kernel
theorem dX12_testTold_2 : decode cX12_testTold 2 = .ok (.bipush 6, 2) := by decide +kernel
theorem dX12_testTold_4 : decode cX12_testTold 4 = .ok (.iload_n 1, 1) := by decide +kernel
theorem dX12_testTold_5 : decode cX12_testTold 5 = .ok (.invokevirtual 293, 3) := by decide +kernel
theorem dX12_testTold_8 : decode cX12_testTold 8 = .ok (.ifCond .eq 4, 3) := by decide +kernel
theorem dX12_testTold_11 : decode cX12_testTold 11 = .ok (.return_, 1) := by decide +kernel
theorem dX12_testTold_12 : decode cX12_testTold 12 = .ok (.aload_n 0, 1) := by decide +kernel
theorem dX12_testTold_13 : decode cX12_testTold 13 = .ok (.invokevirtual 297, 3) := by decide +kernel
theorem dX12_testTold_16 : decode cX12_testTold 16 = .ok (.lstore_n 2, 1) := by decide +kernel
theorem dX12_testTold_17 : decode cX12_testTold 17 = .ok (.aload_n 0, 1) := by decide +kernel
theorem dX12_testTold_18 : decode cX12_testTold 18 = .ok (.aload_n 0, 1) := by decide +kernel
theorem dX12_testTold_19 : decode cX12_testTold 19 = .ok (.getfield 39, 3) := by decide +kernel
theorem dX12_testTold_22 : decode cX12_testTold 22 = .ok (.invokevirtual 300, 3) := by decide +kernel
theorem dX12_testTold_25 : decode cX12_testTold 25 = .ok (.aload_n 0, 1) := by decide +kernel
theorem dX12_testTold_26 : decode cX12_testTold 26 = .ok (.iconst 0, 1) := by decide +kernel
theorem dX12_testTold_27 : decode cX12_testTold 27 = .ok (.bipush 99, 2) := by decide +kernel
theorem dX12_testTold_29 : decode cX12_testTold 29 = .ok (.invokevirtual 304, 3) := by decide +kernel
theorem dX12_testTold_32 : decode cX12_testTold 32 = .ok (.istore 4, 2) := by decide +kernel
theorem dX12_testTold_34 : decode cX12_testTold 34 = .ok (.aload_n 0, 1) := by decide +kernel
theorem dX12_testTold_35 : decode cX12_testTold 35 = .ok (.getfield 230, 3) := by decide +kernel
theorem dX12_testTold_38 : decode cX12_testTold 38 = .ok (.ifCond .ne 16, 3) := by decide +kernel
theorem dX12_testTold_41 : decode cX12_testTold 41 = .ok (.aload_n 0, 1) := by decide +kernel
theorem dX12_testTold_42 : decode cX12_testTold 42 = .ok (.getfield 97, 3) := by decide +kernel
theorem dX12_testTold_45 : decode cX12_testTold 45 = .ok (.aload_n 0, 1) := by decide +kernel
theorem dX12_testTold_46 : decode cX12_testTold 46 = .ok (.iconst 1, 1) := by decide +kernel
theorem dX12_testTold_47 : decode cX12_testTold 47 = .ok (.lload_n 2, 1) := by decide +kernel
theorem dX12_testTold_48 : decode cX12_testTold 48 = .ok (.invokevirtual 308, 3) := by decide +kernel
theorem dX12_testTold_51 : decode cX12_testTold 51 = .ok (.iload 4, 2) := by decide +kernel
theorem dX12_testTold_53 : decode cX12_testTold 53 = .ok (.iastore, 1) := by decide +kernel
theorem dX12_testTold_54 : decode cX12_testTold 54 = .ok (.return_, 1) := by decide +kernel
theorem kl_RX12_97 : KLk RX12 97 12 36 := ⟨RX12, TX12, 97, rfl, by decide, Or.inl (kwm 1233 (by decide +kernel) (by decide +kernel))⟩
def f_X12_testTold (h : KH) (v0 : Nat) (v1 : Int32) : Option (KH) :=
  if kkind v0 = 12 then kb (f_X12_isFull h v0 (1 : Int32) (6 : Int32) v1) fun r2 =>
  if r2.1 = 0 then
  kb (f_X12_newName r2.2 v0) fun r7 =>
  if (kR r7.2 v0 16) < 999999 then kb (f_X12_asks r7.2 v0 (kR r7.2 v0 16)) fun r12 =>
  kb (f_X12_number r12 v0 (0 : Int32) (99 : Int32)) fun r16 =>
  if (kI r16.2 v0 5) = 0 then
  if (kR r16.2 v0 36) < 999999 then kb (f_X12_adds r16.2 v0 (1 : Int32) r7.1) fun r22 =>
  if kkind (kR r16.2 v0 36) = 20 then if (r22.1 < 0 ∨ klen (kR r16.2 v0 36) ≤ (r22.1).toNatClampNeg) then none else kl (ksI r22.2 (kR r16.2 v0 36) ((r22.1).toNatClampNeg) r16.1) fun h28 =>
  some h28 else none else none
  else
  some r16.2 else none
  else
  some r2.2 else none
set_option maxHeartbeats 4000000 in
set_option maxRecDepth 100000 in
theorem s0_X12_testTold {Z : Nat → (Nat → Nat) → State → Prop} (h : KH) (v0 : Nat) (v1 : Int32) {t : KH} (hn : h.1 = 243) (H : f_X12_testTold h v0 v1 = some t) : KX Z RX12 cX12_testTold 5 false 6 (KRv cX12_testTold t) 0 [(0, .ref v0), (1, .int v1)] [] h := by
  unfold f_X12_testTold at H
  refine x_aload_n (q := 1) dX12_testTold_0 rfl rfl ?_
  refine x_iconst (q := 2) (v := (1 : Int32)) dX12_testTold_1 rfl (by decide) ?_
  refine x_bipush (q := 4) (v := (6 : Int32)) dX12_testTold_2 rfl (by decide) ?_
  refine x_iload_n (q := 5) dX12_testTold_4 rfl rfl ?_
  replace H := kif H; obtain ⟨g1, H⟩ := H
  replace H := kbe H; obtain ⟨r2, c3, H⟩ := H
  have m4 := s_X12_isFull (Z := Z) h v0 (1 : Int32) (6 : Int32) v1 hn c3
  refine x_callV (q := 8) (as := [.int (1 : Int32), .int (6 : Int32), .int v1]) (rest := []) dX12_testTold_5 rfl kc_RX12_293 kh_X12_isFull (by decide) (Nat.le_of_ble_eq_true rfl) m4 (ci := 12) (by exact ⟨rfl, by decide⟩) (k243 g1 (by decide) hn) ?_
  have n5 : (r2.2).1 = 243 := m4.1.full hn
  replace H := kite H; rcases H with ⟨g6, H⟩ | ⟨g6, H⟩
  · refine x_if_eq_t dX12_testTold_8 (q := 12) (by decide) g6 ?_
    refine x_aload_n (q := 13) dX12_testTold_12 rfl rfl ?_
    replace H := kbe H; obtain ⟨r7, c8, H⟩ := H
    have m9 := s_X12_newName (Z := Z) r2.2 v0 n5 c8
    refine x_callV (q := 16) (as := []) (rest := []) dX12_testTold_13 rfl kc_RX12_297 kh_X12_newName (by decide) (Nat.le_of_ble_eq_true rfl) m9 (ci := 12) (by exact ⟨rfl, by decide⟩) (k243 g1 (by decide) n5) ?_
    have n10 : (r7.2).1 = 243 := m9.1.full n5
    refine x_lstore_n (q := 17) (i := 2) (ls2 := [(2, .long r7.1), (0, .ref v0), (1, .int v1)]) dX12_testTold_16 rfl rfl (by decide) rfl ?_
    refine x_aload_n (q := 18) dX12_testTold_17 rfl rfl ?_
    refine x_aload_n (q := 19) dX12_testTold_18 rfl rfl ?_
    replace H := kif H; obtain ⟨g11, H⟩ := H
    refine x_getR (q := 22) dX12_testTold_19 rfl kl_RX12_39 rfl (k243 g1 (by decide) n10) g11 ?_
    replace H := kbe H; obtain ⟨r12, c13, H⟩ := H
    have m14 := s_X12_asks (Z := Z) r7.2 v0 (kR r7.2 v0 16) n10 c13
    refine x_callV (q := 25) (as := [.ref (kR r7.2 v0 16)]) (rest := []) dX12_testTold_22 rfl kc_RX12_300 kh_X12_asks (by decide) (Nat.le_of_ble_eq_true rfl) m14 (ci := 12) (by exact ⟨rfl, by decide⟩) (k243 g1 (by decide) n10) ?_
    have n15 : (r12).1 = 243 := m14.1.full n10
    refine x_aload_n (q := 26) dX12_testTold_25 rfl rfl ?_
    refine x_iconst (q := 27) (v := (0 : Int32)) dX12_testTold_26 rfl (by decide) ?_
    refine x_bipush (q := 29) (v := (99 : Int32)) dX12_testTold_27 rfl (by decide) ?_
    replace H := kbe H; obtain ⟨r16, c17, H⟩ := H
    have m18 := s_X12_number (Z := Z) r12 v0 (0 : Int32) (99 : Int32) n15 c17
    refine x_callV (q := 32) (as := [.int (0 : Int32), .int (99 : Int32)]) (rest := []) dX12_testTold_29 rfl kc_RX12_304 kh_X12_number (by decide) (Nat.le_of_ble_eq_true rfl) m18 (ci := 12) (by exact ⟨rfl, by decide⟩) (k243 g1 (by decide) n15) ?_
    have n19 : (r16.2).1 = 243 := m18.1.full n15
    refine x_istore (q := 34) (i := 4) (ls2 := [(4, .int r16.1), (2, .long r7.1), (0, .ref v0), (1, .int v1)]) dX12_testTold_32 rfl (by decide) rfl ?_
    refine x_aload_n (q := 35) dX12_testTold_34 rfl rfl ?_
    refine x_getI (q := 38) dX12_testTold_35 rfl kl_RX12_230 (Or.inl rfl) (k243 g1 (by decide) n19) ?_
    replace H := kite H; rcases H with ⟨g20, H⟩ | ⟨g20, H⟩
    · refine x_if_ne_f (q := 41) dX12_testTold_38 (t := 54) (by decide) rfl g20 ?_
      refine x_aload_n (q := 42) dX12_testTold_41 rfl rfl ?_
      replace H := kif H; obtain ⟨g21, H⟩ := H
      refine x_getR (q := 45) dX12_testTold_42 rfl kl_RX12_97 rfl (k243 g1 (by decide) n19) g21 ?_
      refine x_aload_n (q := 46) dX12_testTold_45 rfl rfl ?_
      refine x_iconst (q := 47) (v := (1 : Int32)) dX12_testTold_46 rfl (by decide) ?_
      refine x_lload_n (q := 48) dX12_testTold_47 rfl rfl ?_
      replace H := kbe H; obtain ⟨r22, c23, H⟩ := H
      have m24 := s_X12_adds (Z := Z) r16.2 v0 (1 : Int32) r7.1 n19 c23
      refine x_callV (q := 51) (as := [.int (1 : Int32), .long r7.1]) (rest := [.ref (kR r16.2 v0 36)]) dX12_testTold_48 rfl kc_RX12_308 kh_X12_adds (by decide) (Nat.le_of_ble_eq_true rfl) m24 (ci := 12) (by exact ⟨rfl, by decide⟩) (k243 g1 (by decide) n19) ?_
      have n25 : (r22.2).1 = 243 := m24.1.full n19
      refine x_iload (q := 53) dX12_testTold_51 rfl rfl ?_
      replace H := kif H; obtain ⟨g26, H⟩ := H
      replace H := kifn H; obtain ⟨g27, H⟩ := H
      replace H := kle H; obtain ⟨h28, q29, H⟩ := H
      refine x_iast (q := 54) dX12_testTold_53 rfl (k243 g26 (by decide) n25) g27 ?_
      refine x_nmH q29 ?_
      have n30 : h28.1 = 243 := by rw [q29]; exact n25
      cases H
      exact x_end ⟨dX12_testTold_54, rfl, rfl⟩
    · refine x_if_ne_t dX12_testTold_38 (q := 54) (by decide) g20 ?_
      cases H
      exact x_end ⟨dX12_testTold_54, rfl, rfl⟩
  · refine x_if_eq_f (q := 11) dX12_testTold_8 (t := 12) (by decide) rfl g6 ?_
    cases H
    exact x_end ⟨dX12_testTold_11, rfl, rfl⟩
theorem s_X12_testTold {Z : Nat → (Nat → Nat) → State → Prop} (h : KH) (v0 : Nat) (v1 : Int32) {t : KH} (hn : h.1 = 243) (H : f_X12_testTold h v0 v1 = some t) : KM Z yX12_testTold cX12_testTold 5 none 6 [.ref v0, .int v1] h none t :=
  kx_v (own := RX12) (ini := false) (by decide +kernel) (by decide +kernel) rfl (Nat.le_of_ble_eq_true rfl) (s0_X12_testTold h v0 v1 hn H)
theorem dX12_markTold_0 : decode cX12_markTold 0 = .ok (.aload_n 0, 1) := by decide +kernel
theorem dX12_markTold_1 : decode cX12_markTold 1 = .ok (.iconst 2, 1) := by decide +kernel
theorem dX12_markTold_2 : decode cX12_markTold 2 = .ok (.iconst 5, 1) := by decide +kernel
theorem dX12_markTold_3 : decode cX12_markTold 3 = .ok (.iload_n 1, 1) := by decide +kernel
theorem dX12_markTold_4 : decode cX12_markTold 4 = .ok (.invokevirtual 293, 3) := by decide +kernel
theorem dX12_markTold_7 : decode cX12_markTold 7 = .ok (.ifCond .eq 4, 3) := by decide +kernel
theorem dX12_markTold_10 : decode cX12_markTold 10 = .ok (.return_, 1) := by decide +kernel
theorem dX12_markTold_11 : decode cX12_markTold 11 = .ok (.aload_n 0, 1) := by decide +kernel
theorem dX12_markTold_12 : decode cX12_markTold 12 = .ok (.invokevirtual 297, 3) := by decide +kernel
theorem dX12_markTold_15 : decode cX12_markTold 15 = .ok (.lstore_n 2, 1) := by decide +kernel
theorem dX12_markTold_16 : decode cX12_markTold 16 = .ok (.aload_n 0, 1) := by decide +kernel
theorem dX12_markTold_17 : decode cX12_markTold 17 = .ok (.aload_n 0, 1) := by decide +kernel
theorem dX12_markTold_18 : decode cX12_markTold 18 = .ok (.getfield 30, 3) := by decide +kernel
theorem dX12_markTold_21 : decode cX12_markTold 21 = .ok (.invokevirtual 300, 3) := by decide +kernel
theorem dX12_markTold_24 : decode cX12_markTold 24 = .ok (.aload_n 0, 1) := by decide +kernel
theorem dX12_markTold_25 : decode cX12_markTold 25 = .ok (.iconst 1, 1) := by decide +kernel
theorem dX12_markTold_26 : decode cX12_markTold 26 = .ok (.bipush 9, 2) := by decide +kernel
theorem dX12_markTold_28 : decode cX12_markTold 28 = .ok (.invokevirtual 304, 3) := by decide +kernel
theorem dX12_markTold_31 : decode cX12_markTold 31 = .ok (.istore 4, 2) := by decide +kernel
theorem dX12_markTold_33 : decode cX12_markTold 33 = .ok (.aload_n 0, 1) := by decide +kernel
theorem dX12_markTold_34 : decode cX12_markTold 34 = .ok (.aload_n 0, 1) := by decide +kernel
theorem dX12_markTold_35 : decode cX12_markTold 35 = .ok (.getfield 33, 3) := by decide +kernel
theorem dX12_markTold_38 : decode cX12_markTold 38 = .ok (.invokevirtual 300, 3) := by decide +kernel
theorem dX12_markTold_41 : decode cX12_markTold 41 = .ok (.aload_n 0, 1) := by decide +kernel
theorem dX12_markTold_42 : decode cX12_markTold 42 = .ok (.iconst 1, 1) := by decide +kernel
theorem dX12_markTold_43 : decode cX12_markTold 43 = .ok (.bipush 9, 2) := by decide +kernel
theorem dX12_markTold_45 : decode cX12_markTold 45 = .ok (.invokevirtual 304, 3) := by decide +kernel
theorem dX12_markTold_48 : decode cX12_markTold 48 = .ok (.istore 5, 2) := by decide +kernel
theorem dX12_markTold_50 : decode cX12_markTold 50 = .ok (.aload_n 0, 1) := by decide +kernel
theorem dX12_markTold_51 : decode cX12_markTold 51 = .ok (.getfield 230, 3) := by decide +kernel
theorem dX12_markTold_54 : decode cX12_markTold 54 = .ok (.ifCond .eq 4, 3) := by decide +kernel
theorem dX12_markTold_57 : decode cX12_markTold 57 = .ok (.return_, 1) := by decide +kernel
theorem dX12_markTold_58 : decode cX12_markTold 58 = .ok (.iconst 2, 1) := by decide +kernel
theorem dX12_markTold_59 : decode cX12_markTold 59 = .ok (.aload_n 0, 1) := by decide +kernel
theorem dX12_markTold_60 : decode cX12_markTold 60 = .ok (.iconst 2, 1) := by decide +kernel
theorem dX12_markTold_61 : decode cX12_markTold 61 = .ok (.lload_n 2, 1) := by decide +kernel
theorem dX12_markTold_62 : decode cX12_markTold 62 = .ok (.invokevirtual 308, 3) := by decide +kernel
theorem dX12_markTold_65 : decode cX12_markTold 65 = .ok (.imul, 1) := by decide +kernel
theorem dX12_markTold_66 : decode cX12_markTold 66 = .ok (.istore 6, 2) := by decide +kernel
theorem dX12_markTold_68 : decode cX12_markTold 68 = .ok (.aload_n 0, 1) := by decide +kernel
theorem dX12_markTold_69 : decode cX12_markTold 69 = .ok (.getfield 100, 3) := by decide +kernel
theorem dX12_markTold_72 : decode cX12_markTold 72 = .ok (.iload 6, 2) := by decide +kernel
theorem dX12_markTold_74 : decode cX12_markTold 74 = .ok (.iload 4, 2) := by decide +kernel
theorem dX12_markTold_76 : decode cX12_markTold 76 = .ok (.iastore, 1) := by decide +kernel
theorem dX12_markTold_77 : decode cX12_markTold 77 = .ok (.aload_n 0, 1) := by decide +kernel
theorem dX12_markTold_78 : decode cX12_markTold 78 = .ok (.getfield 100, 3) := by decide +kernel
theorem dX12_markTold_81 : decode cX12_markTold 81 = .ok (.iload 6, 2) := by decide +kernel
theorem dX12_markTold_83 : decode cX12_markTold 83 = .ok (.iconst 1, 1) := by decide +kernel
theorem dX12_markTold_84 : decode cX12_markTold 84 = .ok (.iadd, 1) := by decide +kernel
theorem dX12_markTold_85 : decode cX12_markTold 85 = .ok (.iload 5, 2) := by decide +kernel
theorem dX12_markTold_87 : decode cX12_markTold 87 = .ok (.iastore, 1) := by decide +kernel
theorem dX12_markTold_88 : decode cX12_markTold 88 = .ok (.return_, 1) := by decide +kernel
theorem kl_RX12_100 : KLk RX12 100 12 37 := ⟨RX12, TX12, 97, rfl, by decide, Or.inl (kwm 1234 (by decide +kernel) (by decide +kernel))⟩
def f_X12_markTold (h : KH) (v0 : Nat) (v1 : Int32) : Option (KH) :=
  if kkind v0 = 12 then kb (f_X12_isFull h v0 (2 : Int32) (5 : Int32) v1) fun r2 =>
  if r2.1 = 0 then
  kb (f_X12_newName r2.2 v0) fun r7 =>
  if (kR r7.2 v0 13) < 999999 then kb (f_X12_asks r7.2 v0 (kR r7.2 v0 13)) fun r12 =>
  kb (f_X12_number r12 v0 (1 : Int32) (9 : Int32)) fun r16 =>
  if (kR r16.2 v0 14) < 999999 then kb (f_X12_asks r16.2 v0 (kR r16.2 v0 14)) fun r21 =>
  kb (f_X12_number r21 v0 (1 : Int32) (9 : Int32)) fun r25 =>
  if (kI r25.2 v0 5) = 0 then
  kb (f_X12_adds r25.2 v0 (2 : Int32) r7.1) fun r30 =>
  kl ((2 : Int32) * r30.1) fun x34 =>
  if (kR r30.2 v0 37) < 999999 then if kkind (kR r30.2 v0 37) = 20 then if (x34 < 0 ∨ klen (kR r30.2 v0 37) ≤ (x34).toNatClampNeg) then none else kl (ksI r30.2 (kR r30.2 v0 37) ((x34).toNatClampNeg) r16.1) fun h39 =>
  if (kR h39 v0 37) < 999999 then if kkind (kR h39 v0 37) = 20 then if ((x34 + (1 : Int32)) < 0 ∨ klen (kR h39 v0 37) ≤ ((x34 + (1 : Int32))).toNatClampNeg) then none else kl (ksI h39 (kR h39 v0 37) (((x34 + (1 : Int32))).toNatClampNeg) r25.1) fun h45 =>
  some h45 else none else none else none else none
  else
  some r25.2 else none else none
  else
  some r2.2 else none
set_option maxHeartbeats 4000000 in
set_option maxRecDepth 100000 in
theorem s0_X12_markTold {Z : Nat → (Nat → Nat) → State → Prop} (h : KH) (v0 : Nat) (v1 : Int32) {t : KH} (hn : h.1 = 243) (H : f_X12_markTold h v0 v1 = some t) : KX Z RX12 cX12_markTold 7 false 6 (KRv cX12_markTold t) 0 [(0, .ref v0), (1, .int v1)] [] h := by
  unfold f_X12_markTold at H
  refine x_aload_n (q := 1) dX12_markTold_0 rfl rfl ?_
  refine x_iconst (q := 2) (v := (2 : Int32)) dX12_markTold_1 rfl (by decide) ?_
  refine x_iconst (q := 3) (v := (5 : Int32)) dX12_markTold_2 rfl (by decide) ?_
  refine x_iload_n (q := 4) dX12_markTold_3 rfl rfl ?_
  replace H := kif H; obtain ⟨g1, H⟩ := H
  replace H := kbe H; obtain ⟨r2, c3, H⟩ := H
  have m4 := s_X12_isFull (Z := Z) h v0 (2 : Int32) (5 : Int32) v1 hn c3
  refine x_callV (q := 7) (as := [.int (2 : Int32), .int (5 : Int32), .int v1]) (rest := []) dX12_markTold_4 rfl kc_RX12_293 kh_X12_isFull (by decide) (Nat.le_of_ble_eq_true rfl) m4 (ci := 12) (by exact ⟨rfl, by decide⟩) (k243 g1 (by decide) hn) ?_
  have n5 : (r2.2).1 = 243 := m4.1.full hn
  replace H := kite H; rcases H with ⟨g6, H⟩ | ⟨g6, H⟩
  · refine x_if_eq_t dX12_markTold_7 (q := 11) (by decide) g6 ?_
    refine x_aload_n (q := 12) dX12_markTold_11 rfl rfl ?_
    replace H := kbe H; obtain ⟨r7, c8, H⟩ := H
    have m9 := s_X12_newName (Z := Z) r2.2 v0 n5 c8
    refine x_callV (q := 15) (as := []) (rest := []) dX12_markTold_12 rfl kc_RX12_297 kh_X12_newName (by decide) (Nat.le_of_ble_eq_true rfl) m9 (ci := 12) (by exact ⟨rfl, by decide⟩) (k243 g1 (by decide) n5) ?_
    have n10 : (r7.2).1 = 243 := m9.1.full n5
    refine x_lstore_n (q := 16) (i := 2) (ls2 := [(2, .long r7.1), (0, .ref v0), (1, .int v1)]) dX12_markTold_15 rfl rfl (by decide) rfl ?_
    refine x_aload_n (q := 17) dX12_markTold_16 rfl rfl ?_
    refine x_aload_n (q := 18) dX12_markTold_17 rfl rfl ?_
    replace H := kif H; obtain ⟨g11, H⟩ := H
    refine x_getR (q := 21) dX12_markTold_18 rfl kl_RX12_30 rfl (k243 g1 (by decide) n10) g11 ?_
    replace H := kbe H; obtain ⟨r12, c13, H⟩ := H
    have m14 := s_X12_asks (Z := Z) r7.2 v0 (kR r7.2 v0 13) n10 c13
    refine x_callV (q := 24) (as := [.ref (kR r7.2 v0 13)]) (rest := []) dX12_markTold_21 rfl kc_RX12_300 kh_X12_asks (by decide) (Nat.le_of_ble_eq_true rfl) m14 (ci := 12) (by exact ⟨rfl, by decide⟩) (k243 g1 (by decide) n10) ?_
    have n15 : (r12).1 = 243 := m14.1.full n10
    refine x_aload_n (q := 25) dX12_markTold_24 rfl rfl ?_
    refine x_iconst (q := 26) (v := (1 : Int32)) dX12_markTold_25 rfl (by decide) ?_
    refine x_bipush (q := 28) (v := (9 : Int32)) dX12_markTold_26 rfl (by decide) ?_
    replace H := kbe H; obtain ⟨r16, c17, H⟩ := H
    have m18 := s_X12_number (Z := Z) r12 v0 (1 : Int32) (9 : Int32) n15 c17
    refine x_callV (q := 31) (as := [.int (1 : Int32), .int (9 : Int32)]) (rest := []) dX12_markTold_28 rfl kc_RX12_304 kh_X12_number (by decide) (Nat.le_of_ble_eq_true rfl) m18 (ci := 12) (by exact ⟨rfl, by decide⟩) (k243 g1 (by decide) n15) ?_
    have n19 : (r16.2).1 = 243 := m18.1.full n15
    refine x_istore (q := 33) (i := 4) (ls2 := [(4, .int r16.1), (2, .long r7.1), (0, .ref v0), (1, .int v1)]) dX12_markTold_31 rfl (by decide) rfl ?_
    refine x_aload_n (q := 34) dX12_markTold_33 rfl rfl ?_
    refine x_aload_n (q := 35) dX12_markTold_34 rfl rfl ?_
    replace H := kif H; obtain ⟨g20, H⟩ := H
    refine x_getR (q := 38) dX12_markTold_35 rfl kl_RX12_33 rfl (k243 g1 (by decide) n19) g20 ?_
    replace H := kbe H; obtain ⟨r21, c22, H⟩ := H
    have m23 := s_X12_asks (Z := Z) r16.2 v0 (kR r16.2 v0 14) n19 c22
    refine x_callV (q := 41) (as := [.ref (kR r16.2 v0 14)]) (rest := []) dX12_markTold_38 rfl kc_RX12_300 kh_X12_asks (by decide) (Nat.le_of_ble_eq_true rfl) m23 (ci := 12) (by exact ⟨rfl, by decide⟩) (k243 g1 (by decide) n19) ?_
    have n24 : (r21).1 = 243 := m23.1.full n19
    refine x_aload_n (q := 42) dX12_markTold_41 rfl rfl ?_
    refine x_iconst (q := 43) (v := (1 : Int32)) dX12_markTold_42 rfl (by decide) ?_
    refine x_bipush (q := 45) (v := (9 : Int32)) dX12_markTold_43 rfl (by decide) ?_
    replace H := kbe H; obtain ⟨r25, c26, H⟩ := H
    have m27 := s_X12_number (Z := Z) r21 v0 (1 : Int32) (9 : Int32) n24 c26
    refine x_callV (q := 48) (as := [.int (1 : Int32), .int (9 : Int32)]) (rest := []) dX12_markTold_45 rfl kc_RX12_304 kh_X12_number (by decide) (Nat.le_of_ble_eq_true rfl) m27 (ci := 12) (by exact ⟨rfl, by decide⟩) (k243 g1 (by decide) n24) ?_
    have n28 : (r25.2).1 = 243 := m27.1.full n24
    refine x_istore (q := 50) (i := 5) (ls2 := [(5, .int r25.1), (4, .int r16.1), (2, .long r7.1), (0, .ref v0), (1, .int v1)]) dX12_markTold_48 rfl (by decide) rfl ?_
    refine x_aload_n (q := 51) dX12_markTold_50 rfl rfl ?_
    refine x_getI (q := 54) dX12_markTold_51 rfl kl_RX12_230 (Or.inl rfl) (k243 g1 (by decide) n28) ?_
    replace H := kite H; rcases H with ⟨g29, H⟩ | ⟨g29, H⟩
    · refine x_if_eq_t dX12_markTold_54 (q := 58) (by decide) g29 ?_
      refine x_iconst (q := 59) (v := (2 : Int32)) dX12_markTold_58 rfl (by decide) ?_
      refine x_aload_n (q := 60) dX12_markTold_59 rfl rfl ?_
      refine x_iconst (q := 61) (v := (2 : Int32)) dX12_markTold_60 rfl (by decide) ?_
      refine x_lload_n (q := 62) dX12_markTold_61 rfl rfl ?_
      replace H := kbe H; obtain ⟨r30, c31, H⟩ := H
      have m32 := s_X12_adds (Z := Z) r25.2 v0 (2 : Int32) r7.1 n28 c31
      refine x_callV (q := 65) (as := [.int (2 : Int32), .long r7.1]) (rest := [.int (2 : Int32)]) dX12_markTold_62 rfl kc_RX12_308 kh_X12_adds (by decide) (Nat.le_of_ble_eq_true rfl) m32 (ci := 12) (by exact ⟨rfl, by decide⟩) (k243 g1 (by decide) n28) ?_
      have n33 : (r30.2).1 = 243 := m32.1.full n28
      refine x_imul (q := 66) dX12_markTold_65 rfl ?_
      replace H := kle H; obtain ⟨x34, q35, H⟩ := H
      refine x_nmI q35 ?_
      refine x_istore (q := 68) (i := 6) (ls2 := [(6, .int x34), (5, .int r25.1), (4, .int r16.1), (2, .long r7.1), (0, .ref v0), (1, .int v1)]) dX12_markTold_66 rfl (by decide) rfl ?_
      refine x_aload_n (q := 69) dX12_markTold_68 rfl rfl ?_
      replace H := kif H; obtain ⟨g36, H⟩ := H
      refine x_getR (q := 72) dX12_markTold_69 rfl kl_RX12_100 rfl (k243 g1 (by decide) n33) g36 ?_
      refine x_iload (q := 74) dX12_markTold_72 rfl rfl ?_
      refine x_iload (q := 76) dX12_markTold_74 rfl rfl ?_
      replace H := kif H; obtain ⟨g37, H⟩ := H
      replace H := kifn H; obtain ⟨g38, H⟩ := H
      replace H := kle H; obtain ⟨h39, q40, H⟩ := H
      refine x_iast (q := 77) dX12_markTold_76 rfl (k243 g37 (by decide) n33) g38 ?_
      refine x_nmH q40 ?_
      have n41 : h39.1 = 243 := by rw [q40]; exact n33
      refine x_aload_n (q := 78) dX12_markTold_77 rfl rfl ?_
      replace H := kif H; obtain ⟨g42, H⟩ := H
      refine x_getR (q := 81) dX12_markTold_78 rfl kl_RX12_100 rfl (k243 g1 (by decide) n41) g42 ?_
      refine x_iload (q := 83) dX12_markTold_81 rfl rfl ?_
      refine x_iconst (q := 84) (v := (1 : Int32)) dX12_markTold_83 rfl (by decide) ?_
      refine x_iadd (q := 85) dX12_markTold_84 rfl ?_
      refine x_iload (q := 87) dX12_markTold_85 rfl rfl ?_
      replace H := kif H; obtain ⟨g43, H⟩ := H
      replace H := kifn H; obtain ⟨g44, H⟩ := H
      replace H := kle H; obtain ⟨h45, q46, H⟩ := H
      refine x_iast (q := 88) dX12_markTold_87 rfl (k243 g43 (by decide) n41) g44 ?_
      refine x_nmH q46 ?_
      have n47 : h45.1 = 243 := by rw [q46]; exact n41
      cases H
      exact x_end ⟨dX12_markTold_88, rfl, rfl⟩
    · refine x_if_eq_f (q := 57) dX12_markTold_54 (t := 58) (by decide) rfl g29 ?_
      cases H
      exact x_end ⟨dX12_markTold_57, rfl, rfl⟩
  · refine x_if_eq_f (q := 10) dX12_markTold_7 (t := 11) (by decide) rfl g6 ?_
    cases H
    exact x_end ⟨dX12_markTold_10, rfl, rfl⟩
theorem s_X12_markTold {Z : Nat → (Nat → Nat) → State → Prop} (h : KH) (v0 : Nat) (v1 : Int32) {t : KH} (hn : h.1 = 243) (H : f_X12_markTold h v0 v1 = some t) : KM Z yX12_markTold cX12_markTold 7 none 6 [.ref v0, .int v1] h none t :=
  kx_v (own := RX12) (ini := false) (by decide +kernel) (by decide +kernel) rfl (Nat.le_of_ble_eq_true rfl) (s0_X12_markTold h v0 v1 hn H)
theorem dX12_qOpens_0 : decode cX12_qOpens 0 = .ok (.aload_n 0, 1) := by decide +kernel
theorem dX12_qOpens_1 : decode cX12_qOpens 1 = .ok (.getfield 230, 3) := by decide +kernel
theorem dX12_qOpens_4 : decode cX12_qOpens 4 = .ok (.ifCond .eq 4, 3) := by decide +kernel
theorem dX12_qOpens_7 : decode cX12_qOpens 7 = .ok (.return_, 1) := by decide +kernel
theorem dX12_qOpens_8 : decode cX12_qOpens 8 = .ok (.aload_n 0, 1) := by decide +kernel
theorem dX12_qOpens_9 : decode cX12_qOpens 9 = .ok (.getfield 318, 3) := by decide +kernel
theorem dX12_qOpens_12 : decode cX12_qOpens 12 = .ok (.bipush 6, 2) := by decide +kernel
theorem dX12_qOpens_14 : decode cX12_qOpens 14 = .ok (.if_icmp .ne 10, 3) := by decide +kernel
theorem dX12_qOpens_17 : decode cX12_qOpens 17 = .ok (.aload_n 0, 1) := by decide +kernel
theorem dX12_qOpens_18 : decode cX12_qOpens 18 = .ok (.iconst 4, 1) := by decide +kernel
theorem dX12_qOpens_19 : decode cX12_qOpens 19 = .ok (.iload_n 2, 1) := by decide +kernel
theorem dX12_qOpens_20 : decode cX12_qOpens 20 = .ok (.invokevirtual 260, 3) := by decide +kernel
theorem dX12_qOpens_23 : decode cX12_qOpens 23 = .ok (.return_, 1) := by decide +kernel
theorem dX12_qOpens_24 : decode cX12_qOpens 24 = .ok (.aload_n 0, 1) := by decide +kernel
theorem dX12_qOpens_25 : decode cX12_qOpens 25 = .ok (.dup, 1) := by decide +kernel
theorem dX12_qOpens_26 : decode cX12_qOpens 26 = .ok (.getfield 318, 3) := by decide +kernel
theorem dX12_qOpens_29 : decode cX12_qOpens 29 = .ok (.iconst 1, 1) := by decide +kernel
theorem dX12_qOpens_30 : decode cX12_qOpens 30 = .ok (.iadd, 1) := by decide +kernel
theorem dX12_qOpens_31 : decode cX12_qOpens 31 = .ok (.putfield 318, 3) := by decide +kernel
theorem dX12_qOpens_34 : decode cX12_qOpens 34 = .ok (.aload_n 0, 1) := by decide +kernel
theorem dX12_qOpens_35 : decode cX12_qOpens 35 = .ok (.getfield 218, 3) := by decide +kernel
theorem dX12_qOpens_38 : decode cX12_qOpens 38 = .ok (.aload_n 0, 1) := by decide +kernel
theorem dX12_qOpens_39 : decode cX12_qOpens 39 = .ok (.getfield 315, 3) := by decide +kernel
theorem dX12_qOpens_42 : decode cX12_qOpens 42 = .ok (.iload_n 1, 1) := by decide +kernel
theorem dX12_qOpens_43 : decode cX12_qOpens 43 = .ok (.iastore, 1) := by decide +kernel
theorem dX12_qOpens_44 : decode cX12_qOpens 44 = .ok (.aload_n 0, 1) := by decide +kernel
theorem dX12_qOpens_45 : decode cX12_qOpens 45 = .ok (.dup, 1) := by decide +kernel
theorem dX12_qOpens_46 : decode cX12_qOpens 46 = .ok (.getfield 315, 3) := by decide +kernel
theorem dX12_qOpens_49 : decode cX12_qOpens 49 = .ok (.iconst 1, 1) := by decide +kernel
theorem dX12_qOpens_50 : decode cX12_qOpens 50 = .ok (.iadd, 1) := by decide +kernel
theorem dX12_qOpens_51 : decode cX12_qOpens 51 = .ok (.putfield 315, 3) := by decide +kernel
theorem dX12_qOpens_54 : decode cX12_qOpens 54 = .ok (.return_, 1) := by decide +kernel
theorem kl_RX12_318 : KLk RX12 318 12 89 := ⟨RX12, TX12, 97, rfl, by decide, Or.inl (kwm 1286 (by decide +kernel) (by decide +kernel))⟩
theorem kl_RX12_218 : KLk RX12 218 12 87 := ⟨RX12, TX12, 97, rfl, by decide, Or.inl (kwm 1284 (by decide +kernel) (by decide +kernel))⟩
theorem kl_RX12_315 : KLk RX12 315 12 88 := ⟨RX12, TX12, 97, rfl, by decide, Or.inl (kwm 1285 (by decide +kernel) (by decide +kernel))⟩
def f_X12_qOpens (h : KH) (v0 : Nat) (v1 : Int32) (v2 : Int32) : Option (KH) :=
  if kkind v0 = 12 then if (kI h v0 5) = 0 then
  if (kI h v0 89) = (6 : Int32) then
  kb (f_X12_fail h v0 (4 : Int32) v2) fun r16 =>
  some r16
  else
  kl (ksI h v0 89 ((kI h v0 89) + (1 : Int32))) fun h4 =>
  if (kR h4 v0 87) < 999999 then if kkind (kR h4 v0 87) = 20 then if ((kI h4 v0 88) < 0 ∨ klen (kR h4 v0 87) ≤ ((kI h4 v0 88)).toNatClampNeg) then none else kl (ksI h4 (kR h4 v0 87) (((kI h4 v0 88)).toNatClampNeg) v1) fun h10 =>
  kl (ksI h10 v0 88 ((kI h10 v0 88) + (1 : Int32))) fun h13 =>
  some h13 else none else none
  else
  some h else none
set_option maxHeartbeats 4000000 in
set_option maxRecDepth 100000 in
theorem s0_X12_qOpens {Z : Nat → (Nat → Nat) → State → Prop} (h : KH) (v0 : Nat) (v1 : Int32) (v2 : Int32) {t : KH} (hn : h.1 = 243) (H : f_X12_qOpens h v0 v1 v2 = some t) : KX Z RX12 cX12_qOpens 3 false 2 (KRv cX12_qOpens t) 0 [(0, .ref v0), (1, .int v1), (2, .int v2)] [] h := by
  unfold f_X12_qOpens at H
  refine x_aload_n (q := 1) dX12_qOpens_0 rfl rfl ?_
  replace H := kif H; obtain ⟨g1, H⟩ := H
  refine x_getI (q := 4) dX12_qOpens_1 rfl kl_RX12_230 (Or.inl rfl) (k243 g1 (by decide) hn) ?_
  replace H := kite H; rcases H with ⟨g2, H⟩ | ⟨g2, H⟩
  · refine x_if_eq_t dX12_qOpens_4 (q := 8) (by decide) g2 ?_
    refine x_aload_n (q := 9) dX12_qOpens_8 rfl rfl ?_
    refine x_getI (q := 12) dX12_qOpens_9 rfl kl_RX12_318 (Or.inl rfl) (k243 g1 (by decide) hn) ?_
    refine x_bipush (q := 14) (v := (6 : Int32)) dX12_qOpens_12 rfl (by decide) ?_
    replace H := kite H; rcases H with ⟨g3, H⟩ | ⟨g3, H⟩
    · refine x_icmp_ne_f (q := 17) dX12_qOpens_14 (t := 24) (by decide) rfl g3 ?_
      refine x_aload_n (q := 18) dX12_qOpens_17 rfl rfl ?_
      refine x_iconst (q := 19) (v := (4 : Int32)) dX12_qOpens_18 rfl (by decide) ?_
      refine x_iload_n (q := 20) dX12_qOpens_19 rfl rfl ?_
      replace H := kbe H; obtain ⟨r16, c17, H⟩ := H
      have m18 := s_X12_fail (Z := Z) h v0 (4 : Int32) v2 hn c17
      refine x_callV (q := 23) (as := [.int (4 : Int32), .int v2]) (rest := []) dX12_qOpens_20 rfl kc_RX12_260 kh_X12_fail (by decide) (Nat.le_of_ble_eq_true rfl) m18 (ci := 12) (by exact ⟨rfl, by decide⟩) (k243 g1 (by decide) hn) ?_
      have n19 : (r16).1 = 243 := m18.1.full hn
      cases H
      exact x_end ⟨dX12_qOpens_23, rfl, rfl⟩
    · refine x_icmp_ne_t dX12_qOpens_14 (q := 24) (by decide) g3 ?_
      refine x_aload_n (q := 25) dX12_qOpens_24 rfl rfl ?_
      refine x_dup (q := 26) dX12_qOpens_25 rfl rfl ?_
      refine x_getI (q := 29) dX12_qOpens_26 rfl kl_RX12_318 (Or.inl rfl) (k243 g1 (by decide) hn) ?_
      refine x_iconst (q := 30) (v := (1 : Int32)) dX12_qOpens_29 rfl (by decide) ?_
      refine x_iadd (q := 31) dX12_qOpens_30 rfl ?_
      replace H := kle H; obtain ⟨h4, q5, H⟩ := H
      refine x_putI (q := 34) dX12_qOpens_31 rfl kl_RX12_318 (Or.inl rfl) rfl (k243 g1 (by decide) hn) ?_
      refine x_nmH q5 ?_
      have n6 : h4.1 = 243 := by rw [q5]; exact hn
      refine x_aload_n (q := 35) dX12_qOpens_34 rfl rfl ?_
      replace H := kif H; obtain ⟨g7, H⟩ := H
      refine x_getR (q := 38) dX12_qOpens_35 rfl kl_RX12_218 rfl (k243 g1 (by decide) n6) g7 ?_
      refine x_aload_n (q := 39) dX12_qOpens_38 rfl rfl ?_
      refine x_getI (q := 42) dX12_qOpens_39 rfl kl_RX12_315 (Or.inl rfl) (k243 g1 (by decide) n6) ?_
      refine x_iload_n (q := 43) dX12_qOpens_42 rfl rfl ?_
      replace H := kif H; obtain ⟨g8, H⟩ := H
      replace H := kifn H; obtain ⟨g9, H⟩ := H
      replace H := kle H; obtain ⟨h10, q11, H⟩ := H
      refine x_iast (q := 44) dX12_qOpens_43 rfl (k243 g8 (by decide) n6) g9 ?_
      refine x_nmH q11 ?_
      have n12 : h10.1 = 243 := by rw [q11]; exact n6
      refine x_aload_n (q := 45) dX12_qOpens_44 rfl rfl ?_
      refine x_dup (q := 46) dX12_qOpens_45 rfl rfl ?_
      refine x_getI (q := 49) dX12_qOpens_46 rfl kl_RX12_315 (Or.inl rfl) (k243 g1 (by decide) n12) ?_
      refine x_iconst (q := 50) (v := (1 : Int32)) dX12_qOpens_49 rfl (by decide) ?_
      refine x_iadd (q := 51) dX12_qOpens_50 rfl ?_
      replace H := kle H; obtain ⟨h13, q14, H⟩ := H
      refine x_putI (q := 54) dX12_qOpens_51 rfl kl_RX12_315 (Or.inl rfl) rfl (k243 g1 (by decide) n12) ?_
      refine x_nmH q14 ?_
      have n15 : h13.1 = 243 := by rw [q14]; exact n12
      cases H
      exact x_end ⟨dX12_qOpens_54, rfl, rfl⟩
  · refine x_if_eq_f (q := 7) dX12_qOpens_4 (t := 8) (by decide) rfl g2 ?_
    cases H
    exact x_end ⟨dX12_qOpens_7, rfl, rfl⟩
theorem s_X12_qOpens {Z : Nat → (Nat → Nat) → State → Prop} (h : KH) (v0 : Nat) (v1 : Int32) (v2 : Int32) {t : KH} (hn : h.1 = 243) (H : f_X12_qOpens h v0 v1 v2 = some t) : KM Z yX12_qOpens cX12_qOpens 3 none 2 [.ref v0, .int v1, .int v2] h none t :=
  kx_v (own := RX12) (ini := false) (by decide +kernel) (by decide +kernel) rfl (Nat.le_of_ble_eq_true rfl) (s0_X12_qOpens h v0 v1 v2 hn H)
theorem dX12_qCode_0 : decode cX12_qCode 0 = .ok (.aload_n 0, 1) := by decide +kernel
theorem dX12_qCode_1 : decode cX12_qCode 1 = .ok (.getfield 215, 3) := by decide +kernel
theorem dX12_qCode_4 : decode cX12_qCode 4 = .ok (.aload_n 0, 1) := by decide +kernel
theorem dX12_qCode_5 : decode cX12_qCode 5 = .ok (.getfield 312, 3) := by decide +kernel
theorem dX12_qCode_8 : decode cX12_qCode 8 = .ok (.iload_n 1, 1) := by decide +kernel
theorem dX12_qCode_9 : decode cX12_qCode 9 = .ok (.iastore, 1) := by decide +kernel
theorem dX12_qCode_10 : decode cX12_qCode 10 = .ok (.aload_n 0, 1) := by decide +kernel
theorem dX12_qCode_11 : decode cX12_qCode 11 = .ok (.dup, 1) := by decide +kernel
theorem dX12_qCode_12 : decode cX12_qCode 12 = .ok (.getfield 312, 3) := by decide +kernel
theorem dX12_qCode_15 : decode cX12_qCode 15 = .ok (.iconst 1, 1) := by decide +kernel
theorem dX12_qCode_16 : decode cX12_qCode 16 = .ok (.iadd, 1) := by decide +kernel
theorem dX12_qCode_17 : decode cX12_qCode 17 = .ok (.putfield 312, 3) := by decide +kernel
theorem dX12_qCode_20 : decode cX12_qCode 20 = .ok (.return_, 1) := by decide +kernel
theorem kl_RX12_215 : KLk RX12 215 12 85 := ⟨RX12, TX12, 97, rfl, by decide, Or.inl (kwm 1282 (by decide +kernel) (by decide +kernel))⟩
theorem kl_RX12_312 : KLk RX12 312 12 86 := ⟨RX12, TX12, 97, rfl, by decide, Or.inl (kwm 1283 (by decide +kernel) (by decide +kernel))⟩
def f_X12_qCode (h : KH) (v0 : Nat) (v1 : Int32) : Option (KH) :=
  if kkind v0 = 12 then if (kR h v0 85) < 999999 then if kkind (kR h v0 85) = 20 then if ((kI h v0 86) < 0 ∨ klen (kR h v0 85) ≤ ((kI h v0 86)).toNatClampNeg) then none else kl (ksI h (kR h v0 85) (((kI h v0 86)).toNatClampNeg) v1) fun h5 =>
  kl (ksI h5 v0 86 ((kI h5 v0 86) + (1 : Int32))) fun h8 =>
  some h8 else none else none else none
set_option maxHeartbeats 4000000 in
set_option maxRecDepth 100000 in
theorem s0_X12_qCode {Z : Nat → (Nat → Nat) → State → Prop} (h : KH) (v0 : Nat) (v1 : Int32) {t : KH} (hn : h.1 = 243) (H : f_X12_qCode h v0 v1 = some t) : KX Z RX12 cX12_qCode 2 false 1 (KRv cX12_qCode t) 0 [(0, .ref v0), (1, .int v1)] [] h := by
  unfold f_X12_qCode at H
  refine x_aload_n (q := 1) dX12_qCode_0 rfl rfl ?_
  replace H := kif H; obtain ⟨g1, H⟩ := H
  replace H := kif H; obtain ⟨g2, H⟩ := H
  refine x_getR (q := 4) dX12_qCode_1 rfl kl_RX12_215 rfl (k243 g1 (by decide) hn) g2 ?_
  refine x_aload_n (q := 5) dX12_qCode_4 rfl rfl ?_
  refine x_getI (q := 8) dX12_qCode_5 rfl kl_RX12_312 (Or.inl rfl) (k243 g1 (by decide) hn) ?_
  refine x_iload_n (q := 9) dX12_qCode_8 rfl rfl ?_
  replace H := kif H; obtain ⟨g3, H⟩ := H
  replace H := kifn H; obtain ⟨g4, H⟩ := H
  replace H := kle H; obtain ⟨h5, q6, H⟩ := H
  refine x_iast (q := 10) dX12_qCode_9 rfl (k243 g3 (by decide) hn) g4 ?_
  refine x_nmH q6 ?_
  have n7 : h5.1 = 243 := by rw [q6]; exact hn
  refine x_aload_n (q := 11) dX12_qCode_10 rfl rfl ?_
  refine x_dup (q := 12) dX12_qCode_11 rfl rfl ?_
  refine x_getI (q := 15) dX12_qCode_12 rfl kl_RX12_312 (Or.inl rfl) (k243 g1 (by decide) n7) ?_
  refine x_iconst (q := 16) (v := (1 : Int32)) dX12_qCode_15 rfl (by decide) ?_
  refine x_iadd (q := 17) dX12_qCode_16 rfl ?_
  replace H := kle H; obtain ⟨h8, q9, H⟩ := H
  refine x_putI (q := 20) dX12_qCode_17 rfl kl_RX12_312 (Or.inl rfl) rfl (k243 g1 (by decide) n7) ?_
  refine x_nmH q9 ?_
  have n10 : h8.1 = 243 := by rw [q9]; exact n7
  cases H
  exact x_end ⟨dX12_qCode_20, rfl, rfl⟩
theorem s_X12_qCode {Z : Nat → (Nat → Nat) → State → Prop} (h : KH) (v0 : Nat) (v1 : Int32) {t : KH} (hn : h.1 = 243) (H : f_X12_qCode h v0 v1 = some t) : KM Z yX12_qCode cX12_qCode 2 none 1 [.ref v0, .int v1] h none t :=
  kx_v (own := RX12) (ini := false) (by decide +kernel) (by decide +kernel) rfl (Nat.le_of_ble_eq_true rfl) (s0_X12_qCode h v0 v1 hn H)
