-- methods as functions, and that the machine does as they say (by wip/whole/gen_all.py): X12_on, X12_status, J2_length_9d52b
theorem dX12_on_0 : decode cX12_on 0 = .ok (.aload_n 0, 1) := by decide +kernel
theorem dX12_on_1 : decode cX12_on 1 = .ok (.getfield 227, 3) := by decide +kernel
theorem dX12_on_4 : decode cX12_on 4 = .ok (.istore_n 1, 1) := by decide +kernel
theorem dX12_on_5 : decode cX12_on 5 = .ok (.aload_n 0, 1) := by decide +kernel
theorem dX12_on_6 : decode cX12_on 6 = .ok (.iconst 0, 1) := by decide +kernel
theorem dX12_on_7 : decode cX12_on 7 = .ok (.putfield 227, 3) := by decide +kernel
theorem dX12_on_10 : decode cX12_on 10 = .ok (.aload_n 0, 1) := by decide +kernel
theorem dX12_on_11 : decode cX12_on 11 = .ok (.iload_n 1, 1) := by decide +kernel
theorem dX12_on_12 : decode cX12_on 12 = .ok (.invokevirtual 657, 3) := by decide +kernel
theorem dX12_on_15 : decode cX12_on 15 = .ok (.ifCond .ne 15, 3) := by decide +kernel
theorem dX12_on_18 : decode cX12_on 18 = .ok (.aload_n 0, 1) := by decide +kernel
theorem dX12_on_19 : decode cX12_on 19 = .ok (.getfield 17, 3) := by decide +kernel
theorem dX12_on_22 : decode cX12_on 22 = .ok (.iconst 5, 1) := by decide +kernel
theorem dX12_on_23 : decode cX12_on 23 = .ok (.dup2, 1) := by decide +kernel
theorem dX12_on_24 : decode cX12_on 24 = .ok (.iaload, 1) := by decide +kernel
theorem dX12_on_25 : decode cX12_on 25 = .ok (.iconst 1, 1) := by decide +kernel
theorem dX12_on_26 : decode cX12_on 26 = .ok (.iadd, 1) := by decide +kernel
theorem dX12_on_27 : decode cX12_on 27 = .ok (.iastore, 1) := by decide +kernel
theorem dX12_on_28 : decode cX12_on 28 = .ok (.iconst 0, 1) := by decide +kernel
theorem dX12_on_29 : decode cX12_on 29 = .ok (.ireturn, 1) := by decide +kernel
theorem dX12_on_30 : decode cX12_on 30 = .ok (.aload_n 0, 1) := by decide +kernel
theorem dX12_on_31 : decode cX12_on 31 = .ok (.getfield 115, 3) := by decide +kernel
theorem dX12_on_34 : decode cX12_on 34 = .ok (.iconst 0, 1) := by decide +kernel
theorem dX12_on_35 : decode cX12_on 35 = .ok (.aload_n 0, 1) := by decide +kernel
theorem dX12_on_36 : decode cX12_on 36 = .ok (.iconst 0, 1) := by decide +kernel
theorem dX12_on_37 : decode cX12_on 37 = .ok (.invokevirtual 654, 3) := by decide +kernel
theorem dX12_on_40 : decode cX12_on 40 = .ok (.iastore, 1) := by decide +kernel
theorem dX12_on_41 : decode cX12_on 41 = .ok (.aload_n 0, 1) := by decide +kernel
theorem dX12_on_42 : decode cX12_on 42 = .ok (.getfield 115, 3) := by decide +kernel
theorem dX12_on_45 : decode cX12_on 45 = .ok (.iconst 1, 1) := by decide +kernel
theorem dX12_on_46 : decode cX12_on 46 = .ok (.aload_n 0, 1) := by decide +kernel
theorem dX12_on_47 : decode cX12_on 47 = .ok (.iconst 2, 1) := by decide +kernel
theorem dX12_on_48 : decode cX12_on 48 = .ok (.invokevirtual 654, 3) := by decide +kernel
theorem dX12_on_51 : decode cX12_on 51 = .ok (.iastore, 1) := by decide +kernel
theorem dX12_on_52 : decode cX12_on 52 = .ok (.iconst 0, 1) := by decide +kernel
theorem dX12_on_53 : decode cX12_on 53 = .ok (.istore_n 2, 1) := by decide +kernel
theorem dX12_on_54 : decode cX12_on 54 = .ok (.iload_n 2, 1) := by decide +kernel
theorem dX12_on_55 : decode cX12_on 55 = .ok (.iconst 2, 1) := by decide +kernel
theorem dX12_on_56 : decode cX12_on 56 = .ok (.aload_n 0, 1) := by decide +kernel
theorem dX12_on_57 : decode cX12_on 57 = .ok (.invokevirtual 367, 3) := by decide +kernel
theorem dX12_on_60 : decode cX12_on 60 = .ok (.imul, 1) := by decide +kernel
theorem dX12_on_61 : decode cX12_on 61 = .ok (.if_icmp .ge 25, 3) := by decide +kernel
theorem dX12_on_64 : decode cX12_on 64 = .ok (.aload_n 0, 1) := by decide +kernel
theorem dX12_on_65 : decode cX12_on 65 = .ok (.getfield 115, 3) := by decide +kernel
theorem dX12_on_68 : decode cX12_on 68 = .ok (.iconst 2, 1) := by decide +kernel
theorem dX12_on_69 : decode cX12_on 69 = .ok (.iload_n 2, 1) := by decide +kernel
theorem dX12_on_70 : decode cX12_on 70 = .ok (.iadd, 1) := by decide +kernel
theorem dX12_on_71 : decode cX12_on 71 = .ok (.aload_n 0, 1) := by decide +kernel
theorem dX12_on_72 : decode cX12_on 72 = .ok (.getfield 7, 3) := by decide +kernel
theorem dX12_on_75 : decode cX12_on 75 = .ok (.iconst 4, 1) := by decide +kernel
theorem dX12_on_76 : decode cX12_on 76 = .ok (.iload_n 2, 1) := by decide +kernel
theorem dX12_on_77 : decode cX12_on 77 = .ok (.iadd, 1) := by decide +kernel
theorem dX12_on_78 : decode cX12_on 78 = .ok (.iaload, 1) := by decide +kernel
theorem dX12_on_79 : decode cX12_on 79 = .ok (.iastore, 1) := by decide +kernel
theorem dX12_on_80 : decode cX12_on 80 = .ok (.iinc 2 1, 3) := by decide +kernel
theorem dX12_on_83 : decode cX12_on 83 = .ok (.goto (-29), 3) := by decide +kernel
theorem dX12_on_86 : decode cX12_on 86 = .ok (.iconst 0, 1) := by decide +kernel
theorem dX12_on_87 : decode cX12_on 87 = .ok (.istore_n 2, 1) := by decide +kernel
theorem dX12_on_88 : decode cX12_on 88 = .ok (.iload_n 2, 1) := by decide +kernel
theorem dX12_on_89 : decode cX12_on 89 = .ok (.iconst 2, 1) := by decide +kernel
theorem dX12_on_90 : decode cX12_on 90 = .ok (.aload_n 0, 1) := by decide +kernel
theorem dX12_on_91 : decode cX12_on 91 = .ok (.invokevirtual 403, 3) := by decide +kernel
theorem dX12_on_94 : decode cX12_on 94 = .ok (.imul, 1) := by decide +kernel
theorem dX12_on_95 : decode cX12_on 95 = .ok (.if_icmp .ge 33, 3) := by decide +kernel
theorem dX12_on_98 : decode cX12_on 98 = .ok (.aload_n 0, 1) := by decide +kernel
theorem dX12_on_99 : decode cX12_on 99 = .ok (.getfield 115, 3) := by decide +kernel
theorem dX12_on_102 : decode cX12_on 102 = .ok (.bipush 14, 2) := by decide +kernel
theorem dX12_on_104 : decode cX12_on 104 = .ok (.iload_n 2, 1) := by decide +kernel
theorem dX12_on_105 : decode cX12_on 105 = .ok (.iadd, 1) := by decide +kernel
theorem dX12_on_106 : decode cX12_on 106 = .ok (.aload_n 0, 1) := by decide +kernel
theorem dX12_on_107 : decode cX12_on 107 = .ok (.getfield 7, 3) := by decide +kernel
theorem dX12_on_110 : decode cX12_on 110 = .ok (.iconst 4, 1) := by decide +kernel
theorem dX12_on_111 : decode cX12_on 111 = .ok (.iconst 2, 1) := by decide +kernel
theorem dX12_on_112 : decode cX12_on 112 = .ok (.aload_n 0, 1) := by decide +kernel
theorem dX12_on_113 : decode cX12_on 113 = .ok (.invokevirtual 367, 3) := by decide +kernel
theorem dX12_on_116 : decode cX12_on 116 = .ok (.imul, 1) := by decide +kernel
theorem dX12_on_117 : decode cX12_on 117 = .ok (.iadd, 1) := by decide +kernel
theorem dX12_on_118 : decode cX12_on 118 = .ok (.iload_n 2, 1) := by decide +kernel
theorem dX12_on_119 : decode cX12_on 119 = .ok (.iadd, 1) := by decide +kernel
theorem dX12_on_120 : decode cX12_on 120 = .ok (.iaload, 1) := by decide +kernel
theorem dX12_on_121 : decode cX12_on 121 = .ok (.iastore, 1) := by decide +kernel
theorem dX12_on_122 : decode cX12_on 122 = .ok (.iinc 2 1, 3) := by decide +kernel
theorem dX12_on_125 : decode cX12_on 125 = .ok (.goto (-37), 3) := by decide +kernel
theorem dX12_on_128 : decode cX12_on 128 = .ok (.aload_n 0, 1) := by decide +kernel
theorem dX12_on_129 : decode cX12_on 129 = .ok (.getfield 115, 3) := by decide +kernel
theorem dX12_on_132 : decode cX12_on 132 = .ok (.bipush 24, 2) := by decide +kernel
theorem dX12_on_134 : decode cX12_on 134 = .ok (.iconst 0, 1) := by decide +kernel
theorem dX12_on_135 : decode cX12_on 135 = .ok (.iastore, 1) := by decide +kernel
theorem dX12_on_136 : decode cX12_on 136 = .ok (.aload_n 0, 1) := by decide +kernel
theorem dX12_on_137 : decode cX12_on 137 = .ok (.iconst 0, 1) := by decide +kernel
theorem dX12_on_138 : decode cX12_on 138 = .ok (.putfield 358, 3) := by decide +kernel
theorem dX12_on_141 : decode cX12_on 141 = .ok (.iconst 1, 1) := by decide +kernel
theorem dX12_on_142 : decode cX12_on 142 = .ok (.ireturn, 1) := by decide +kernel
theorem kc_RX12_657 : Cond.methodLink RX12 657 yX12_isImage ∈ ktG ∧ (Cond.instanceMethod yX12_isImage ∈ ktG ∧ Cond.selects yX12_isImage.cls yX12_isImage yX12_isImage ∈ ktG) ∧ Cond.initialized yX12_isImage.cls ∈ ktG ∧ Cond.code yX12_isImage cX12_isImage 4 (some .boolean) ∈ ktG := ⟨(kwm 2008 (by decide +kernel) (by decide +kernel)), ⟨(kwm 2010 (by decide +kernel) (by decide +kernel)), (kwm 120 (by decide +kernel) (by decide +kernel))⟩, (kwm 139 (by decide +kernel) (by decide +kernel)), kwm 2011 (by decide +kernel) (by decide +kernel)⟩
theorem kh_X12_isImage : yX12_isImage.cls ≠ "java/lang/invoke/MethodHandle" ∧ yX12_isImage.cls ≠ "java/lang/invoke/VarHandle" ∧ (parseMethodDescriptor yX12_isImage.desc).map (fun d => d.parameters.length) = some 1 := by decide +kernel
def E_X12_on_l54 (v0 : Nat) : KH → Nat → List (Nat × Value) → List Value → KH → Prop := fun (e : KH) pc ls st hh => pc = 86 ∧ ls = [(0, .ref v0)] ∧ st = [] ∧ e = hh
def B_X12_on_l54 (v0 : Nat) : ((Int32 × KH) ⊕ (KH)) → Nat → List (Nat × Value) → List Value → KH → Prop := Sum.elim (fun (s : Int32 × KH) pc ls st hh => pc = 54 ∧ ls = [(0, .ref v0), (2, .int s.1)] ∧ st = [] ∧ hh = s.2) (E_X12_on_l54 v0)
def f_X12_on_l54 (v0 : Nat) (s : Int32 × KH) : Option ((Int32 × KH) ⊕ (KH)) :=
  if kkind v0 = 12 then kb (f_X12_testMany s.2 v0) fun r2 =>
  if ((2 : Int32) * r2) ≤ s.1 then
  some (.inr s.2)
  else
  if (kR s.2 v0 45) < 999999 then if (kR s.2 v0 0) < 999999 then if kkind (kR s.2 v0 0) = 20 then if (((4 : Int32) + s.1) < 0 ∨ klen (kR s.2 v0 0) ≤ (((4 : Int32) + s.1)).toNatClampNeg) then none else if kkind (kR s.2 v0 45) = 20 then if (((2 : Int32) + s.1) < 0 ∨ klen (kR s.2 v0 45) ≤ (((2 : Int32) + s.1)).toNatClampNeg) then none else kl (ksI s.2 (kR s.2 v0 45) ((((2 : Int32) + s.1)).toNatClampNeg) (kI s.2 (kR s.2 v0 0) ((((4 : Int32) + s.1)).toNatClampNeg))) fun h12 =>
  kl (s.1 + (1 : Int32)) fun x15 =>
  some (.inl (x15, h12)) else none else none else none else none else none
set_option maxHeartbeats 4000000 in
set_option maxRecDepth 100000 in
theorem s_X12_on_l54 {Z : Nat → (Nat → Nat) → State → Prop} (v0 : Nat) (s : Int32 × KH) (t : (Int32 × KH) ⊕ (KH)) (hn : (s.2).1 = 243) (H : f_X12_on_l54 v0 s = some t) : KX Z RX12 cX12_on 3 false 3 (B_X12_on_l54 v0 t) 54 [(0, .ref v0), (2, .int s.1)] [] s.2 := by
  unfold f_X12_on_l54 at H
  refine x_iload_n (q := 55) dX12_on_54 rfl rfl ?_
  refine x_iconst (q := 56) (v := (2 : Int32)) dX12_on_55 rfl (by decide) ?_
  refine x_aload_n (q := 57) dX12_on_56 rfl rfl ?_
  replace H := kif H; obtain ⟨g1, H⟩ := H
  replace H := kbe H; obtain ⟨r2, c3, H⟩ := H
  have m4 := s_X12_testMany (Z := Z) s.2 v0 hn c3
  refine x_callV (q := 60) (as := []) (rest := [.int (2 : Int32), .int s.1]) dX12_on_57 rfl kc_RX12_367 kh_X12_testMany (by decide) (Nat.le_of_ble_eq_true rfl) m4 (ci := 12) (by exact ⟨rfl, by decide⟩) (k243 g1 (by decide) hn) ?_
  refine x_imul (q := 61) dX12_on_60 rfl ?_
  replace H := kite H; rcases H with ⟨g5, H⟩ | ⟨g5, H⟩
  · refine x_icmp_ge_t dX12_on_61 (q := 86) (by decide) g5 ?_
    cases H
    refine x_sub (ls2 := [(0, .ref v0)]) [0] rfl ?_
    exact x_end (x_cfg rfl)
  · refine x_icmp_ge_f (q := 64) dX12_on_61 (t := 86) (by decide) rfl g5 ?_
    refine x_aload_n (q := 65) dX12_on_64 rfl rfl ?_
    replace H := kif H; obtain ⟨g6, H⟩ := H
    refine x_getR (q := 68) dX12_on_65 rfl kl_RX12_115 rfl (k243 g1 (by decide) hn) g6 ?_
    refine x_iconst (q := 69) (v := (2 : Int32)) dX12_on_68 rfl (by decide) ?_
    refine x_iload_n (q := 70) dX12_on_69 rfl rfl ?_
    refine x_iadd (q := 71) dX12_on_70 rfl ?_
    refine x_aload_n (q := 72) dX12_on_71 rfl rfl ?_
    replace H := kif H; obtain ⟨g7, H⟩ := H
    refine x_getR (q := 75) dX12_on_72 rfl kl_RX12_7 rfl (k243 g1 (by decide) hn) g7 ?_
    refine x_iconst (q := 76) (v := (4 : Int32)) dX12_on_75 rfl (by decide) ?_
    refine x_iload_n (q := 77) dX12_on_76 rfl rfl ?_
    refine x_iadd (q := 78) dX12_on_77 rfl ?_
    replace H := kif H; obtain ⟨g8, H⟩ := H
    replace H := kifn H; obtain ⟨g9, H⟩ := H
    refine x_iald (q := 79) dX12_on_78 rfl (k243 g8 (by decide) hn) g9 ?_
    replace H := kif H; obtain ⟨g10, H⟩ := H
    replace H := kifn H; obtain ⟨g11, H⟩ := H
    replace H := kle H; obtain ⟨h12, q13, H⟩ := H
    refine x_iast (q := 80) dX12_on_79 rfl (k243 g10 (by decide) hn) g11 ?_
    refine x_nmH q13 ?_
    have n14 : h12.1 = 243 := by rw [q13]; exact hn
    replace H := kle H; obtain ⟨x15, q16, H⟩ := H
    refine x_iinc (q := 83) (i := 2) (ls2 := [(2, .int x15), (0, .ref v0)]) dX12_on_80 rfl rfl (by decide) (by rw [q16]; rfl) ?_
    refine x_goto dX12_on_83 (q := 54) (by decide) ?_
    cases H
    refine x_sub (ls2 := [(0, .ref v0), (2, .int x15)]) [1, 0] rfl ?_
    exact x_end (x_cfg rfl)
theorem sl_X12_on_l54 {Z : Nat → (Nat → Nat) → State → Prop} (v0 : Nat) (n : Nat) (s : Int32 × KH) (r : KH) (hn : (s.2).1 = 243) (H : kloop (f_X12_on_l54 v0) n s = some r) : KX Z RX12 cX12_on 3 false 3 (E_X12_on_l54 v0 r) 54 [(0, .ref v0), (2, .int s.1)] [] s.2 :=
  k_loop (ls := (fun (s : Int32 × KH) => ([(0, .ref v0), (2, .int s.1)] : List (Nat × Value)))) (hp := (fun (s : Int32 × KH) => (s.2 : KH))) (G := E_X12_on_l54 v0) (fun s t hn H => s_X12_on_l54 v0 s t hn H) n s r hn H
def E_X12_on_l88 (v0 : Nat) : KH → Nat → List (Nat × Value) → List Value → KH → Prop := fun (e : KH) pc ls st hh => pc = 128 ∧ ls = [(0, .ref v0)] ∧ st = [] ∧ e = hh
def B_X12_on_l88 (v0 : Nat) : ((Int32 × KH) ⊕ (KH)) → Nat → List (Nat × Value) → List Value → KH → Prop := Sum.elim (fun (s : Int32 × KH) pc ls st hh => pc = 88 ∧ ls = [(0, .ref v0), (2, .int s.1)] ∧ st = [] ∧ hh = s.2) (E_X12_on_l88 v0)
def f_X12_on_l88 (v0 : Nat) (s : Int32 × KH) : Option ((Int32 × KH) ⊕ (KH)) :=
  if kkind v0 = 12 then kb (f_X12_markMany s.2 v0) fun r2 =>
  if ((2 : Int32) * r2) ≤ s.1 then
  some (.inr s.2)
  else
  if (kR s.2 v0 45) < 999999 then if (kR s.2 v0 0) < 999999 then kb (f_X12_testMany s.2 v0) fun r8 =>
  if kkind (kR s.2 v0 0) = 20 then if ((((4 : Int32) + ((2 : Int32) * r8)) + s.1) < 0 ∨ klen (kR s.2 v0 0) ≤ ((((4 : Int32) + ((2 : Int32) * r8)) + s.1)).toNatClampNeg) then none else if kkind (kR s.2 v0 45) = 20 then if (((14 : Int32) + s.1) < 0 ∨ klen (kR s.2 v0 45) ≤ (((14 : Int32) + s.1)).toNatClampNeg) then none else kl (ksI s.2 (kR s.2 v0 45) ((((14 : Int32) + s.1)).toNatClampNeg) (kI s.2 (kR s.2 v0 0) (((((4 : Int32) + ((2 : Int32) * r8)) + s.1)).toNatClampNeg))) fun h15 =>
  kl (s.1 + (1 : Int32)) fun x18 =>
  some (.inl (x18, h15)) else none else none else none else none else none
set_option maxHeartbeats 4000000 in
set_option maxRecDepth 100000 in
theorem s_X12_on_l88 {Z : Nat → (Nat → Nat) → State → Prop} (v0 : Nat) (s : Int32 × KH) (t : (Int32 × KH) ⊕ (KH)) (hn : (s.2).1 = 243) (H : f_X12_on_l88 v0 s = some t) : KX Z RX12 cX12_on 3 false 3 (B_X12_on_l88 v0 t) 88 [(0, .ref v0), (2, .int s.1)] [] s.2 := by
  unfold f_X12_on_l88 at H
  refine x_iload_n (q := 89) dX12_on_88 rfl rfl ?_
  refine x_iconst (q := 90) (v := (2 : Int32)) dX12_on_89 rfl (by decide) ?_
  refine x_aload_n (q := 91) dX12_on_90 rfl rfl ?_
  replace H := kif H; obtain ⟨g1, H⟩ := H
  replace H := kbe H; obtain ⟨r2, c3, H⟩ := H
  have m4 := s_X12_markMany (Z := Z) s.2 v0 hn c3
  refine x_callV (q := 94) (as := []) (rest := [.int (2 : Int32), .int s.1]) dX12_on_91 rfl kc_RX12_403 kh_X12_markMany (by decide) (Nat.le_of_ble_eq_true rfl) m4 (ci := 12) (by exact ⟨rfl, by decide⟩) (k243 g1 (by decide) hn) ?_
  refine x_imul (q := 95) dX12_on_94 rfl ?_
  replace H := kite H; rcases H with ⟨g5, H⟩ | ⟨g5, H⟩
  · refine x_icmp_ge_t dX12_on_95 (q := 128) (by decide) g5 ?_
    cases H
    refine x_sub (ls2 := [(0, .ref v0)]) [0] rfl ?_
    exact x_end (x_cfg rfl)
  · refine x_icmp_ge_f (q := 98) dX12_on_95 (t := 128) (by decide) rfl g5 ?_
    refine x_aload_n (q := 99) dX12_on_98 rfl rfl ?_
    replace H := kif H; obtain ⟨g6, H⟩ := H
    refine x_getR (q := 102) dX12_on_99 rfl kl_RX12_115 rfl (k243 g1 (by decide) hn) g6 ?_
    refine x_bipush (q := 104) (v := (14 : Int32)) dX12_on_102 rfl (by decide) ?_
    refine x_iload_n (q := 105) dX12_on_104 rfl rfl ?_
    refine x_iadd (q := 106) dX12_on_105 rfl ?_
    refine x_aload_n (q := 107) dX12_on_106 rfl rfl ?_
    replace H := kif H; obtain ⟨g7, H⟩ := H
    refine x_getR (q := 110) dX12_on_107 rfl kl_RX12_7 rfl (k243 g1 (by decide) hn) g7 ?_
    refine x_iconst (q := 111) (v := (4 : Int32)) dX12_on_110 rfl (by decide) ?_
    refine x_iconst (q := 112) (v := (2 : Int32)) dX12_on_111 rfl (by decide) ?_
    refine x_aload_n (q := 113) dX12_on_112 rfl rfl ?_
    replace H := kbe H; obtain ⟨r8, c9, H⟩ := H
    have m10 := s_X12_testMany (Z := Z) s.2 v0 hn c9
    refine x_callV (q := 116) (as := []) (rest := [.int (2 : Int32), .int (4 : Int32), .ref (kR s.2 v0 0), .int ((14 : Int32) + s.1), .ref (kR s.2 v0 45)]) dX12_on_113 rfl kc_RX12_367 kh_X12_testMany (by decide) (Nat.le_of_ble_eq_true rfl) m10 (ci := 12) (by exact ⟨rfl, by decide⟩) (k243 g1 (by decide) hn) ?_
    refine x_imul (q := 117) dX12_on_116 rfl ?_
    refine x_iadd (q := 118) dX12_on_117 rfl ?_
    refine x_iload_n (q := 119) dX12_on_118 rfl rfl ?_
    refine x_iadd (q := 120) dX12_on_119 rfl ?_
    replace H := kif H; obtain ⟨g11, H⟩ := H
    replace H := kifn H; obtain ⟨g12, H⟩ := H
    refine x_iald (q := 121) dX12_on_120 rfl (k243 g11 (by decide) hn) g12 ?_
    replace H := kif H; obtain ⟨g13, H⟩ := H
    replace H := kifn H; obtain ⟨g14, H⟩ := H
    replace H := kle H; obtain ⟨h15, q16, H⟩ := H
    refine x_iast (q := 122) dX12_on_121 rfl (k243 g13 (by decide) hn) g14 ?_
    refine x_nmH q16 ?_
    have n17 : h15.1 = 243 := by rw [q16]; exact hn
    replace H := kle H; obtain ⟨x18, q19, H⟩ := H
    refine x_iinc (q := 125) (i := 2) (ls2 := [(2, .int x18), (0, .ref v0)]) dX12_on_122 rfl rfl (by decide) (by rw [q19]; rfl) ?_
    refine x_goto dX12_on_125 (q := 88) (by decide) ?_
    cases H
    refine x_sub (ls2 := [(0, .ref v0), (2, .int x18)]) [1, 0] rfl ?_
    exact x_end (x_cfg rfl)
theorem sl_X12_on_l88 {Z : Nat → (Nat → Nat) → State → Prop} (v0 : Nat) (n : Nat) (s : Int32 × KH) (r : KH) (hn : (s.2).1 = 243) (H : kloop (f_X12_on_l88 v0) n s = some r) : KX Z RX12 cX12_on 3 false 3 (E_X12_on_l88 v0 r) 88 [(0, .ref v0), (2, .int s.1)] [] s.2 :=
  k_loop (ls := (fun (s : Int32 × KH) => ([(0, .ref v0), (2, .int s.1)] : List (Nat × Value)))) (hp := (fun (s : Int32 × KH) => (s.2 : KH))) (G := E_X12_on_l88 v0) (fun s t hn H => s_X12_on_l88 v0 s t hn H) n s r hn H
def f_X12_on (h : KH) (v0 : Nat) : Option (Int32 × KH) :=
  if kkind v0 = 12 then kl (kI h v0 1) fun x2 =>
  kl (ksI h v0 1 (0 : Int32)) fun h4 =>
  kb (f_X12_isImage h4 v0 x2) fun r7 =>
  if r7 = 0 then
  if (kR h4 v0 9) < 999999 then if kkind (kR h4 v0 9) = 20 then if klen (kR h4 v0 9) ≤ 5 then none else kl (ksI h4 (kR h4 v0 9) 5 ((kI h4 (kR h4 v0 9) 5) + (1 : Int32))) fun h47 =>
  some ((0 : Int32), h47) else none else none
  else
  if (kR h4 v0 45) < 999999 then kb (f_X12_twoAt h4 v0 (0 : Int32)) fun r12 =>
  if kkind (kR h4 v0 45) = 20 then if klen (kR h4 v0 45) ≤ 0 then none else kl (ksI h4 (kR h4 v0 45) 0 r12) fun h17 =>
  if (kR h17 v0 45) < 999999 then kb (f_X12_twoAt h17 v0 (2 : Int32)) fun r21 =>
  if kkind (kR h17 v0 45) = 20 then if klen (kR h17 v0 45) ≤ 1 then none else kl (ksI h17 (kR h17 v0 45) 1 r21) fun h26 =>
  kb (kloop (f_X12_on_l54 v0) KF ((0 : Int32), h26)) fun e29 =>
  kb (kloop (f_X12_on_l88 v0) KF ((0 : Int32), e29)) fun e32 =>
  if (kR e32 v0 45) < 999999 then if kkind (kR e32 v0 45) = 20 then if klen (kR e32 v0 45) ≤ 24 then none else kl (ksI e32 (kR e32 v0 45) 24 (0 : Int32)) fun h38 =>
  kl (ksI h38 v0 61 (0 : Int32)) fun h41 =>
  some ((1 : Int32), h41) else none else none else none else none else none else none else none
set_option maxHeartbeats 4000000 in
set_option maxRecDepth 100000 in
theorem s0_X12_on {Z : Nat → (Nat → Nat) → State → Prop} (h : KH) (v0 : Nat) {t : Int32 × KH} (hn : h.1 = 243) (H : f_X12_on h v0 = some t) : KX Z RX12 cX12_on 3 false 3 (KRz cX12_on t.1 t.2) 0 [(0, .ref v0)] [] h := by
  unfold f_X12_on at H
  refine x_aload_n (q := 1) dX12_on_0 rfl rfl ?_
  replace H := kif H; obtain ⟨g1, H⟩ := H
  refine x_getI (q := 4) dX12_on_1 rfl kl_RX12_227 (Or.inl rfl) (k243 g1 (by decide) hn) ?_
  replace H := kle H; obtain ⟨x2, q3, H⟩ := H
  refine x_nmI q3 ?_
  refine x_istore_n (q := 5) (i := 1) (ls2 := [(1, .int x2), (0, .ref v0)]) dX12_on_4 rfl rfl (by decide) rfl ?_
  refine x_aload_n (q := 6) dX12_on_5 rfl rfl ?_
  refine x_iconst (q := 7) (v := (0 : Int32)) dX12_on_6 rfl (by decide) ?_
  replace H := kle H; obtain ⟨h4, q5, H⟩ := H
  refine x_putI (q := 10) dX12_on_7 rfl kl_RX12_227 (Or.inl rfl) rfl (k243 g1 (by decide) hn) ?_
  refine x_nmH q5 ?_
  have n6 : h4.1 = 243 := by rw [q5]; exact hn
  refine x_aload_n (q := 11) dX12_on_10 rfl rfl ?_
  refine x_iload_n (q := 12) dX12_on_11 rfl rfl ?_
  replace H := kbe H; obtain ⟨r7, c8, H⟩ := H
  have m9 := s_X12_isImage (Z := Z) h4 v0 x2 n6 c8
  refine x_callV (q := 15) (as := [.int x2]) (rest := []) dX12_on_12 rfl kc_RX12_657 kh_X12_isImage (by decide) (Nat.le_of_ble_eq_true rfl) m9 (ci := 12) (by exact ⟨rfl, by decide⟩) (k243 g1 (by decide) n6) ?_
  replace H := kite H; rcases H with ⟨g10, H⟩ | ⟨g10, H⟩
  · refine x_if_ne_f (q := 18) dX12_on_15 (t := 30) (by decide) rfl g10 ?_
    refine x_aload_n (q := 19) dX12_on_18 rfl rfl ?_
    replace H := kif H; obtain ⟨g44, H⟩ := H
    refine x_getR (q := 22) dX12_on_19 rfl kl_RX12_17 rfl (k243 g1 (by decide) n6) g44 ?_
    refine x_iconst (q := 23) (v := (5 : Int32)) dX12_on_22 rfl (by decide) ?_
    refine x_dup2 (q := 24) dX12_on_23 rfl ⟨rfl, rfl⟩ ?_
    replace H := kif H; obtain ⟨g45, H⟩ := H
    replace H := kifn H; obtain ⟨g46, H⟩ := H
    refine x_iald (q := 25) dX12_on_24 rfl (k243 g45 (by decide) n6) (fun z => z.elim (by decide) g46) ?_
    refine x_iconst (q := 26) (v := (1 : Int32)) dX12_on_25 rfl (by decide) ?_
    refine x_iadd (q := 27) dX12_on_26 rfl ?_
    replace H := kle H; obtain ⟨h47, q48, H⟩ := H
    refine x_iast (q := 28) dX12_on_27 rfl (k243 g45 (by decide) n6) (fun z => z.elim (by decide) g46) ?_
    refine x_nmH q48 ?_
    have n49 : h47.1 = 243 := by rw [q48]; exact n6
    refine x_iconst (q := 29) (v := (0 : Int32)) dX12_on_28 rfl (by decide) ?_
    cases H
    exact x_end ⟨(Or.inl rfl), dX12_on_29, rfl, rfl⟩
  · refine x_if_ne_t dX12_on_15 (q := 30) (by decide) g10 ?_
    refine x_aload_n (q := 31) dX12_on_30 rfl rfl ?_
    replace H := kif H; obtain ⟨g11, H⟩ := H
    refine x_getR (q := 34) dX12_on_31 rfl kl_RX12_115 rfl (k243 g1 (by decide) n6) g11 ?_
    refine x_iconst (q := 35) (v := (0 : Int32)) dX12_on_34 rfl (by decide) ?_
    refine x_aload_n (q := 36) dX12_on_35 rfl rfl ?_
    refine x_iconst (q := 37) (v := (0 : Int32)) dX12_on_36 rfl (by decide) ?_
    replace H := kbe H; obtain ⟨r12, c13, H⟩ := H
    have m14 := s_X12_twoAt (Z := Z) h4 v0 (0 : Int32) n6 c13
    refine x_callV (q := 40) (as := [.int (0 : Int32)]) (rest := [.int (0 : Int32), .ref (kR h4 v0 45)]) dX12_on_37 rfl kc_RX12_654 kh_X12_twoAt (by decide) (Nat.le_of_ble_eq_true rfl) m14 (ci := 12) (by exact ⟨rfl, by decide⟩) (k243 g1 (by decide) n6) ?_
    replace H := kif H; obtain ⟨g15, H⟩ := H
    replace H := kifn H; obtain ⟨g16, H⟩ := H
    replace H := kle H; obtain ⟨h17, q18, H⟩ := H
    refine x_iast (q := 41) dX12_on_40 rfl (k243 g15 (by decide) n6) (fun z => z.elim (by decide) g16) ?_
    refine x_nmH q18 ?_
    have n19 : h17.1 = 243 := by rw [q18]; exact n6
    refine x_aload_n (q := 42) dX12_on_41 rfl rfl ?_
    replace H := kif H; obtain ⟨g20, H⟩ := H
    refine x_getR (q := 45) dX12_on_42 rfl kl_RX12_115 rfl (k243 g1 (by decide) n19) g20 ?_
    refine x_iconst (q := 46) (v := (1 : Int32)) dX12_on_45 rfl (by decide) ?_
    refine x_aload_n (q := 47) dX12_on_46 rfl rfl ?_
    refine x_iconst (q := 48) (v := (2 : Int32)) dX12_on_47 rfl (by decide) ?_
    replace H := kbe H; obtain ⟨r21, c22, H⟩ := H
    have m23 := s_X12_twoAt (Z := Z) h17 v0 (2 : Int32) n19 c22
    refine x_callV (q := 51) (as := [.int (2 : Int32)]) (rest := [.int (1 : Int32), .ref (kR h17 v0 45)]) dX12_on_48 rfl kc_RX12_654 kh_X12_twoAt (by decide) (Nat.le_of_ble_eq_true rfl) m23 (ci := 12) (by exact ⟨rfl, by decide⟩) (k243 g1 (by decide) n19) ?_
    replace H := kif H; obtain ⟨g24, H⟩ := H
    replace H := kifn H; obtain ⟨g25, H⟩ := H
    replace H := kle H; obtain ⟨h26, q27, H⟩ := H
    refine x_iast (q := 52) dX12_on_51 rfl (k243 g24 (by decide) n19) (fun z => z.elim (by decide) g25) ?_
    refine x_nmH q27 ?_
    have n28 : h26.1 = 243 := by rw [q27]; exact n19
    refine x_iconst (q := 53) (v := (0 : Int32)) dX12_on_52 rfl (by decide) ?_
    refine x_istore_n (q := 54) (i := 2) (ls2 := [(2, .int (0 : Int32)), (1, .int x2), (0, .ref v0)]) dX12_on_53 rfl rfl (by decide) rfl ?_
    refine x_sub (ls2 := [(0, .ref v0), (2, .int (0 : Int32))]) [2, 0] rfl ?_
    replace H := kbe H; obtain ⟨e29, c30, H⟩ := H
    refine x_app (sl_X12_on_l54 v0 KF ((0 : Int32), h26) e29 n28 c30) fun pc2 ls2 st2 h2 hg m31 => ?_
    obtain ⟨rfl, rfl, rfl, rfl⟩ := hg
    refine x_iconst (q := 87) (v := (0 : Int32)) dX12_on_86 rfl (by decide) ?_
    refine x_istore_n (q := 88) (i := 2) (ls2 := [(2, .int (0 : Int32)), (0, .ref v0)]) dX12_on_87 rfl rfl (by decide) rfl ?_
    refine x_sub (ls2 := [(0, .ref v0), (2, .int (0 : Int32))]) [1, 0] rfl ?_
    replace H := kbe H; obtain ⟨e32, c33, H⟩ := H
    refine x_app (sl_X12_on_l88 v0 KF ((0 : Int32), e29) e32 (m31.full n28) c33) fun pc2 ls2 st2 h2 hg m34 => ?_
    obtain ⟨rfl, rfl, rfl, rfl⟩ := hg
    refine x_aload_n (q := 129) dX12_on_128 rfl rfl ?_
    replace H := kif H; obtain ⟨g35, H⟩ := H
    refine x_getR (q := 132) dX12_on_129 rfl kl_RX12_115 rfl (k243 g1 (by decide) (m34.full (m31.full n28))) g35 ?_
    refine x_bipush (q := 134) (v := (24 : Int32)) dX12_on_132 rfl (by decide) ?_
    refine x_iconst (q := 135) (v := (0 : Int32)) dX12_on_134 rfl (by decide) ?_
    replace H := kif H; obtain ⟨g36, H⟩ := H
    replace H := kifn H; obtain ⟨g37, H⟩ := H
    replace H := kle H; obtain ⟨h38, q39, H⟩ := H
    refine x_iast (q := 136) dX12_on_135 rfl (k243 g36 (by decide) (m34.full (m31.full n28))) (fun z => z.elim (by decide) g37) ?_
    refine x_nmH q39 ?_
    have n40 : h38.1 = 243 := by rw [q39]; exact (m34.full (m31.full n28))
    refine x_aload_n (q := 137) dX12_on_136 rfl rfl ?_
    refine x_iconst (q := 138) (v := (0 : Int32)) dX12_on_137 rfl (by decide) ?_
    replace H := kle H; obtain ⟨h41, q42, H⟩ := H
    refine x_putI (q := 141) dX12_on_138 rfl kl_RX12_358 (Or.inl rfl) rfl (k243 g1 (by decide) n40) ?_
    refine x_nmH q42 ?_
    have n43 : h41.1 = 243 := by rw [q42]; exact n40
    refine x_iconst (q := 142) (v := (1 : Int32)) dX12_on_141 rfl (by decide) ?_
    cases H
    exact x_end ⟨(Or.inr rfl), dX12_on_142, rfl, rfl⟩
theorem s_X12_on {Z : Nat → (Nat → Nat) → State → Prop} (h : KH) (v0 : Nat) {t : Int32 × KH} (hn : h.1 = 243) (H : f_X12_on h v0 = some t) : KM Z yX12_on cX12_on 3 (some .boolean) 3 [.ref v0] h (some (.int t.1)) t.2 :=
  kx_z (own := RX12) (ini := false) (by decide +kernel) (by decide +kernel) rfl (Nat.le_of_ble_eq_true rfl) (s0_X12_on h v0 hn H)
theorem dX12_status_0 : decode cX12_status 0 = .ok (.iload_n 1, 1) := by decide +kernel
theorem dX12_status_1 : decode cX12_status 1 = .ok (.i2l, 1) := by decide +kernel
theorem dX12_status_2 : decode cX12_status 2 = .ok (.lconst 0, 1) := by decide +kernel
theorem dX12_status_3 : decode cX12_status 3 = .ok (.ldc2_w 466, 3) := by decide +kernel
theorem dX12_status_6 : decode cX12_status 6 = .ok (.invokestatic 270, 3) := by decide +kernel
theorem dX12_status_9 : decode cX12_status 9 = .ok (.ifCond .eq 12, 3) := by decide +kernel
theorem dX12_status_12 : decode cX12_status 12 = .ok (.aload_n 0, 1) := by decide +kernel
theorem dX12_status_13 : decode cX12_status 13 = .ok (.getfield 17, 3) := by decide +kernel
theorem dX12_status_16 : decode cX12_status 16 = .ok (.iload_n 1, 1) := by decide +kernel
theorem dX12_status_17 : decode cX12_status 17 = .ok (.iaload, 1) := by decide +kernel
theorem dX12_status_18 : decode cX12_status 18 = .ok (.goto 4, 3) := by decide +kernel
theorem dX12_status_21 : decode cX12_status 21 = .ok (.iconst (-1), 1) := by decide +kernel
theorem dX12_status_22 : decode cX12_status 22 = .ok (.ireturn, 1) := by decide +kernel
def f_X12_status (h : KH) (v0 : Nat) (v1 : Int32) : Option (Int32) :=
  kb (f_X12_isIn h ((v1).toInt64) (0 : Int64) (5 : Int64)) fun r1 =>
  if r1 = 0 then
  some (-1 : Int32)
  else
  if kkind v0 = 12 then if (kR h v0 9) < 999999 then if kkind (kR h v0 9) = 20 then if (v1 < 0 ∨ klen (kR h v0 9) ≤ (v1).toNatClampNeg) then none else some (kI h (kR h v0 9) ((v1).toNatClampNeg)) else none else none else none
set_option maxHeartbeats 4000000 in
set_option maxRecDepth 100000 in
theorem s0_X12_status {Z : Nat → (Nat → Nat) → State → Prop} (h : KH) (v0 : Nat) (v1 : Int32) {t : Int32} (hn : h.1 = 243) (H : f_X12_status h v0 v1 = some t) : KX Z RX12 cX12_status 2 false 2 (KRi cX12_status t h) 0 [(0, .ref v0), (1, .int v1)] [] h := by
  unfold f_X12_status at H
  refine x_iload_n (q := 1) dX12_status_0 rfl rfl ?_
  refine x_i2l (q := 2) dX12_status_1 rfl ?_
  refine x_lconst (q := 3) (v := (0 : Int64)) dX12_status_2 rfl (by decide) ?_
  refine x_ldc2 (q := 6) (v := (5 : Int64)) dX12_status_3 rfl kk_RX12_466 ?_
  replace H := kbe H; obtain ⟨r1, c2, H⟩ := H
  have m3 := s_X12_isIn (Z := Z) h ((v1).toInt64) (0 : Int64) (5 : Int64) hn c2
  refine x_callS (q := 9) (as := [.long ((v1).toInt64), .long (0 : Int64), .long (5 : Int64)]) (rest := []) dX12_status_6 rfl kc_RX12_270 kh_X12_isIn (by decide) (Nat.le_of_ble_eq_true rfl) m3 ?_
  replace H := kite H; rcases H with ⟨g4, H⟩ | ⟨g4, H⟩
  · refine x_if_eq_t dX12_status_9 (q := 21) (by decide) g4 ?_
    refine x_iconst (q := 22) (v := (-1 : Int32)) dX12_status_21 rfl (by decide) ?_
    cases H
    exact x_end ⟨dX12_status_22, rfl, rfl⟩
  · refine x_if_eq_f (q := 12) dX12_status_9 (t := 21) (by decide) rfl g4 ?_
    refine x_aload_n (q := 13) dX12_status_12 rfl rfl ?_
    replace H := kif H; obtain ⟨g5, H⟩ := H
    replace H := kif H; obtain ⟨g6, H⟩ := H
    refine x_getR (q := 16) dX12_status_13 rfl kl_RX12_17 rfl (k243 g5 (by decide) hn) g6 ?_
    refine x_iload_n (q := 17) dX12_status_16 rfl rfl ?_
    replace H := kif H; obtain ⟨g7, H⟩ := H
    replace H := kifn H; obtain ⟨g8, H⟩ := H
    refine x_iald (q := 18) dX12_status_17 rfl (k243 g7 (by decide) hn) g8 ?_
    refine x_goto dX12_status_18 (q := 22) (by decide) ?_
    cases H
    exact x_end ⟨dX12_status_22, rfl, rfl⟩
theorem s_X12_status {Z : Nat → (Nat → Nat) → State → Prop} (h : KH) (v0 : Nat) (v1 : Int32) {t : Int32} (hn : h.1 = 243) (H : f_X12_status h v0 v1 = some t) : KM Z yX12_status cX12_status 2 (some .int) 2 [.ref v0, .int v1] h (some (.int t)) h :=
  kx_i (own := RX12) (ini := false) (by decide +kernel) (by decide +kernel) rfl (Nat.le_of_ble_eq_true rfl) (s0_X12_status h v0 v1 hn H)
theorem dJ2_length_9d52b_0 : decode cJ2_length_9d52b 0 = .ok (.aload_n 0, 1) := by decide +kernel
theorem dJ2_length_9d52b_1 : decode cJ2_length_9d52b 1 = .ok (.arraylength, 1) := by decide +kernel
theorem dJ2_length_9d52b_2 : decode cJ2_length_9d52b 2 = .ok (.iconst 1, 1) := by decide +kernel
theorem dJ2_length_9d52b_3 : decode cJ2_length_9d52b 3 = .ok (.ishr, 1) := by decide +kernel
theorem dJ2_length_9d52b_4 : decode cJ2_length_9d52b 4 = .ok (.ireturn, 1) := by decide +kernel
def f_J2_length_9d52b (h : KH) (v0 : Nat) : Option (Int32) :=
  if kkind v0 = 23 then some ((Int32.ofNat (klen v0)) >>> ((1 : Int32) &&& 31)) else none
set_option maxHeartbeats 4000000 in
set_option maxRecDepth 100000 in
theorem s0_J2_length_9d52b {Z : Nat → (Nat → Nat) → State → Prop} (h : KH) (v0 : Nat) {t : Int32} (hn : h.1 = 243) (H : f_J2_length_9d52b h v0 = some t) : KX Z RJ2 cJ2_length_9d52b 1 false 1 (KRi cJ2_length_9d52b t h) 0 [(0, .ref v0)] [] h := by
  unfold f_J2_length_9d52b at H
  refine x_aload_n (q := 1) dJ2_length_9d52b_0 rfl rfl ?_
  replace H := kif H; obtain ⟨g1, H⟩ := H
  refine x_alen (q := 2) dJ2_length_9d52b_1 rfl (by decide) (k243 g1 (by decide) hn) ?_
  refine x_iconst (q := 3) (v := (1 : Int32)) dJ2_length_9d52b_2 rfl (by decide) ?_
  refine x_ishr (q := 4) dJ2_length_9d52b_3 rfl ?_
  cases H
  exact x_end ⟨dJ2_length_9d52b_4, rfl, rfl⟩
theorem s_J2_length_9d52b {Z : Nat → (Nat → Nat) → State → Prop} (h : KH) (v0 : Nat) {t : Int32} (hn : h.1 = 243) (H : f_J2_length_9d52b h v0 = some t) : KM Z yJ2_length_9d52b cJ2_length_9d52b 1 (some .int) 1 [.ref v0] h (some (.int t)) h :=
  kx_i (own := RJ2) (ini := false) (by decide +kernel) (by decide +kernel) rfl (Nat.le_of_ble_eq_true rfl) (s0_J2_length_9d52b h v0 hn H)
