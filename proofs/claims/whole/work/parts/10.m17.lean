-- methods as functions, and that the machine does as they say (by wip/whole/gen_all.py): X4_readTest, X4_readBoth, X4_readFact, X4_readSum, X4_readProduct, X4_readPart, X4_readPair
theorem dX4_readTest_0 : decode cX4_readTest 0 = .ok (.aload_n 0, 1) := by decide +kernel
theorem dX4_readTest_1 : decode cX4_readTest 1 = .ok (.iload_n 1, 1) := by decide +kernel
theorem dX4_readTest_2 : decode cX4_readTest 2 = .ok (.invokevirtual 63, 3) := by decide +kernel
theorem dX4_readTest_5 : decode cX4_readTest 5 = .ok (.iconst 0, 1) := by decide +kernel
theorem dX4_readTest_6 : decode cX4_readTest 6 = .ok (.istore_n 2, 1) := by decide +kernel
theorem dX4_readTest_7 : decode cX4_readTest 7 = .ok (.iload_n 2, 1) := by decide +kernel
theorem dX4_readTest_8 : decode cX4_readTest 8 = .ok (.sipush 1600, 3) := by decide +kernel
theorem dX4_readTest_11 : decode cX4_readTest 11 = .ok (.if_icmp .ge 42, 3) := by decide +kernel
theorem dX4_readTest_14 : decode cX4_readTest 14 = .ok (.aload_n 0, 1) := by decide +kernel
theorem dX4_readTest_15 : decode cX4_readTest 15 = .ok (.getfield 15, 3) := by decide +kernel
theorem dX4_readTest_18 : decode cX4_readTest 18 = .ok (.bipush 16, 2) := by decide +kernel
theorem dX4_readTest_20 : decode cX4_readTest 20 = .ok (.invokevirtual 66, 3) := by decide +kernel
theorem dX4_readTest_23 : decode cX4_readTest 23 = .ok (.ifCond .eq 30, 3) := by decide +kernel
theorem dX4_readTest_26 : decode cX4_readTest 26 = .ok (.aload_n 0, 1) := by decide +kernel
theorem dX4_readTest_27 : decode cX4_readTest 27 = .ok (.getfield 15, 3) := by decide +kernel
theorem dX4_readTest_30 : decode cX4_readTest 30 = .ok (.invokevirtual 42, 3) := by decide +kernel
theorem dX4_readTest_33 : decode cX4_readTest 33 = .ok (.aload_n 0, 1) := by decide +kernel
theorem dX4_readTest_34 : decode cX4_readTest 34 = .ok (.iload_n 1, 1) := by decide +kernel
theorem dX4_readTest_35 : decode cX4_readTest 35 = .ok (.invokevirtual 63, 3) := by decide +kernel
theorem dX4_readTest_38 : decode cX4_readTest 38 = .ok (.aload_n 0, 1) := by decide +kernel
theorem dX4_readTest_39 : decode cX4_readTest 39 = .ok (.getfield 19, 3) := by decide +kernel
theorem dX4_readTest_42 : decode cX4_readTest 42 = .ok (.bipush 16, 2) := by decide +kernel
theorem dX4_readTest_44 : decode cX4_readTest 44 = .ok (.invokevirtual 70, 3) := by decide +kernel
theorem dX4_readTest_47 : decode cX4_readTest 47 = .ok (.iinc 2 1, 3) := by decide +kernel
theorem dX4_readTest_50 : decode cX4_readTest 50 = .ok (.goto (-43), 3) := by decide +kernel
theorem dX4_readTest_53 : decode cX4_readTest 53 = .ok (.return_, 1) := by decide +kernel
theorem kc_RX4_63 : Cond.methodLink RX4 63 yX4_readBoth ∈ ktG ∧ (Cond.instanceMethod yX4_readBoth ∈ ktG ∧ Cond.selects yX4_readBoth.cls yX4_readBoth yX4_readBoth ∈ ktG) ∧ Cond.initialized yX4_readBoth.cls ∈ ktG ∧ Cond.code yX4_readBoth cX4_readBoth 3 none ∈ ktG := ⟨(kwm 713 (by decide +kernel) (by decide +kernel)), ⟨(kwm 715 (by decide +kernel) (by decide +kernel)), (kwm 10 (by decide +kernel) (by decide +kernel))⟩, (kwm 132 (by decide +kernel) (by decide +kernel)), kwm 716 (by decide +kernel) (by decide +kernel)⟩
theorem kh_X4_readBoth : yX4_readBoth.cls ≠ "java/lang/invoke/MethodHandle" ∧ yX4_readBoth.cls ≠ "java/lang/invoke/VarHandle" ∧ (parseMethodDescriptor yX4_readBoth.desc).map (fun d => d.parameters.length) = some 1 := by decide +kernel
theorem kc_RX4_66 : Cond.methodLink RX4 66 yX7_isAt ∈ ktG ∧ (Cond.instanceMethod yX7_isAt ∈ ktG ∧ Cond.selects yX7_isAt.cls yX7_isAt yX7_isAt ∈ ktG) ∧ Cond.initialized yX7_isAt.cls ∈ ktG ∧ Cond.code yX7_isAt cX7_isAt 2 (some .boolean) ∈ ktG := ⟨(kwm 721 (by decide +kernel) (by decide +kernel)), ⟨(kwm 690 (by decide +kernel) (by decide +kernel)), (kwm 691 (by decide +kernel) (by decide +kernel))⟩, (kwm 127 (by decide +kernel) (by decide +kernel)), kwm 692 (by decide +kernel) (by decide +kernel)⟩
theorem kc_RX4_70 : Cond.methodLink RX4 70 yX1_addWord ∈ ktG ∧ (Cond.instanceMethod yX1_addWord ∈ ktG ∧ Cond.selects yX1_addWord.cls yX1_addWord yX1_addWord ∈ ktG) ∧ Cond.initialized yX1_addWord.cls ∈ ktG ∧ Cond.code yX1_addWord cX1_addWord 2 none ∈ ktG := ⟨(kwm 728 (by decide +kernel) (by decide +kernel)), ⟨(kwm 729 (by decide +kernel) (by decide +kernel)), (kwm 730 (by decide +kernel) (by decide +kernel))⟩, (kwm 126 (by decide +kernel) (by decide +kernel)), kwm 731 (by decide +kernel) (by decide +kernel)⟩
theorem kh_X1_addWord : yX1_addWord.cls ≠ "java/lang/invoke/MethodHandle" ∧ yX1_addWord.cls ≠ "java/lang/invoke/VarHandle" ∧ (parseMethodDescriptor yX1_addWord.desc).map (fun d => d.parameters.length) = some 1 := by decide +kernel
/-! the recursion of the grammar: one function by fuel and a number for the method -/
abbrev KRec : Type := Nat → KH → Nat → Int32 → Int32 → Option KH
def KRecM (Z : Nat → (Nat → Nat) → State → Prop) (tag d : Nat) (h : KH) (v0 : Nat) (v1 v2 : Int32) (t : KH) : Prop := match tag with
  | 0 => KM Z yX4_readTest cX4_readTest 3 none d [.ref v0, .int v1] h none t
  | 1 => KM Z yX4_readBoth cX4_readBoth 3 none d [.ref v0, .int v1] h none t
  | 2 => KM Z yX4_readFact cX4_readFact 3 none d [.ref v0, .int v1] h none t
  | 3 => KM Z yX4_readSum cX4_readSum 4 none d [.ref v0, .int v1] h none t
  | 4 => KM Z yX4_readProduct cX4_readProduct 4 none d [.ref v0, .int v1] h none t
  | 5 => KM Z yX4_readPart cX4_readPart 3 none d [.ref v0, .int v1] h none t
  | _ => KM Z yX4_readPair cX4_readPair 3 none d [.ref v0, .int v1, .int v2] h none t
def KRecOK (Z : Nat → (Nat → Nat) → State → Prop) (R : KRec) (d : Nat) : Prop := ∀ (tag : Nat) (h : KH) (v0 : Nat) (v1 v2 : Int32) (t : KH), h.1 = 243 → R tag h v0 v1 v2 = some t → KRecM Z tag (d + 20) h v0 v1 v2 t
def E_X4_readTest_l7 (v0 : Nat) (v1 : Int32) : KH → Nat → List (Nat × Value) → List Value → KH → Prop := fun (e : KH) pc ls st hh => pc = 53 ∧ ls = [] ∧ st = [] ∧ e = hh
def B_X4_readTest_l7 (v0 : Nat) (v1 : Int32) : ((Int32 × KH) ⊕ (KH)) → Nat → List (Nat × Value) → List Value → KH → Prop := Sum.elim (fun (s : Int32 × KH) pc ls st hh => pc = 7 ∧ ls = [(0, .ref v0), (1, .int v1), (2, .int s.1)] ∧ st = [] ∧ hh = s.2) (E_X4_readTest_l7 v0 v1)
def f_X4_readTest_l7 (R : KRec) (v0 : Nat) (v1 : Int32) (s : Int32 × KH) : Option ((Int32 × KH) ⊕ (KH)) :=
  if (1600 : Int32) ≤ s.1 then
  some (.inr s.2)
  else
  if kkind v0 = 4 then if (kR s.2 v0 0) < 999999 then if kkind (kR s.2 v0 0) = 7 then kb (f_X7_isAt s.2 (kR s.2 v0 0) (16 : Int32)) fun r5 =>
  if r5 = 0 then
  some (.inr s.2)
  else
  kb (f_X7_next s.2 (kR s.2 v0 0)) fun r9 =>
  kb (R 1 r9 v0 v1 0) fun r13 =>
  if (kR r13 v0 1) < 999999 then if kkind (kR r13 v0 1) = 1 then kb (f_X1_addWord r13 (kR r13 v0 1) (16 : Int32)) fun r19 =>
  kl (s.1 + (1 : Int32)) fun x23 =>
  some (.inl (x23, r19)) else none else none else none else none else none
set_option maxHeartbeats 4000000 in
set_option maxRecDepth 100000 in
theorem s_X4_readTest_l7 {Z : Nat → (Nat → Nat) → State → Prop} (R : KRec) (d : Nat) (hR : KRecOK Z R d) (v0 : Nat) (v1 : Int32) (s : Int32 × KH) (t : (Int32 × KH) ⊕ (KH)) (hn : (s.2).1 = 243) (H : f_X4_readTest_l7 R v0 v1 s = some t) : KX Z RX4 cX4_readTest 3 false (d + 21) (B_X4_readTest_l7 v0 v1 t) 7 [(0, .ref v0), (1, .int v1), (2, .int s.1)] [] s.2 := by
  unfold f_X4_readTest_l7 at H
  refine x_iload_n (q := 8) dX4_readTest_7 rfl rfl ?_
  refine x_sipush (q := 11) (v := (1600 : Int32)) dX4_readTest_8 rfl (by decide) ?_
  replace H := kite H; rcases H with ⟨g1, H⟩ | ⟨g1, H⟩
  · refine x_icmp_ge_t dX4_readTest_11 (q := 53) (by decide) g1 ?_
    cases H
    refine x_sub (ls2 := []) [] rfl ?_
    exact x_end (x_cfg rfl)
  · refine x_icmp_ge_f (q := 14) dX4_readTest_11 (t := 53) (by decide) rfl g1 ?_
    refine x_aload_n (q := 15) dX4_readTest_14 rfl rfl ?_
    replace H := kif H; obtain ⟨g2, H⟩ := H
    replace H := kif H; obtain ⟨g3, H⟩ := H
    refine x_getR (q := 18) dX4_readTest_15 rfl kl_RX4_15 rfl (k243 g2 (by decide) hn) g3 ?_
    refine x_bipush (q := 20) (v := (16 : Int32)) dX4_readTest_18 rfl (by decide) ?_
    replace H := kif H; obtain ⟨g4, H⟩ := H
    replace H := kbe H; obtain ⟨r5, c6, H⟩ := H
    have m7 := s_X7_isAt (Z := Z) s.2 (kR s.2 v0 0) (16 : Int32) hn c6
    refine x_callV (q := 23) (as := [.int (16 : Int32)]) (rest := []) dX4_readTest_20 rfl kc_RX4_66 kh_X7_isAt (by omega) (Nat.le_of_ble_eq_true rfl) m7 (ci := 7) (by exact ⟨rfl, by decide⟩) (k243 g4 (by decide) hn) ?_
    replace H := kite H; rcases H with ⟨g8, H⟩ | ⟨g8, H⟩
    · refine x_if_eq_t dX4_readTest_23 (q := 53) (by decide) g8 ?_
      cases H
      refine x_sub (ls2 := []) [] rfl ?_
      exact x_end (x_cfg rfl)
    · refine x_if_eq_f (q := 26) dX4_readTest_23 (t := 53) (by decide) rfl g8 ?_
      refine x_aload_n (q := 27) dX4_readTest_26 rfl rfl ?_
      refine x_getR (q := 30) dX4_readTest_27 rfl kl_RX4_15 rfl (k243 g2 (by decide) hn) g3 ?_
      replace H := kbe H; obtain ⟨r9, c10, H⟩ := H
      have m11 := s_X7_next (Z := Z) s.2 (kR s.2 v0 0) hn c10
      refine x_callV (q := 33) (as := []) (rest := []) dX4_readTest_30 rfl kc_RX4_42 kh_X7_next (by omega) (Nat.le_of_ble_eq_true rfl) m11 (ci := 7) (by exact ⟨rfl, by decide⟩) (k243 g4 (by decide) hn) ?_
      have n12 : (r9).1 = 243 := m11.1.full hn
      refine x_aload_n (q := 34) dX4_readTest_33 rfl rfl ?_
      refine x_iload_n (q := 35) dX4_readTest_34 rfl rfl ?_
      replace H := kbe H; obtain ⟨r13, c14, H⟩ := H
      have m15 : KM Z yX4_readBoth cX4_readBoth 3 none (d + 20) [.ref v0, .int v1] r9 none r13 := hR 1 r9 v0 v1 0 r13 n12 c14
      refine x_callV (q := 38) (as := [.int v1]) (rest := []) dX4_readTest_35 rfl kc_RX4_63 kh_X4_readBoth (by omega) (Nat.le_of_ble_eq_true rfl) m15 (ci := 4) (by exact ⟨rfl, by decide⟩) (k243 g2 (by decide) n12) ?_
      have n16 : (r13).1 = 243 := m15.1.full n12
      refine x_aload_n (q := 39) dX4_readTest_38 rfl rfl ?_
      replace H := kif H; obtain ⟨g17, H⟩ := H
      refine x_getR (q := 42) dX4_readTest_39 rfl kl_RX4_19 rfl (k243 g2 (by decide) n16) g17 ?_
      refine x_bipush (q := 44) (v := (16 : Int32)) dX4_readTest_42 rfl (by decide) ?_
      replace H := kif H; obtain ⟨g18, H⟩ := H
      replace H := kbe H; obtain ⟨r19, c20, H⟩ := H
      have m21 := s_X1_addWord (Z := Z) r13 (kR r13 v0 1) (16 : Int32) n16 c20
      refine x_callV (q := 47) (as := [.int (16 : Int32)]) (rest := []) dX4_readTest_44 rfl kc_RX4_70 kh_X1_addWord (by omega) (Nat.le_of_ble_eq_true rfl) m21 (ci := 1) (by exact ⟨rfl, by decide⟩) (k243 g18 (by decide) n16) ?_
      have n22 : (r19).1 = 243 := m21.1.full n16
      replace H := kle H; obtain ⟨x23, q24, H⟩ := H
      refine x_iinc (q := 50) (i := 2) (ls2 := [(2, .int x23), (0, .ref v0), (1, .int v1)]) dX4_readTest_47 rfl rfl (by decide) (by rw [q24]; rfl) ?_
      refine x_goto dX4_readTest_50 (q := 7) (by decide) ?_
      cases H
      refine x_sub (ls2 := [(0, .ref v0), (1, .int v1), (2, .int x23)]) [1, 2, 0] rfl ?_
      exact x_end (x_cfg rfl)
theorem sl_X4_readTest_l7 {Z : Nat → (Nat → Nat) → State → Prop} (R : KRec) (d : Nat) (hR : KRecOK Z R d) (v0 : Nat) (v1 : Int32) (n : Nat) (s : Int32 × KH) (r : KH) (hn : (s.2).1 = 243) (H : kloop (f_X4_readTest_l7 R v0 v1) n s = some r) : KX Z RX4 cX4_readTest 3 false (d + 21) (E_X4_readTest_l7 v0 v1 r) 7 [(0, .ref v0), (1, .int v1), (2, .int s.1)] [] s.2 :=
  k_loop (ls := (fun (s : Int32 × KH) => ([(0, .ref v0), (1, .int v1), (2, .int s.1)] : List (Nat × Value)))) (hp := (fun (s : Int32 × KH) => (s.2 : KH))) (G := E_X4_readTest_l7 v0 v1) (fun s t hn H => s_X4_readTest_l7 R d hR v0 v1 s t hn H) n s r hn H
def fb_X4_readTest (R : KRec) (h : KH) (v0 : Nat) (v1 : Int32) : Option (KH) :=
  if kkind v0 = 4 then kb (R 1 h v0 v1 0) fun r2 =>
  kb (kloop (f_X4_readTest_l7 R v0 v1) KF ((0 : Int32), r2)) fun e6 =>
  some e6 else none
set_option maxHeartbeats 4000000 in
set_option maxRecDepth 100000 in
theorem sb0_X4_readTest {Z : Nat → (Nat → Nat) → State → Prop} (R : KRec) (d : Nat) (hR : KRecOK Z R d) (h : KH) (v0 : Nat) (v1 : Int32) {t : KH} (hn : h.1 = 243) (H : fb_X4_readTest R h v0 v1 = some t) : KX Z RX4 cX4_readTest 3 false (d + 21) (KRv cX4_readTest t) 0 [(0, .ref v0), (1, .int v1)] [] h := by
  unfold fb_X4_readTest at H
  refine x_aload_n (q := 1) dX4_readTest_0 rfl rfl ?_
  refine x_iload_n (q := 2) dX4_readTest_1 rfl rfl ?_
  replace H := kif H; obtain ⟨g1, H⟩ := H
  replace H := kbe H; obtain ⟨r2, c3, H⟩ := H
  have m4 : KM Z yX4_readBoth cX4_readBoth 3 none (d + 20) [.ref v0, .int v1] h none r2 := hR 1 h v0 v1 0 r2 hn c3
  refine x_callV (q := 5) (as := [.int v1]) (rest := []) dX4_readTest_2 rfl kc_RX4_63 kh_X4_readBoth (by omega) (Nat.le_of_ble_eq_true rfl) m4 (ci := 4) (by exact ⟨rfl, by decide⟩) (k243 g1 (by decide) hn) ?_
  have n5 : (r2).1 = 243 := m4.1.full hn
  refine x_iconst (q := 6) (v := (0 : Int32)) dX4_readTest_5 rfl (by decide) ?_
  refine x_istore_n (q := 7) (i := 2) (ls2 := [(2, .int (0 : Int32)), (0, .ref v0), (1, .int v1)]) dX4_readTest_6 rfl rfl (by decide) rfl ?_
  refine x_sub (ls2 := [(0, .ref v0), (1, .int v1), (2, .int (0 : Int32))]) [1, 2, 0] rfl ?_
  replace H := kbe H; obtain ⟨e6, c7, H⟩ := H
  refine x_app (sl_X4_readTest_l7 R d hR v0 v1 KF ((0 : Int32), r2) e6 n5 c7) fun pc2 ls2 st2 h2 hg m8 => ?_
  obtain ⟨rfl, rfl, rfl, rfl⟩ := hg
  cases H
  exact x_end ⟨dX4_readTest_53, rfl, rfl⟩
theorem sb_X4_readTest {Z : Nat → (Nat → Nat) → State → Prop} (R : KRec) (d : Nat) (hR : KRecOK Z R d) (h : KH) (v0 : Nat) (v1 : Int32) {t : KH} (hn : h.1 = 243) (H : fb_X4_readTest R h v0 v1 = some t) : KM Z yX4_readTest cX4_readTest 3 none (d + 21) [.ref v0, .int v1] h none t :=
  kx_v (own := RX4) (ini := false) (by decide +kernel) (by decide +kernel) rfl (Nat.le_of_ble_eq_true rfl) (sb0_X4_readTest R d hR h v0 v1 hn H)
theorem dX4_readBoth_0 : decode cX4_readBoth 0 = .ok (.aload_n 0, 1) := by decide +kernel
theorem dX4_readBoth_1 : decode cX4_readBoth 1 = .ok (.iload_n 1, 1) := by decide +kernel
theorem dX4_readBoth_2 : decode cX4_readBoth 2 = .ok (.invokevirtual 73, 3) := by decide +kernel
theorem dX4_readBoth_5 : decode cX4_readBoth 5 = .ok (.iconst 0, 1) := by decide +kernel
theorem dX4_readBoth_6 : decode cX4_readBoth 6 = .ok (.istore_n 2, 1) := by decide +kernel
theorem dX4_readBoth_7 : decode cX4_readBoth 7 = .ok (.iload_n 2, 1) := by decide +kernel
theorem dX4_readBoth_8 : decode cX4_readBoth 8 = .ok (.sipush 1600, 3) := by decide +kernel
theorem dX4_readBoth_11 : decode cX4_readBoth 11 = .ok (.if_icmp .ge 42, 3) := by decide +kernel
theorem dX4_readBoth_14 : decode cX4_readBoth 14 = .ok (.aload_n 0, 1) := by decide +kernel
theorem dX4_readBoth_15 : decode cX4_readBoth 15 = .ok (.getfield 15, 3) := by decide +kernel
theorem dX4_readBoth_18 : decode cX4_readBoth 18 = .ok (.bipush 17, 2) := by decide +kernel
theorem dX4_readBoth_20 : decode cX4_readBoth 20 = .ok (.invokevirtual 66, 3) := by decide +kernel
theorem dX4_readBoth_23 : decode cX4_readBoth 23 = .ok (.ifCond .eq 30, 3) := by decide +kernel
theorem dX4_readBoth_26 : decode cX4_readBoth 26 = .ok (.aload_n 0, 1) := by decide +kernel
theorem dX4_readBoth_27 : decode cX4_readBoth 27 = .ok (.getfield 15, 3) := by decide +kernel
theorem dX4_readBoth_30 : decode cX4_readBoth 30 = .ok (.invokevirtual 42, 3) := by decide +kernel
theorem dX4_readBoth_33 : decode cX4_readBoth 33 = .ok (.aload_n 0, 1) := by decide +kernel
theorem dX4_readBoth_34 : decode cX4_readBoth 34 = .ok (.iload_n 1, 1) := by decide +kernel
theorem dX4_readBoth_35 : decode cX4_readBoth 35 = .ok (.invokevirtual 73, 3) := by decide +kernel
theorem dX4_readBoth_38 : decode cX4_readBoth 38 = .ok (.aload_n 0, 1) := by decide +kernel
theorem dX4_readBoth_39 : decode cX4_readBoth 39 = .ok (.getfield 19, 3) := by decide +kernel
theorem dX4_readBoth_42 : decode cX4_readBoth 42 = .ok (.bipush 17, 2) := by decide +kernel
theorem dX4_readBoth_44 : decode cX4_readBoth 44 = .ok (.invokevirtual 70, 3) := by decide +kernel
theorem dX4_readBoth_47 : decode cX4_readBoth 47 = .ok (.iinc 2 1, 3) := by decide +kernel
theorem dX4_readBoth_50 : decode cX4_readBoth 50 = .ok (.goto (-43), 3) := by decide +kernel
theorem dX4_readBoth_53 : decode cX4_readBoth 53 = .ok (.return_, 1) := by decide +kernel
theorem kc_RX4_73 : Cond.methodLink RX4 73 yX4_readFact ∈ ktG ∧ (Cond.instanceMethod yX4_readFact ∈ ktG ∧ Cond.selects yX4_readFact.cls yX4_readFact yX4_readFact ∈ ktG) ∧ Cond.initialized yX4_readFact.cls ∈ ktG ∧ Cond.code yX4_readFact cX4_readFact 3 none ∈ ktG := ⟨(kwm 717 (by decide +kernel) (by decide +kernel)), ⟨(kwm 719 (by decide +kernel) (by decide +kernel)), (kwm 11 (by decide +kernel) (by decide +kernel))⟩, (kwm 132 (by decide +kernel) (by decide +kernel)), kwm 720 (by decide +kernel) (by decide +kernel)⟩
theorem kh_X4_readFact : yX4_readFact.cls ≠ "java/lang/invoke/MethodHandle" ∧ yX4_readFact.cls ≠ "java/lang/invoke/VarHandle" ∧ (parseMethodDescriptor yX4_readFact.desc).map (fun d => d.parameters.length) = some 1 := by decide +kernel
def E_X4_readBoth_l7 (v0 : Nat) (v1 : Int32) : KH → Nat → List (Nat × Value) → List Value → KH → Prop := fun (e : KH) pc ls st hh => pc = 53 ∧ ls = [] ∧ st = [] ∧ e = hh
def B_X4_readBoth_l7 (v0 : Nat) (v1 : Int32) : ((Int32 × KH) ⊕ (KH)) → Nat → List (Nat × Value) → List Value → KH → Prop := Sum.elim (fun (s : Int32 × KH) pc ls st hh => pc = 7 ∧ ls = [(0, .ref v0), (1, .int v1), (2, .int s.1)] ∧ st = [] ∧ hh = s.2) (E_X4_readBoth_l7 v0 v1)
def f_X4_readBoth_l7 (R : KRec) (v0 : Nat) (v1 : Int32) (s : Int32 × KH) : Option ((Int32 × KH) ⊕ (KH)) :=
  if (1600 : Int32) ≤ s.1 then
  some (.inr s.2)
  else
  if kkind v0 = 4 then if (kR s.2 v0 0) < 999999 then if kkind (kR s.2 v0 0) = 7 then kb (f_X7_isAt s.2 (kR s.2 v0 0) (17 : Int32)) fun r5 =>
  if r5 = 0 then
  some (.inr s.2)
  else
  kb (f_X7_next s.2 (kR s.2 v0 0)) fun r9 =>
  kb (R 2 r9 v0 v1 0) fun r13 =>
  if (kR r13 v0 1) < 999999 then if kkind (kR r13 v0 1) = 1 then kb (f_X1_addWord r13 (kR r13 v0 1) (17 : Int32)) fun r19 =>
  kl (s.1 + (1 : Int32)) fun x23 =>
  some (.inl (x23, r19)) else none else none else none else none else none
set_option maxHeartbeats 4000000 in
set_option maxRecDepth 100000 in
theorem s_X4_readBoth_l7 {Z : Nat → (Nat → Nat) → State → Prop} (R : KRec) (d : Nat) (hR : KRecOK Z R d) (v0 : Nat) (v1 : Int32) (s : Int32 × KH) (t : (Int32 × KH) ⊕ (KH)) (hn : (s.2).1 = 243) (H : f_X4_readBoth_l7 R v0 v1 s = some t) : KX Z RX4 cX4_readBoth 3 false (d + 21) (B_X4_readBoth_l7 v0 v1 t) 7 [(0, .ref v0), (1, .int v1), (2, .int s.1)] [] s.2 := by
  unfold f_X4_readBoth_l7 at H
  refine x_iload_n (q := 8) dX4_readBoth_7 rfl rfl ?_
  refine x_sipush (q := 11) (v := (1600 : Int32)) dX4_readBoth_8 rfl (by decide) ?_
  replace H := kite H; rcases H with ⟨g1, H⟩ | ⟨g1, H⟩
  · refine x_icmp_ge_t dX4_readBoth_11 (q := 53) (by decide) g1 ?_
    cases H
    refine x_sub (ls2 := []) [] rfl ?_
    exact x_end (x_cfg rfl)
  · refine x_icmp_ge_f (q := 14) dX4_readBoth_11 (t := 53) (by decide) rfl g1 ?_
    refine x_aload_n (q := 15) dX4_readBoth_14 rfl rfl ?_
    replace H := kif H; obtain ⟨g2, H⟩ := H
    replace H := kif H; obtain ⟨g3, H⟩ := H
    refine x_getR (q := 18) dX4_readBoth_15 rfl kl_RX4_15 rfl (k243 g2 (by decide) hn) g3 ?_
    refine x_bipush (q := 20) (v := (17 : Int32)) dX4_readBoth_18 rfl (by decide) ?_
    replace H := kif H; obtain ⟨g4, H⟩ := H
    replace H := kbe H; obtain ⟨r5, c6, H⟩ := H
    have m7 := s_X7_isAt (Z := Z) s.2 (kR s.2 v0 0) (17 : Int32) hn c6
    refine x_callV (q := 23) (as := [.int (17 : Int32)]) (rest := []) dX4_readBoth_20 rfl kc_RX4_66 kh_X7_isAt (by omega) (Nat.le_of_ble_eq_true rfl) m7 (ci := 7) (by exact ⟨rfl, by decide⟩) (k243 g4 (by decide) hn) ?_
    replace H := kite H; rcases H with ⟨g8, H⟩ | ⟨g8, H⟩
    · refine x_if_eq_t dX4_readBoth_23 (q := 53) (by decide) g8 ?_
      cases H
      refine x_sub (ls2 := []) [] rfl ?_
      exact x_end (x_cfg rfl)
    · refine x_if_eq_f (q := 26) dX4_readBoth_23 (t := 53) (by decide) rfl g8 ?_
      refine x_aload_n (q := 27) dX4_readBoth_26 rfl rfl ?_
      refine x_getR (q := 30) dX4_readBoth_27 rfl kl_RX4_15 rfl (k243 g2 (by decide) hn) g3 ?_
      replace H := kbe H; obtain ⟨r9, c10, H⟩ := H
      have m11 := s_X7_next (Z := Z) s.2 (kR s.2 v0 0) hn c10
      refine x_callV (q := 33) (as := []) (rest := []) dX4_readBoth_30 rfl kc_RX4_42 kh_X7_next (by omega) (Nat.le_of_ble_eq_true rfl) m11 (ci := 7) (by exact ⟨rfl, by decide⟩) (k243 g4 (by decide) hn) ?_
      have n12 : (r9).1 = 243 := m11.1.full hn
      refine x_aload_n (q := 34) dX4_readBoth_33 rfl rfl ?_
      refine x_iload_n (q := 35) dX4_readBoth_34 rfl rfl ?_
      replace H := kbe H; obtain ⟨r13, c14, H⟩ := H
      have m15 : KM Z yX4_readFact cX4_readFact 3 none (d + 20) [.ref v0, .int v1] r9 none r13 := hR 2 r9 v0 v1 0 r13 n12 c14
      refine x_callV (q := 38) (as := [.int v1]) (rest := []) dX4_readBoth_35 rfl kc_RX4_73 kh_X4_readFact (by omega) (Nat.le_of_ble_eq_true rfl) m15 (ci := 4) (by exact ⟨rfl, by decide⟩) (k243 g2 (by decide) n12) ?_
      have n16 : (r13).1 = 243 := m15.1.full n12
      refine x_aload_n (q := 39) dX4_readBoth_38 rfl rfl ?_
      replace H := kif H; obtain ⟨g17, H⟩ := H
      refine x_getR (q := 42) dX4_readBoth_39 rfl kl_RX4_19 rfl (k243 g2 (by decide) n16) g17 ?_
      refine x_bipush (q := 44) (v := (17 : Int32)) dX4_readBoth_42 rfl (by decide) ?_
      replace H := kif H; obtain ⟨g18, H⟩ := H
      replace H := kbe H; obtain ⟨r19, c20, H⟩ := H
      have m21 := s_X1_addWord (Z := Z) r13 (kR r13 v0 1) (17 : Int32) n16 c20
      refine x_callV (q := 47) (as := [.int (17 : Int32)]) (rest := []) dX4_readBoth_44 rfl kc_RX4_70 kh_X1_addWord (by omega) (Nat.le_of_ble_eq_true rfl) m21 (ci := 1) (by exact ⟨rfl, by decide⟩) (k243 g18 (by decide) n16) ?_
      have n22 : (r19).1 = 243 := m21.1.full n16
      replace H := kle H; obtain ⟨x23, q24, H⟩ := H
      refine x_iinc (q := 50) (i := 2) (ls2 := [(2, .int x23), (0, .ref v0), (1, .int v1)]) dX4_readBoth_47 rfl rfl (by decide) (by rw [q24]; rfl) ?_
      refine x_goto dX4_readBoth_50 (q := 7) (by decide) ?_
      cases H
      refine x_sub (ls2 := [(0, .ref v0), (1, .int v1), (2, .int x23)]) [1, 2, 0] rfl ?_
      exact x_end (x_cfg rfl)
theorem sl_X4_readBoth_l7 {Z : Nat → (Nat → Nat) → State → Prop} (R : KRec) (d : Nat) (hR : KRecOK Z R d) (v0 : Nat) (v1 : Int32) (n : Nat) (s : Int32 × KH) (r : KH) (hn : (s.2).1 = 243) (H : kloop (f_X4_readBoth_l7 R v0 v1) n s = some r) : KX Z RX4 cX4_readBoth 3 false (d + 21) (E_X4_readBoth_l7 v0 v1 r) 7 [(0, .ref v0), (1, .int v1), (2, .int s.1)] [] s.2 :=
  k_loop (ls := (fun (s : Int32 × KH) => ([(0, .ref v0), (1, .int v1), (2, .int s.1)] : List (Nat × Value)))) (hp := (fun (s : Int32 × KH) => (s.2 : KH))) (G := E_X4_readBoth_l7 v0 v1) (fun s t hn H => s_X4_readBoth_l7 R d hR v0 v1 s t hn H) n s r hn H
def fb_X4_readBoth (R : KRec) (h : KH) (v0 : Nat) (v1 : Int32) : Option (KH) :=
  if kkind v0 = 4 then kb (R 2 h v0 v1 0) fun r2 =>
  kb (kloop (f_X4_readBoth_l7 R v0 v1) KF ((0 : Int32), r2)) fun e6 =>
  some e6 else none
set_option maxHeartbeats 4000000 in
set_option maxRecDepth 100000 in
theorem sb0_X4_readBoth {Z : Nat → (Nat → Nat) → State → Prop} (R : KRec) (d : Nat) (hR : KRecOK Z R d) (h : KH) (v0 : Nat) (v1 : Int32) {t : KH} (hn : h.1 = 243) (H : fb_X4_readBoth R h v0 v1 = some t) : KX Z RX4 cX4_readBoth 3 false (d + 21) (KRv cX4_readBoth t) 0 [(0, .ref v0), (1, .int v1)] [] h := by
  unfold fb_X4_readBoth at H
  refine x_aload_n (q := 1) dX4_readBoth_0 rfl rfl ?_
  refine x_iload_n (q := 2) dX4_readBoth_1 rfl rfl ?_
  replace H := kif H; obtain ⟨g1, H⟩ := H
  replace H := kbe H; obtain ⟨r2, c3, H⟩ := H
  have m4 : KM Z yX4_readFact cX4_readFact 3 none (d + 20) [.ref v0, .int v1] h none r2 := hR 2 h v0 v1 0 r2 hn c3
  refine x_callV (q := 5) (as := [.int v1]) (rest := []) dX4_readBoth_2 rfl kc_RX4_73 kh_X4_readFact (by omega) (Nat.le_of_ble_eq_true rfl) m4 (ci := 4) (by exact ⟨rfl, by decide⟩) (k243 g1 (by decide) hn) ?_
  have n5 : (r2).1 = 243 := m4.1.full hn
  refine x_iconst (q := 6) (v := (0 : Int32)) dX4_readBoth_5 rfl (by decide) ?_
  refine x_istore_n (q := 7) (i := 2) (ls2 := [(2, .int (0 : Int32)), (0, .ref v0), (1, .int v1)]) dX4_readBoth_6 rfl rfl (by decide) rfl ?_
  refine x_sub (ls2 := [(0, .ref v0), (1, .int v1), (2, .int (0 : Int32))]) [1, 2, 0] rfl ?_
  replace H := kbe H; obtain ⟨e6, c7, H⟩ := H
  refine x_app (sl_X4_readBoth_l7 R d hR v0 v1 KF ((0 : Int32), r2) e6 n5 c7) fun pc2 ls2 st2 h2 hg m8 => ?_
  obtain ⟨rfl, rfl, rfl, rfl⟩ := hg
  cases H
  exact x_end ⟨dX4_readBoth_53, rfl, rfl⟩
theorem sb_X4_readBoth {Z : Nat → (Nat → Nat) → State → Prop} (R : KRec) (d : Nat) (hR : KRecOK Z R d) (h : KH) (v0 : Nat) (v1 : Int32) {t : KH} (hn : h.1 = 243) (H : fb_X4_readBoth R h v0 v1 = some t) : KM Z yX4_readBoth cX4_readBoth 3 none (d + 21) [.ref v0, .int v1] h none t :=
  kx_v (own := RX4) (ini := false) (by decide +kernel) (by decide +kernel) rfl (Nat.le_of_ble_eq_true rfl) (sb0_X4_readBoth R d hR h v0 v1 hn H)
theorem dX4_readFact_0 : decode cX4_readFact 0 = .ok (.aload_n 0, 1) := by decide +kernel
theorem dX4_readFact_1 : decode cX4_readFact 1 = .ok (.getfield 15, 3) := by decide +kernel
theorem dX4_readFact_4 : decode cX4_readFact 4 = .ok (.bipush 18, 2) := by decide +kernel
theorem dX4_readFact_6 : decode cX4_readFact 6 = .ok (.invokevirtual 66, 3) := by decide +kernel
theorem dX4_readFact_9 : decode cX4_readFact 9 = .ok (.ifCond .eq 30, 3) := by decide +kernel
theorem dX4_readFact_12 : decode cX4_readFact 12 = .ok (.aload_n 0, 1) := by decide +kernel
theorem dX4_readFact_13 : decode cX4_readFact 13 = .ok (.iload_n 1, 1) := by decide +kernel
theorem dX4_readFact_14 : decode cX4_readFact 14 = .ok (.invokevirtual 76, 3) := by decide +kernel
theorem dX4_readFact_17 : decode cX4_readFact 17 = .ok (.ifCond .eq 178, 3) := by decide +kernel
theorem dX4_readFact_20 : decode cX4_readFact 20 = .ok (.aload_n 0, 1) := by decide +kernel
theorem dX4_readFact_21 : decode cX4_readFact 21 = .ok (.iload_n 1, 1) := by decide +kernel
theorem dX4_readFact_22 : decode cX4_readFact 22 = .ok (.iconst 1, 1) := by decide +kernel
theorem dX4_readFact_23 : decode cX4_readFact 23 = .ok (.iadd, 1) := by decide +kernel
theorem dX4_readFact_24 : decode cX4_readFact 24 = .ok (.invokevirtual 73, 3) := by decide +kernel
theorem dX4_readFact_27 : decode cX4_readFact 27 = .ok (.aload_n 0, 1) := by decide +kernel
theorem dX4_readFact_28 : decode cX4_readFact 28 = .ok (.getfield 19, 3) := by decide +kernel
theorem dX4_readFact_31 : decode cX4_readFact 31 = .ok (.bipush 18, 2) := by decide +kernel
theorem dX4_readFact_33 : decode cX4_readFact 33 = .ok (.invokevirtual 70, 3) := by decide +kernel
theorem dX4_readFact_36 : decode cX4_readFact 36 = .ok (.goto 159, 3) := by decide +kernel
theorem dX4_readFact_39 : decode cX4_readFact 39 = .ok (.aload_n 0, 1) := by decide +kernel
theorem dX4_readFact_40 : decode cX4_readFact 40 = .ok (.getfield 15, 3) := by decide +kernel
theorem dX4_readFact_43 : decode cX4_readFact 43 = .ok (.bipush 91, 2) := by decide +kernel
theorem dX4_readFact_45 : decode cX4_readFact 45 = .ok (.invokevirtual 79, 3) := by decide +kernel
theorem dX4_readFact_48 : decode cX4_readFact 48 = .ok (.ifCond .eq 30, 3) := by decide +kernel
theorem dX4_readFact_51 : decode cX4_readFact 51 = .ok (.aload_n 0, 1) := by decide +kernel
theorem dX4_readFact_52 : decode cX4_readFact 52 = .ok (.iload_n 1, 1) := by decide +kernel
theorem dX4_readFact_53 : decode cX4_readFact 53 = .ok (.invokevirtual 76, 3) := by decide +kernel
theorem dX4_readFact_56 : decode cX4_readFact 56 = .ok (.ifCond .eq 139, 3) := by decide +kernel
theorem dX4_readFact_59 : decode cX4_readFact 59 = .ok (.aload_n 0, 1) := by decide +kernel
theorem dX4_readFact_60 : decode cX4_readFact 60 = .ok (.iload_n 1, 1) := by decide +kernel
theorem dX4_readFact_61 : decode cX4_readFact 61 = .ok (.iconst 1, 1) := by decide +kernel
theorem dX4_readFact_62 : decode cX4_readFact 62 = .ok (.iadd, 1) := by decide +kernel
theorem dX4_readFact_63 : decode cX4_readFact 63 = .ok (.invokevirtual 45, 3) := by decide +kernel
theorem dX4_readFact_66 : decode cX4_readFact 66 = .ok (.aload_n 0, 1) := by decide +kernel
theorem dX4_readFact_67 : decode cX4_readFact 67 = .ok (.getfield 15, 3) := by decide +kernel
theorem dX4_readFact_70 : decode cX4_readFact 70 = .ok (.bipush 93, 2) := by decide +kernel
theorem dX4_readFact_72 : decode cX4_readFact 72 = .ok (.invokevirtual 82, 3) := by decide +kernel
theorem dX4_readFact_75 : decode cX4_readFact 75 = .ok (.goto 120, 3) := by decide +kernel
theorem dX4_readFact_78 : decode cX4_readFact 78 = .ok (.aload_n 0, 1) := by decide +kernel
theorem dX4_readFact_79 : decode cX4_readFact 79 = .ok (.getfield 15, 3) := by decide +kernel
theorem dX4_readFact_82 : decode cX4_readFact 82 = .ok (.bipush 19, 2) := by decide +kernel
theorem dX4_readFact_84 : decode cX4_readFact 84 = .ok (.invokevirtual 66, 3) := by decide +kernel
theorem dX4_readFact_87 : decode cX4_readFact 87 = .ok (.ifCond .eq 21, 3) := by decide +kernel
theorem dX4_readFact_90 : decode cX4_readFact 90 = .ok (.aload_n 0, 1) := by decide +kernel
theorem dX4_readFact_91 : decode cX4_readFact 91 = .ok (.getfield 15, 3) := by decide +kernel
theorem dX4_readFact_94 : decode cX4_readFact 94 = .ok (.invokevirtual 42, 3) := by decide +kernel
theorem dX4_readFact_97 : decode cX4_readFact 97 = .ok (.aload_n 0, 1) := by decide +kernel
theorem dX4_readFact_98 : decode cX4_readFact 98 = .ok (.getfield 19, 3) := by decide +kernel
theorem dX4_readFact_101 : decode cX4_readFact 101 = .ok (.iconst 1, 1) := by decide +kernel
theorem dX4_readFact_102 : decode cX4_readFact 102 = .ok (.invokevirtual 85, 3) := by decide +kernel
theorem dX4_readFact_105 : decode cX4_readFact 105 = .ok (.goto 90, 3) := by decide +kernel
theorem dX4_readFact_108 : decode cX4_readFact 108 = .ok (.aload_n 0, 1) := by decide +kernel
theorem dX4_readFact_109 : decode cX4_readFact 109 = .ok (.iload_n 1, 1) := by decide +kernel
theorem dX4_readFact_110 : decode cX4_readFact 110 = .ok (.invokevirtual 49, 3) := by decide +kernel
theorem dX4_readFact_113 : decode cX4_readFact 113 = .ok (.aload_n 0, 1) := by decide +kernel
theorem dX4_readFact_114 : decode cX4_readFact 114 = .ok (.getfield 15, 3) := by decide +kernel
theorem dX4_readFact_117 : decode cX4_readFact 117 = .ok (.getfield 88, 3) := by decide +kernel
theorem dX4_readFact_120 : decode cX4_readFact 120 = .ok (.istore_n 2, 1) := by decide +kernel
theorem dX4_readFact_121 : decode cX4_readFact 121 = .ok (.aload_n 0, 1) := by decide +kernel
theorem dX4_readFact_122 : decode cX4_readFact 122 = .ok (.getfield 15, 3) := by decide +kernel
theorem dX4_readFact_125 : decode cX4_readFact 125 = .ok (.bipush 60, 2) := by decide +kernel
theorem dX4_readFact_127 : decode cX4_readFact 127 = .ok (.invokevirtual 79, 3) := by decide +kernel
theorem dX4_readFact_130 : decode cX4_readFact 130 = .ok (.ifCond .ne 27, 3) := by decide +kernel
theorem dX4_readFact_133 : decode cX4_readFact 133 = .ok (.aload_n 0, 1) := by decide +kernel
theorem dX4_readFact_134 : decode cX4_readFact 134 = .ok (.getfield 15, 3) := by decide +kernel
theorem dX4_readFact_137 : decode cX4_readFact 137 = .ok (.bipush 62, 2) := by decide +kernel
theorem dX4_readFact_139 : decode cX4_readFact 139 = .ok (.invokevirtual 79, 3) := by decide +kernel
theorem dX4_readFact_142 : decode cX4_readFact 142 = .ok (.ifCond .ne 15, 3) := by decide +kernel
theorem dX4_readFact_145 : decode cX4_readFact 145 = .ok (.aload_n 0, 1) := by decide +kernel
theorem dX4_readFact_146 : decode cX4_readFact 146 = .ok (.getfield 15, 3) := by decide +kernel
theorem dX4_readFact_149 : decode cX4_readFact 149 = .ok (.bipush 61, 2) := by decide +kernel
theorem dX4_readFact_151 : decode cX4_readFact 151 = .ok (.invokevirtual 79, 3) := by decide +kernel
theorem dX4_readFact_154 : decode cX4_readFact 154 = .ok (.ifCond .eq 26, 3) := by decide +kernel
theorem dX4_readFact_157 : decode cX4_readFact 157 = .ok (.aload_n 0, 1) := by decide +kernel
theorem dX4_readFact_158 : decode cX4_readFact 158 = .ok (.getfield 15, 3) := by decide +kernel
theorem dX4_readFact_161 : decode cX4_readFact 161 = .ok (.invokevirtual 42, 3) := by decide +kernel
theorem dX4_readFact_164 : decode cX4_readFact 164 = .ok (.aload_n 0, 1) := by decide +kernel
theorem dX4_readFact_165 : decode cX4_readFact 165 = .ok (.iload_n 1, 1) := by decide +kernel
theorem dX4_readFact_166 : decode cX4_readFact 166 = .ok (.invokevirtual 49, 3) := by decide +kernel
theorem dX4_readFact_169 : decode cX4_readFact 169 = .ok (.aload_n 0, 1) := by decide +kernel
theorem dX4_readFact_170 : decode cX4_readFact 170 = .ok (.getfield 19, 3) := by decide +kernel
theorem dX4_readFact_173 : decode cX4_readFact 173 = .ok (.iload_n 2, 1) := by decide +kernel
theorem dX4_readFact_174 : decode cX4_readFact 174 = .ok (.invokevirtual 91, 3) := by decide +kernel
theorem dX4_readFact_177 : decode cX4_readFact 177 = .ok (.goto 18, 3) := by decide +kernel
theorem dX4_readFact_180 : decode cX4_readFact 180 = .ok (.aload_n 0, 1) := by decide +kernel
theorem dX4_readFact_181 : decode cX4_readFact 181 = .ok (.getfield 15, 3) := by decide +kernel
theorem dX4_readFact_184 : decode cX4_readFact 184 = .ok (.iconst 1, 1) := by decide +kernel
theorem dX4_readFact_185 : decode cX4_readFact 185 = .ok (.aload_n 0, 1) := by decide +kernel
theorem dX4_readFact_186 : decode cX4_readFact 186 = .ok (.getfield 15, 3) := by decide +kernel
theorem dX4_readFact_189 : decode cX4_readFact 189 = .ok (.getfield 52, 3) := by decide +kernel
theorem dX4_readFact_192 : decode cX4_readFact 192 = .ok (.invokevirtual 55, 3) := by decide +kernel
theorem dX4_readFact_195 : decode cX4_readFact 195 = .ok (.return_, 1) := by decide +kernel
theorem kc_RX4_79 : Cond.methodLink RX4 79 yX7_isAtSign ∈ ktG ∧ (Cond.instanceMethod yX7_isAtSign ∈ ktG ∧ Cond.selects yX7_isAtSign.cls yX7_isAtSign yX7_isAtSign ∈ ktG) ∧ Cond.initialized yX7_isAtSign.cls ∈ ktG ∧ Cond.code yX7_isAtSign cX7_isAtSign 2 (some .boolean) ∈ ktG := ⟨(kwm 736 (by decide +kernel) (by decide +kernel)), ⟨(kwm 737 (by decide +kernel) (by decide +kernel)), (kwm 738 (by decide +kernel) (by decide +kernel))⟩, (kwm 127 (by decide +kernel) (by decide +kernel)), kwm 739 (by decide +kernel) (by decide +kernel)⟩
theorem kc_RX4_49 : Cond.methodLink RX4 49 yX4_readSum ∈ ktG ∧ (Cond.instanceMethod yX4_readSum ∈ ktG ∧ Cond.selects yX4_readSum.cls yX4_readSum yX4_readSum ∈ ktG) ∧ Cond.initialized yX4_readSum.cls ∈ ktG ∧ Cond.code yX4_readSum cX4_readSum 4 none ∈ ktG := ⟨(kwm 747 (by decide +kernel) (by decide +kernel)), ⟨(kwm 749 (by decide +kernel) (by decide +kernel)), (kwm 13 (by decide +kernel) (by decide +kernel))⟩, (kwm 132 (by decide +kernel) (by decide +kernel)), kwm 750 (by decide +kernel) (by decide +kernel)⟩
theorem kh_X4_readSum : yX4_readSum.cls ≠ "java/lang/invoke/MethodHandle" ∧ yX4_readSum.cls ≠ "java/lang/invoke/VarHandle" ∧ (parseMethodDescriptor yX4_readSum.desc).map (fun d => d.parameters.length) = some 1 := by decide +kernel
theorem kl_RX4_88 : KLk RX4 88 7 6 := ⟨RX7, TX7, 9, rfl, by decide, Or.inr (by decide +kernel)⟩
theorem kc_RX4_91 : Cond.methodLink RX4 91 yX1_addSign ∈ ktG ∧ (Cond.instanceMethod yX1_addSign ∈ ktG ∧ Cond.selects yX1_addSign.cls yX1_addSign yX1_addSign ∈ ktG) ∧ Cond.initialized yX1_addSign.cls ∈ ktG ∧ Cond.code yX1_addSign cX1_addSign 2 none ∈ ktG := ⟨(kwm 769 (by decide +kernel) (by decide +kernel)), ⟨(kwm 770 (by decide +kernel) (by decide +kernel)), (kwm 771 (by decide +kernel) (by decide +kernel))⟩, (kwm 126 (by decide +kernel) (by decide +kernel)), kwm 772 (by decide +kernel) (by decide +kernel)⟩
theorem kh_X1_addSign : yX1_addSign.cls ≠ "java/lang/invoke/MethodHandle" ∧ yX1_addSign.cls ≠ "java/lang/invoke/VarHandle" ∧ (parseMethodDescriptor yX1_addSign.desc).map (fun d => d.parameters.length) = some 1 := by decide +kernel
theorem kc_RX4_85 : Cond.methodLink RX4 85 yX1_addNumber ∈ ktG ∧ (Cond.instanceMethod yX1_addNumber ∈ ktG ∧ Cond.selects yX1_addNumber.cls yX1_addNumber yX1_addNumber ∈ ktG) ∧ Cond.initialized yX1_addNumber.cls ∈ ktG ∧ Cond.code yX1_addNumber cX1_addNumber 2 none ∈ ktG := ⟨(kwm 746 (by decide +kernel) (by decide +kernel)), ⟨(kwm 733 (by decide +kernel) (by decide +kernel)), (kwm 734 (by decide +kernel) (by decide +kernel))⟩, (kwm 126 (by decide +kernel) (by decide +kernel)), kwm 735 (by decide +kernel) (by decide +kernel)⟩
theorem kc_RX4_76 : Cond.methodLink RX4 76 yX4_opens ∈ ktG ∧ (Cond.instanceMethod yX4_opens ∈ ktG ∧ Cond.selects yX4_opens.cls yX4_opens yX4_opens ∈ ktG) ∧ Cond.initialized yX4_opens.cls ∈ ktG ∧ Cond.code yX4_opens cX4_opens 2 (some .boolean) ∈ ktG := ⟨(kwm 722 (by decide +kernel) (by decide +kernel)), ⟨(kwm 724 (by decide +kernel) (by decide +kernel)), (kwm 12 (by decide +kernel) (by decide +kernel))⟩, (kwm 132 (by decide +kernel) (by decide +kernel)), kwm 725 (by decide +kernel) (by decide +kernel)⟩
theorem kh_X4_opens : yX4_opens.cls ≠ "java/lang/invoke/MethodHandle" ∧ yX4_opens.cls ≠ "java/lang/invoke/VarHandle" ∧ (parseMethodDescriptor yX4_opens.desc).map (fun d => d.parameters.length) = some 1 := by decide +kernel
theorem kc_RX4_45 : Cond.methodLink RX4 45 yX4_readTest ∈ ktG ∧ (Cond.instanceMethod yX4_readTest ∈ ktG ∧ Cond.selects yX4_readTest.cls yX4_readTest yX4_readTest ∈ ktG) ∧ Cond.initialized yX4_readTest.cls ∈ ktG ∧ Cond.code yX4_readTest cX4_readTest 3 none ∈ ktG := ⟨(kwm 740 (by decide +kernel) (by decide +kernel)), ⟨(kwm 711 (by decide +kernel) (by decide +kernel)), (kwm 9 (by decide +kernel) (by decide +kernel))⟩, (kwm 132 (by decide +kernel) (by decide +kernel)), kwm 712 (by decide +kernel) (by decide +kernel)⟩
theorem kh_X4_readTest : yX4_readTest.cls ≠ "java/lang/invoke/MethodHandle" ∧ yX4_readTest.cls ≠ "java/lang/invoke/VarHandle" ∧ (parseMethodDescriptor yX4_readTest.desc).map (fun d => d.parameters.length) = some 1 := by decide +kernel
theorem kc_RX4_82 : Cond.methodLink RX4 82 yX7_takeSign ∈ ktG ∧ (Cond.instanceMethod yX7_takeSign ∈ ktG ∧ Cond.selects yX7_takeSign.cls yX7_takeSign yX7_takeSign ∈ ktG) ∧ Cond.initialized yX7_takeSign.cls ∈ ktG ∧ Cond.code yX7_takeSign cX7_takeSign 2 none ∈ ktG := ⟨(kwm 741 (by decide +kernel) (by decide +kernel)), ⟨(kwm 742 (by decide +kernel) (by decide +kernel)), (kwm 743 (by decide +kernel) (by decide +kernel))⟩, (kwm 127 (by decide +kernel) (by decide +kernel)), kwm 744 (by decide +kernel) (by decide +kernel)⟩
theorem kh_X7_takeSign : yX7_takeSign.cls ≠ "java/lang/invoke/MethodHandle" ∧ yX7_takeSign.cls ≠ "java/lang/invoke/VarHandle" ∧ (parseMethodDescriptor yX7_takeSign.desc).map (fun d => d.parameters.length) = some 1 := by decide +kernel
def f_X4_readFact_b157 (R : KRec) (h : KH) (v0 : Nat) (v1 : Int32) (v2 : Int32) : Option (KH) :=
  if kkind v0 = 4 then if (kR h v0 0) < 999999 then if kkind (kR h v0 0) = 7 then kb (f_X7_next h (kR h v0 0)) fun r4 =>
  kb (R 3 r4 v0 v1 0) fun r8 =>
  if (kR r8 v0 1) < 999999 then if kkind (kR r8 v0 1) = 1 then kb (f_X1_addSign r8 (kR r8 v0 1) v2) fun r14 =>
  some r14 else none else none else none else none else none
set_option maxHeartbeats 4000000 in
set_option maxRecDepth 100000 in
theorem s_X4_readFact_b157 {Z : Nat → (Nat → Nat) → State → Prop} (R : KRec) (d : Nat) (hR : KRecOK Z R d) (h : KH) (v0 : Nat) (v1 : Int32) (v2 : Int32) {t : KH} (hn : h.1 = 243) (H : f_X4_readFact_b157 R h v0 v1 v2 = some t) : KX Z RX4 cX4_readFact 3 false (d + 21) (KRv cX4_readFact t) 157 [(0, .ref v0), (1, .int v1), (2, .int v2)] [] h := by
  unfold f_X4_readFact_b157 at H
  refine x_aload_n (q := 158) dX4_readFact_157 rfl rfl ?_
  replace H := kif H; obtain ⟨g1, H⟩ := H
  replace H := kif H; obtain ⟨g2, H⟩ := H
  refine x_getR (q := 161) dX4_readFact_158 rfl kl_RX4_15 rfl (k243 g1 (by decide) hn) g2 ?_
  replace H := kif H; obtain ⟨g3, H⟩ := H
  replace H := kbe H; obtain ⟨r4, c5, H⟩ := H
  have m6 := s_X7_next (Z := Z) h (kR h v0 0) hn c5
  refine x_callV (q := 164) (as := []) (rest := []) dX4_readFact_161 rfl kc_RX4_42 kh_X7_next (by omega) (Nat.le_of_ble_eq_true rfl) m6 (ci := 7) (by exact ⟨rfl, by decide⟩) (k243 g3 (by decide) hn) ?_
  have n7 : (r4).1 = 243 := m6.1.full hn
  refine x_aload_n (q := 165) dX4_readFact_164 rfl rfl ?_
  refine x_iload_n (q := 166) dX4_readFact_165 rfl rfl ?_
  replace H := kbe H; obtain ⟨r8, c9, H⟩ := H
  have m10 : KM Z yX4_readSum cX4_readSum 4 none (d + 20) [.ref v0, .int v1] r4 none r8 := hR 3 r4 v0 v1 0 r8 n7 c9
  refine x_callV (q := 169) (as := [.int v1]) (rest := []) dX4_readFact_166 rfl kc_RX4_49 kh_X4_readSum (by omega) (Nat.le_of_ble_eq_true rfl) m10 (ci := 4) (by exact ⟨rfl, by decide⟩) (k243 g1 (by decide) n7) ?_
  have n11 : (r8).1 = 243 := m10.1.full n7
  refine x_aload_n (q := 170) dX4_readFact_169 rfl rfl ?_
  replace H := kif H; obtain ⟨g12, H⟩ := H
  refine x_getR (q := 173) dX4_readFact_170 rfl kl_RX4_19 rfl (k243 g1 (by decide) n11) g12 ?_
  refine x_iload_n (q := 174) dX4_readFact_173 rfl rfl ?_
  replace H := kif H; obtain ⟨g13, H⟩ := H
  replace H := kbe H; obtain ⟨r14, c15, H⟩ := H
  have m16 := s_X1_addSign (Z := Z) r8 (kR r8 v0 1) v2 n11 c15
  refine x_callV (q := 177) (as := [.int v2]) (rest := []) dX4_readFact_174 rfl kc_RX4_91 kh_X1_addSign (by omega) (Nat.le_of_ble_eq_true rfl) m16 (ci := 1) (by exact ⟨rfl, by decide⟩) (k243 g13 (by decide) n11) ?_
  have n17 : (r14).1 = 243 := m16.1.full n11
  refine x_goto dX4_readFact_177 (q := 195) (by decide) ?_
  cases H
  exact x_end ⟨dX4_readFact_195, rfl, rfl⟩
def fb_X4_readFact (R : KRec) (h : KH) (v0 : Nat) (v1 : Int32) : Option (KH) :=
  if kkind v0 = 4 then if (kR h v0 0) < 999999 then if kkind (kR h v0 0) = 7 then kb (f_X7_isAt h (kR h v0 0) (18 : Int32)) fun r4 =>
  if r4 = 0 then
  kb (f_X7_isAtSign h (kR h v0 0) (91 : Int32)) fun r8 =>
  if r8 = 0 then
  kb (f_X7_isAt h (kR h v0 0) (19 : Int32)) fun r12 =>
  if r12 = 0 then
  kb (R 3 h v0 v1 0) fun r16 =>
  if (kR r16 v0 0) < 999999 then if kkind (kR r16 v0 0) = 7 then kl (kI r16 (kR r16 v0 0) 6) fun x22 =>
  kb (f_X7_isAtSign r16 (kR r16 v0 0) (60 : Int32)) fun r24 =>
  if r24 = 0 then
  kb (f_X7_isAtSign r16 (kR r16 v0 0) (62 : Int32)) fun r28 =>
  if r28 = 0 then
  kb (f_X7_isAtSign r16 (kR r16 v0 0) (61 : Int32)) fun r32 =>
  if r32 = 0 then
  kb (f_X7_stop r16 (kR r16 v0 0) (1 : Int32) (kI r16 (kR r16 v0 0) 4)) fun r36 =>
  some r36
  else
  f_X4_readFact_b157 R r16 v0 v1 x22
  else
  f_X4_readFact_b157 R r16 v0 v1 x22
  else
  f_X4_readFact_b157 R r16 v0 v1 x22 else none else none
  else
  kb (f_X7_next h (kR h v0 0)) fun r40 =>
  if (kR r40 v0 1) < 999999 then if kkind (kR r40 v0 1) = 1 then kb (f_X1_addNumber r40 (kR r40 v0 1) (1 : Int32)) fun r46 =>
  some r46 else none else none
  else
  kb (f_X4_opens h v0 v1) fun r50 =>
  if r50.1 = 0 then
  some r50.2
  else
  kb (R 0 r50.2 v0 (v1 + (1 : Int32)) 0) fun r55 =>
  if (kR r55 v0 0) < 999999 then if kkind (kR r55 v0 0) = 7 then kb (f_X7_takeSign r55 (kR r55 v0 0) (93 : Int32)) fun r61 =>
  some r61 else none else none
  else
  kb (f_X4_opens h v0 v1) fun r65 =>
  if r65.1 = 0 then
  some r65.2
  else
  kb (R 2 r65.2 v0 (v1 + (1 : Int32)) 0) fun r70 =>
  if (kR r70 v0 1) < 999999 then if kkind (kR r70 v0 1) = 1 then kb (f_X1_addWord r70 (kR r70 v0 1) (18 : Int32)) fun r76 =>
  some r76 else none else none else none else none else none
set_option maxHeartbeats 4000000 in
set_option maxRecDepth 100000 in
theorem sb0_X4_readFact {Z : Nat → (Nat → Nat) → State → Prop} (R : KRec) (d : Nat) (hR : KRecOK Z R d) (h : KH) (v0 : Nat) (v1 : Int32) {t : KH} (hn : h.1 = 243) (H : fb_X4_readFact R h v0 v1 = some t) : KX Z RX4 cX4_readFact 3 false (d + 21) (KRv cX4_readFact t) 0 [(0, .ref v0), (1, .int v1)] [] h := by
  unfold fb_X4_readFact at H
  refine x_aload_n (q := 1) dX4_readFact_0 rfl rfl ?_
  replace H := kif H; obtain ⟨g1, H⟩ := H
  replace H := kif H; obtain ⟨g2, H⟩ := H
  refine x_getR (q := 4) dX4_readFact_1 rfl kl_RX4_15 rfl (k243 g1 (by decide) hn) g2 ?_
  refine x_bipush (q := 6) (v := (18 : Int32)) dX4_readFact_4 rfl (by decide) ?_
  replace H := kif H; obtain ⟨g3, H⟩ := H
  replace H := kbe H; obtain ⟨r4, c5, H⟩ := H
  have m6 := s_X7_isAt (Z := Z) h (kR h v0 0) (18 : Int32) hn c5
  refine x_callV (q := 9) (as := [.int (18 : Int32)]) (rest := []) dX4_readFact_6 rfl kc_RX4_66 kh_X7_isAt (by omega) (Nat.le_of_ble_eq_true rfl) m6 (ci := 7) (by exact ⟨rfl, by decide⟩) (k243 g3 (by decide) hn) ?_
  replace H := kite H; rcases H with ⟨g7, H⟩ | ⟨g7, H⟩
  · refine x_if_eq_t dX4_readFact_9 (q := 39) (by decide) g7 ?_
    refine x_aload_n (q := 40) dX4_readFact_39 rfl rfl ?_
    refine x_getR (q := 43) dX4_readFact_40 rfl kl_RX4_15 rfl (k243 g1 (by decide) hn) g2 ?_
    refine x_bipush (q := 45) (v := (91 : Int32)) dX4_readFact_43 rfl (by decide) ?_
    replace H := kbe H; obtain ⟨r8, c9, H⟩ := H
    have m10 := s_X7_isAtSign (Z := Z) h (kR h v0 0) (91 : Int32) hn c9
    refine x_callV (q := 48) (as := [.int (91 : Int32)]) (rest := []) dX4_readFact_45 rfl kc_RX4_79 kh_X7_isAtSign (by omega) (Nat.le_of_ble_eq_true rfl) m10 (ci := 7) (by exact ⟨rfl, by decide⟩) (k243 g3 (by decide) hn) ?_
    replace H := kite H; rcases H with ⟨g11, H⟩ | ⟨g11, H⟩
    · refine x_if_eq_t dX4_readFact_48 (q := 78) (by decide) g11 ?_
      refine x_aload_n (q := 79) dX4_readFact_78 rfl rfl ?_
      refine x_getR (q := 82) dX4_readFact_79 rfl kl_RX4_15 rfl (k243 g1 (by decide) hn) g2 ?_
      refine x_bipush (q := 84) (v := (19 : Int32)) dX4_readFact_82 rfl (by decide) ?_
      replace H := kbe H; obtain ⟨r12, c13, H⟩ := H
      have m14 := s_X7_isAt (Z := Z) h (kR h v0 0) (19 : Int32) hn c13
      refine x_callV (q := 87) (as := [.int (19 : Int32)]) (rest := []) dX4_readFact_84 rfl kc_RX4_66 kh_X7_isAt (by omega) (Nat.le_of_ble_eq_true rfl) m14 (ci := 7) (by exact ⟨rfl, by decide⟩) (k243 g3 (by decide) hn) ?_
      replace H := kite H; rcases H with ⟨g15, H⟩ | ⟨g15, H⟩
      · refine x_if_eq_t dX4_readFact_87 (q := 108) (by decide) g15 ?_
        refine x_aload_n (q := 109) dX4_readFact_108 rfl rfl ?_
        refine x_iload_n (q := 110) dX4_readFact_109 rfl rfl ?_
        replace H := kbe H; obtain ⟨r16, c17, H⟩ := H
        have m18 : KM Z yX4_readSum cX4_readSum 4 none (d + 20) [.ref v0, .int v1] h none r16 := hR 3 h v0 v1 0 r16 hn c17
        refine x_callV (q := 113) (as := [.int v1]) (rest := []) dX4_readFact_110 rfl kc_RX4_49 kh_X4_readSum (by omega) (Nat.le_of_ble_eq_true rfl) m18 (ci := 4) (by exact ⟨rfl, by decide⟩) (k243 g1 (by decide) hn) ?_
        have n19 : (r16).1 = 243 := m18.1.full hn
        refine x_aload_n (q := 114) dX4_readFact_113 rfl rfl ?_
        replace H := kif H; obtain ⟨g20, H⟩ := H
        refine x_getR (q := 117) dX4_readFact_114 rfl kl_RX4_15 rfl (k243 g1 (by decide) n19) g20 ?_
        replace H := kif H; obtain ⟨g21, H⟩ := H
        refine x_getI (q := 120) dX4_readFact_117 rfl kl_RX4_88 (Or.inl rfl) (k243 g21 (by decide) n19) ?_
        replace H := kle H; obtain ⟨x22, q23, H⟩ := H
        refine x_nmI q23 ?_
        refine x_istore_n (q := 121) (i := 2) (ls2 := [(2, .int x22), (0, .ref v0), (1, .int v1)]) dX4_readFact_120 rfl rfl (by decide) rfl ?_
        refine x_aload_n (q := 122) dX4_readFact_121 rfl rfl ?_
        refine x_getR (q := 125) dX4_readFact_122 rfl kl_RX4_15 rfl (k243 g1 (by decide) n19) g20 ?_
        refine x_bipush (q := 127) (v := (60 : Int32)) dX4_readFact_125 rfl (by decide) ?_
        replace H := kbe H; obtain ⟨r24, c25, H⟩ := H
        have m26 := s_X7_isAtSign (Z := Z) r16 (kR r16 v0 0) (60 : Int32) n19 c25
        refine x_callV (q := 130) (as := [.int (60 : Int32)]) (rest := []) dX4_readFact_127 rfl kc_RX4_79 kh_X7_isAtSign (by omega) (Nat.le_of_ble_eq_true rfl) m26 (ci := 7) (by exact ⟨rfl, by decide⟩) (k243 g21 (by decide) n19) ?_
        replace H := kite H; rcases H with ⟨g27, H⟩ | ⟨g27, H⟩
        · refine x_if_ne_f (q := 133) dX4_readFact_130 (t := 157) (by decide) rfl g27 ?_
          refine x_aload_n (q := 134) dX4_readFact_133 rfl rfl ?_
          refine x_getR (q := 137) dX4_readFact_134 rfl kl_RX4_15 rfl (k243 g1 (by decide) n19) g20 ?_
          refine x_bipush (q := 139) (v := (62 : Int32)) dX4_readFact_137 rfl (by decide) ?_
          replace H := kbe H; obtain ⟨r28, c29, H⟩ := H
          have m30 := s_X7_isAtSign (Z := Z) r16 (kR r16 v0 0) (62 : Int32) n19 c29
          refine x_callV (q := 142) (as := [.int (62 : Int32)]) (rest := []) dX4_readFact_139 rfl kc_RX4_79 kh_X7_isAtSign (by omega) (Nat.le_of_ble_eq_true rfl) m30 (ci := 7) (by exact ⟨rfl, by decide⟩) (k243 g21 (by decide) n19) ?_
          replace H := kite H; rcases H with ⟨g31, H⟩ | ⟨g31, H⟩
          · refine x_if_ne_f (q := 145) dX4_readFact_142 (t := 157) (by decide) rfl g31 ?_
            refine x_aload_n (q := 146) dX4_readFact_145 rfl rfl ?_
            refine x_getR (q := 149) dX4_readFact_146 rfl kl_RX4_15 rfl (k243 g1 (by decide) n19) g20 ?_
            refine x_bipush (q := 151) (v := (61 : Int32)) dX4_readFact_149 rfl (by decide) ?_
            replace H := kbe H; obtain ⟨r32, c33, H⟩ := H
            have m34 := s_X7_isAtSign (Z := Z) r16 (kR r16 v0 0) (61 : Int32) n19 c33
            refine x_callV (q := 154) (as := [.int (61 : Int32)]) (rest := []) dX4_readFact_151 rfl kc_RX4_79 kh_X7_isAtSign (by omega) (Nat.le_of_ble_eq_true rfl) m34 (ci := 7) (by exact ⟨rfl, by decide⟩) (k243 g21 (by decide) n19) ?_
            replace H := kite H; rcases H with ⟨g35, H⟩ | ⟨g35, H⟩
            · refine x_if_eq_t dX4_readFact_154 (q := 180) (by decide) g35 ?_
              refine x_aload_n (q := 181) dX4_readFact_180 rfl rfl ?_
              refine x_getR (q := 184) dX4_readFact_181 rfl kl_RX4_15 rfl (k243 g1 (by decide) n19) g20 ?_
              refine x_iconst (q := 185) (v := (1 : Int32)) dX4_readFact_184 rfl (by decide) ?_
              refine x_aload_n (q := 186) dX4_readFact_185 rfl rfl ?_
              refine x_getR (q := 189) dX4_readFact_186 rfl kl_RX4_15 rfl (k243 g1 (by decide) n19) g20 ?_
              refine x_getI (q := 192) dX4_readFact_189 rfl kl_RX4_52 (Or.inl rfl) (k243 g21 (by decide) n19) ?_
              replace H := kbe H; obtain ⟨r36, c37, H⟩ := H
              have m38 := s_X7_stop (Z := Z) r16 (kR r16 v0 0) (1 : Int32) (kI r16 (kR r16 v0 0) 4) n19 c37
              refine x_callV (q := 195) (as := [.int (1 : Int32), .int (kI r16 (kR r16 v0 0) 4)]) (rest := []) dX4_readFact_192 rfl kc_RX4_55 kh_X7_stop (by omega) (Nat.le_of_ble_eq_true rfl) m38 (ci := 7) (by exact ⟨rfl, by decide⟩) (k243 g21 (by decide) n19) ?_
              have n39 : (r36).1 = 243 := m38.1.full n19
              cases H
              exact x_end ⟨dX4_readFact_195, rfl, rfl⟩
            · refine x_if_eq_f (q := 157) dX4_readFact_154 (t := 180) (by decide) rfl g35 ?_
              refine x_sub (ls2 := [(0, .ref v0), (1, .int v1), (2, .int x22)]) [1, 2, 0] rfl ?_
              exact s_X4_readFact_b157 R d hR r16 v0 v1 x22 n19 H
          · refine x_if_ne_t dX4_readFact_142 (q := 157) (by decide) g31 ?_
            refine x_sub (ls2 := [(0, .ref v0), (1, .int v1), (2, .int x22)]) [1, 2, 0] rfl ?_
            exact s_X4_readFact_b157 R d hR r16 v0 v1 x22 n19 H
        · refine x_if_ne_t dX4_readFact_130 (q := 157) (by decide) g27 ?_
          refine x_sub (ls2 := [(0, .ref v0), (1, .int v1), (2, .int x22)]) [1, 2, 0] rfl ?_
          exact s_X4_readFact_b157 R d hR r16 v0 v1 x22 n19 H
      · refine x_if_eq_f (q := 90) dX4_readFact_87 (t := 108) (by decide) rfl g15 ?_
        refine x_aload_n (q := 91) dX4_readFact_90 rfl rfl ?_
        refine x_getR (q := 94) dX4_readFact_91 rfl kl_RX4_15 rfl (k243 g1 (by decide) hn) g2 ?_
        replace H := kbe H; obtain ⟨r40, c41, H⟩ := H
        have m42 := s_X7_next (Z := Z) h (kR h v0 0) hn c41
        refine x_callV (q := 97) (as := []) (rest := []) dX4_readFact_94 rfl kc_RX4_42 kh_X7_next (by omega) (Nat.le_of_ble_eq_true rfl) m42 (ci := 7) (by exact ⟨rfl, by decide⟩) (k243 g3 (by decide) hn) ?_
        have n43 : (r40).1 = 243 := m42.1.full hn
        refine x_aload_n (q := 98) dX4_readFact_97 rfl rfl ?_
        replace H := kif H; obtain ⟨g44, H⟩ := H
        refine x_getR (q := 101) dX4_readFact_98 rfl kl_RX4_19 rfl (k243 g1 (by decide) n43) g44 ?_
        refine x_iconst (q := 102) (v := (1 : Int32)) dX4_readFact_101 rfl (by decide) ?_
        replace H := kif H; obtain ⟨g45, H⟩ := H
        replace H := kbe H; obtain ⟨r46, c47, H⟩ := H
        have m48 := s_X1_addNumber (Z := Z) r40 (kR r40 v0 1) (1 : Int32) n43 c47
        refine x_callV (q := 105) (as := [.int (1 : Int32)]) (rest := []) dX4_readFact_102 rfl kc_RX4_85 kh_X1_addNumber (by omega) (Nat.le_of_ble_eq_true rfl) m48 (ci := 1) (by exact ⟨rfl, by decide⟩) (k243 g45 (by decide) n43) ?_
        have n49 : (r46).1 = 243 := m48.1.full n43
        refine x_goto dX4_readFact_105 (q := 195) (by decide) ?_
        cases H
        exact x_end ⟨dX4_readFact_195, rfl, rfl⟩
    · refine x_if_eq_f (q := 51) dX4_readFact_48 (t := 78) (by decide) rfl g11 ?_
      refine x_aload_n (q := 52) dX4_readFact_51 rfl rfl ?_
      refine x_iload_n (q := 53) dX4_readFact_52 rfl rfl ?_
      replace H := kbe H; obtain ⟨r50, c51, H⟩ := H
      have m52 := s_X4_opens (Z := Z) h v0 v1 hn c51
      refine x_callV (q := 56) (as := [.int v1]) (rest := []) dX4_readFact_53 rfl kc_RX4_76 kh_X4_opens (by omega) (Nat.le_of_ble_eq_true rfl) m52 (ci := 4) (by exact ⟨rfl, by decide⟩) (k243 g1 (by decide) hn) ?_
      have n53 : (r50.2).1 = 243 := m52.1.full hn
      replace H := kite H; rcases H with ⟨g54, H⟩ | ⟨g54, H⟩
      · refine x_if_eq_t dX4_readFact_56 (q := 195) (by decide) g54 ?_
        cases H
        exact x_end ⟨dX4_readFact_195, rfl, rfl⟩
      · refine x_if_eq_f (q := 59) dX4_readFact_56 (t := 195) (by decide) rfl g54 ?_
        refine x_aload_n (q := 60) dX4_readFact_59 rfl rfl ?_
        refine x_iload_n (q := 61) dX4_readFact_60 rfl rfl ?_
        refine x_iconst (q := 62) (v := (1 : Int32)) dX4_readFact_61 rfl (by decide) ?_
        refine x_iadd (q := 63) dX4_readFact_62 rfl ?_
        replace H := kbe H; obtain ⟨r55, c56, H⟩ := H
        have m57 : KM Z yX4_readTest cX4_readTest 3 none (d + 20) [.ref v0, .int (v1 + (1 : Int32))] r50.2 none r55 := hR 0 r50.2 v0 (v1 + (1 : Int32)) 0 r55 n53 c56
        refine x_callV (q := 66) (as := [.int (v1 + (1 : Int32))]) (rest := []) dX4_readFact_63 rfl kc_RX4_45 kh_X4_readTest (by omega) (Nat.le_of_ble_eq_true rfl) m57 (ci := 4) (by exact ⟨rfl, by decide⟩) (k243 g1 (by decide) n53) ?_
        have n58 : (r55).1 = 243 := m57.1.full n53
        refine x_aload_n (q := 67) dX4_readFact_66 rfl rfl ?_
        replace H := kif H; obtain ⟨g59, H⟩ := H
        refine x_getR (q := 70) dX4_readFact_67 rfl kl_RX4_15 rfl (k243 g1 (by decide) n58) g59 ?_
        refine x_bipush (q := 72) (v := (93 : Int32)) dX4_readFact_70 rfl (by decide) ?_
        replace H := kif H; obtain ⟨g60, H⟩ := H
        replace H := kbe H; obtain ⟨r61, c62, H⟩ := H
        have m63 := s_X7_takeSign (Z := Z) r55 (kR r55 v0 0) (93 : Int32) n58 c62
        refine x_callV (q := 75) (as := [.int (93 : Int32)]) (rest := []) dX4_readFact_72 rfl kc_RX4_82 kh_X7_takeSign (by omega) (Nat.le_of_ble_eq_true rfl) m63 (ci := 7) (by exact ⟨rfl, by decide⟩) (k243 g60 (by decide) n58) ?_
        have n64 : (r61).1 = 243 := m63.1.full n58
        refine x_goto dX4_readFact_75 (q := 195) (by decide) ?_
        cases H
        exact x_end ⟨dX4_readFact_195, rfl, rfl⟩
  · refine x_if_eq_f (q := 12) dX4_readFact_9 (t := 39) (by decide) rfl g7 ?_
    refine x_aload_n (q := 13) dX4_readFact_12 rfl rfl ?_
    refine x_iload_n (q := 14) dX4_readFact_13 rfl rfl ?_
    replace H := kbe H; obtain ⟨r65, c66, H⟩ := H
    have m67 := s_X4_opens (Z := Z) h v0 v1 hn c66
    refine x_callV (q := 17) (as := [.int v1]) (rest := []) dX4_readFact_14 rfl kc_RX4_76 kh_X4_opens (by omega) (Nat.le_of_ble_eq_true rfl) m67 (ci := 4) (by exact ⟨rfl, by decide⟩) (k243 g1 (by decide) hn) ?_
    have n68 : (r65.2).1 = 243 := m67.1.full hn
    replace H := kite H; rcases H with ⟨g69, H⟩ | ⟨g69, H⟩
    · refine x_if_eq_t dX4_readFact_17 (q := 195) (by decide) g69 ?_
      cases H
      exact x_end ⟨dX4_readFact_195, rfl, rfl⟩
    · refine x_if_eq_f (q := 20) dX4_readFact_17 (t := 195) (by decide) rfl g69 ?_
      refine x_aload_n (q := 21) dX4_readFact_20 rfl rfl ?_
      refine x_iload_n (q := 22) dX4_readFact_21 rfl rfl ?_
      refine x_iconst (q := 23) (v := (1 : Int32)) dX4_readFact_22 rfl (by decide) ?_
      refine x_iadd (q := 24) dX4_readFact_23 rfl ?_
      replace H := kbe H; obtain ⟨r70, c71, H⟩ := H
      have m72 : KM Z yX4_readFact cX4_readFact 3 none (d + 20) [.ref v0, .int (v1 + (1 : Int32))] r65.2 none r70 := hR 2 r65.2 v0 (v1 + (1 : Int32)) 0 r70 n68 c71
      refine x_callV (q := 27) (as := [.int (v1 + (1 : Int32))]) (rest := []) dX4_readFact_24 rfl kc_RX4_73 kh_X4_readFact (by omega) (Nat.le_of_ble_eq_true rfl) m72 (ci := 4) (by exact ⟨rfl, by decide⟩) (k243 g1 (by decide) n68) ?_
      have n73 : (r70).1 = 243 := m72.1.full n68
      refine x_aload_n (q := 28) dX4_readFact_27 rfl rfl ?_
      replace H := kif H; obtain ⟨g74, H⟩ := H
      refine x_getR (q := 31) dX4_readFact_28 rfl kl_RX4_19 rfl (k243 g1 (by decide) n73) g74 ?_
      refine x_bipush (q := 33) (v := (18 : Int32)) dX4_readFact_31 rfl (by decide) ?_
      replace H := kif H; obtain ⟨g75, H⟩ := H
      replace H := kbe H; obtain ⟨r76, c77, H⟩ := H
      have m78 := s_X1_addWord (Z := Z) r70 (kR r70 v0 1) (18 : Int32) n73 c77
      refine x_callV (q := 36) (as := [.int (18 : Int32)]) (rest := []) dX4_readFact_33 rfl kc_RX4_70 kh_X1_addWord (by omega) (Nat.le_of_ble_eq_true rfl) m78 (ci := 1) (by exact ⟨rfl, by decide⟩) (k243 g75 (by decide) n73) ?_
      have n79 : (r76).1 = 243 := m78.1.full n73
      refine x_goto dX4_readFact_36 (q := 195) (by decide) ?_
      cases H
      exact x_end ⟨dX4_readFact_195, rfl, rfl⟩
theorem sb_X4_readFact {Z : Nat → (Nat → Nat) → State → Prop} (R : KRec) (d : Nat) (hR : KRecOK Z R d) (h : KH) (v0 : Nat) (v1 : Int32) {t : KH} (hn : h.1 = 243) (H : fb_X4_readFact R h v0 v1 = some t) : KM Z yX4_readFact cX4_readFact 3 none (d + 21) [.ref v0, .int v1] h none t :=
  kx_v (own := RX4) (ini := false) (by decide +kernel) (by decide +kernel) rfl (Nat.le_of_ble_eq_true rfl) (sb0_X4_readFact R d hR h v0 v1 hn H)
theorem dX4_readSum_0 : decode cX4_readSum 0 = .ok (.aload_n 0, 1) := by decide +kernel
theorem dX4_readSum_1 : decode cX4_readSum 1 = .ok (.iload_n 1, 1) := by decide +kernel
theorem dX4_readSum_2 : decode cX4_readSum 2 = .ok (.invokevirtual 94, 3) := by decide +kernel
theorem dX4_readSum_5 : decode cX4_readSum 5 = .ok (.iconst 0, 1) := by decide +kernel
theorem dX4_readSum_6 : decode cX4_readSum 6 = .ok (.istore_n 2, 1) := by decide +kernel
theorem dX4_readSum_7 : decode cX4_readSum 7 = .ok (.iload_n 2, 1) := by decide +kernel
theorem dX4_readSum_8 : decode cX4_readSum 8 = .ok (.sipush 1600, 3) := by decide +kernel
theorem dX4_readSum_11 : decode cX4_readSum 11 = .ok (.if_icmp .ge 61, 3) := by decide +kernel
theorem dX4_readSum_14 : decode cX4_readSum 14 = .ok (.aload_n 0, 1) := by decide +kernel
theorem dX4_readSum_15 : decode cX4_readSum 15 = .ok (.getfield 15, 3) := by decide +kernel
theorem dX4_readSum_18 : decode cX4_readSum 18 = .ok (.bipush 43, 2) := by decide +kernel
theorem dX4_readSum_20 : decode cX4_readSum 20 = .ok (.invokevirtual 79, 3) := by decide +kernel
theorem dX4_readSum_23 : decode cX4_readSum 23 = .ok (.ifCond .ne 15, 3) := by decide +kernel
theorem dX4_readSum_26 : decode cX4_readSum 26 = .ok (.aload_n 0, 1) := by decide +kernel
theorem dX4_readSum_27 : decode cX4_readSum 27 = .ok (.getfield 15, 3) := by decide +kernel
theorem dX4_readSum_30 : decode cX4_readSum 30 = .ok (.bipush 45, 2) := by decide +kernel
theorem dX4_readSum_32 : decode cX4_readSum 32 = .ok (.invokevirtual 79, 3) := by decide +kernel
theorem dX4_readSum_35 : decode cX4_readSum 35 = .ok (.ifCond .eq 37, 3) := by decide +kernel
theorem dX4_readSum_38 : decode cX4_readSum 38 = .ok (.aload_n 0, 1) := by decide +kernel
theorem dX4_readSum_39 : decode cX4_readSum 39 = .ok (.getfield 15, 3) := by decide +kernel
theorem dX4_readSum_42 : decode cX4_readSum 42 = .ok (.getfield 88, 3) := by decide +kernel
theorem dX4_readSum_45 : decode cX4_readSum 45 = .ok (.istore_n 3, 1) := by decide +kernel
theorem dX4_readSum_46 : decode cX4_readSum 46 = .ok (.aload_n 0, 1) := by decide +kernel
theorem dX4_readSum_47 : decode cX4_readSum 47 = .ok (.getfield 15, 3) := by decide +kernel
theorem dX4_readSum_50 : decode cX4_readSum 50 = .ok (.invokevirtual 42, 3) := by decide +kernel
theorem dX4_readSum_53 : decode cX4_readSum 53 = .ok (.aload_n 0, 1) := by decide +kernel
theorem dX4_readSum_54 : decode cX4_readSum 54 = .ok (.iload_n 1, 1) := by decide +kernel
theorem dX4_readSum_55 : decode cX4_readSum 55 = .ok (.invokevirtual 94, 3) := by decide +kernel
theorem dX4_readSum_58 : decode cX4_readSum 58 = .ok (.aload_n 0, 1) := by decide +kernel
theorem dX4_readSum_59 : decode cX4_readSum 59 = .ok (.getfield 19, 3) := by decide +kernel
theorem dX4_readSum_62 : decode cX4_readSum 62 = .ok (.iload_n 3, 1) := by decide +kernel
theorem dX4_readSum_63 : decode cX4_readSum 63 = .ok (.invokevirtual 91, 3) := by decide +kernel
theorem dX4_readSum_66 : decode cX4_readSum 66 = .ok (.iinc 2 1, 3) := by decide +kernel
theorem dX4_readSum_69 : decode cX4_readSum 69 = .ok (.goto (-62), 3) := by decide +kernel
theorem dX4_readSum_72 : decode cX4_readSum 72 = .ok (.return_, 1) := by decide +kernel
theorem kc_RX4_94 : Cond.methodLink RX4 94 yX4_readProduct ∈ ktG ∧ (Cond.instanceMethod yX4_readProduct ∈ ktG ∧ Cond.selects yX4_readProduct.cls yX4_readProduct yX4_readProduct ∈ ktG) ∧ Cond.initialized yX4_readProduct.cls ∈ ktG ∧ Cond.code yX4_readProduct cX4_readProduct 4 none ∈ ktG := ⟨(kwm 751 (by decide +kernel) (by decide +kernel)), ⟨(kwm 753 (by decide +kernel) (by decide +kernel)), (kwm 14 (by decide +kernel) (by decide +kernel))⟩, (kwm 132 (by decide +kernel) (by decide +kernel)), kwm 754 (by decide +kernel) (by decide +kernel)⟩
theorem kh_X4_readProduct : yX4_readProduct.cls ≠ "java/lang/invoke/MethodHandle" ∧ yX4_readProduct.cls ≠ "java/lang/invoke/VarHandle" ∧ (parseMethodDescriptor yX4_readProduct.desc).map (fun d => d.parameters.length) = some 1 := by decide +kernel
def E_X4_readSum_l7 (v0 : Nat) (v1 : Int32) : KH → Nat → List (Nat × Value) → List Value → KH → Prop := fun (e : KH) pc ls st hh => pc = 72 ∧ ls = [] ∧ st = [] ∧ e = hh
def B_X4_readSum_l7 (v0 : Nat) (v1 : Int32) : ((Int32 × KH) ⊕ (KH)) → Nat → List (Nat × Value) → List Value → KH → Prop := Sum.elim (fun (s : Int32 × KH) pc ls st hh => pc = 7 ∧ ls = [(0, .ref v0), (1, .int v1), (2, .int s.1)] ∧ st = [] ∧ hh = s.2) (E_X4_readSum_l7 v0 v1)
def f_X4_readSum_b38 (R : KRec) (h : KH) (v0 : Nat) (v1 : Int32) (v2 : Int32) : Option ((Int32 × KH) ⊕ (KH)) :=
  if kkind v0 = 4 then if (kR h v0 0) < 999999 then if kkind (kR h v0 0) = 7 then kl (kI h (kR h v0 0) 6) fun x4 =>
  kb (f_X7_next h (kR h v0 0)) fun r6 =>
  kb (R 4 r6 v0 v1 0) fun r10 =>
  if (kR r10 v0 1) < 999999 then if kkind (kR r10 v0 1) = 1 then kb (f_X1_addSign r10 (kR r10 v0 1) x4) fun r16 =>
  kl (v2 + (1 : Int32)) fun x20 =>
  some (.inl (x20, r16)) else none else none else none else none else none
set_option maxHeartbeats 4000000 in
set_option maxRecDepth 100000 in
theorem s_X4_readSum_b38 {Z : Nat → (Nat → Nat) → State → Prop} (R : KRec) (d : Nat) (hR : KRecOK Z R d) (h : KH) (v0 : Nat) (v1 : Int32) (v2 : Int32) {t : (Int32 × KH) ⊕ (KH)} (hn : h.1 = 243) (H : f_X4_readSum_b38 R h v0 v1 v2 = some t) : KX Z RX4 cX4_readSum 4 false (d + 21) (B_X4_readSum_l7 v0 v1 t) 38 [(0, .ref v0), (1, .int v1), (2, .int v2)] [] h := by
  unfold f_X4_readSum_b38 at H
  refine x_aload_n (q := 39) dX4_readSum_38 rfl rfl ?_
  replace H := kif H; obtain ⟨g1, H⟩ := H
  replace H := kif H; obtain ⟨g2, H⟩ := H
  refine x_getR (q := 42) dX4_readSum_39 rfl kl_RX4_15 rfl (k243 g1 (by decide) hn) g2 ?_
  replace H := kif H; obtain ⟨g3, H⟩ := H
  refine x_getI (q := 45) dX4_readSum_42 rfl kl_RX4_88 (Or.inl rfl) (k243 g3 (by decide) hn) ?_
  replace H := kle H; obtain ⟨x4, q5, H⟩ := H
  refine x_nmI q5 ?_
  refine x_istore_n (q := 46) (i := 3) (ls2 := [(3, .int x4), (0, .ref v0), (1, .int v1), (2, .int v2)]) dX4_readSum_45 rfl rfl (by decide) rfl ?_
  refine x_aload_n (q := 47) dX4_readSum_46 rfl rfl ?_
  refine x_getR (q := 50) dX4_readSum_47 rfl kl_RX4_15 rfl (k243 g1 (by decide) hn) g2 ?_
  replace H := kbe H; obtain ⟨r6, c7, H⟩ := H
  have m8 := s_X7_next (Z := Z) h (kR h v0 0) hn c7
  refine x_callV (q := 53) (as := []) (rest := []) dX4_readSum_50 rfl kc_RX4_42 kh_X7_next (by omega) (Nat.le_of_ble_eq_true rfl) m8 (ci := 7) (by exact ⟨rfl, by decide⟩) (k243 g3 (by decide) hn) ?_
  have n9 : (r6).1 = 243 := m8.1.full hn
  refine x_aload_n (q := 54) dX4_readSum_53 rfl rfl ?_
  refine x_iload_n (q := 55) dX4_readSum_54 rfl rfl ?_
  replace H := kbe H; obtain ⟨r10, c11, H⟩ := H
  have m12 : KM Z yX4_readProduct cX4_readProduct 4 none (d + 20) [.ref v0, .int v1] r6 none r10 := hR 4 r6 v0 v1 0 r10 n9 c11
  refine x_callV (q := 58) (as := [.int v1]) (rest := []) dX4_readSum_55 rfl kc_RX4_94 kh_X4_readProduct (by omega) (Nat.le_of_ble_eq_true rfl) m12 (ci := 4) (by exact ⟨rfl, by decide⟩) (k243 g1 (by decide) n9) ?_
  have n13 : (r10).1 = 243 := m12.1.full n9
  refine x_aload_n (q := 59) dX4_readSum_58 rfl rfl ?_
  replace H := kif H; obtain ⟨g14, H⟩ := H
  refine x_getR (q := 62) dX4_readSum_59 rfl kl_RX4_19 rfl (k243 g1 (by decide) n13) g14 ?_
  refine x_iload_n (q := 63) dX4_readSum_62 rfl rfl ?_
  replace H := kif H; obtain ⟨g15, H⟩ := H
  replace H := kbe H; obtain ⟨r16, c17, H⟩ := H
  have m18 := s_X1_addSign (Z := Z) r10 (kR r10 v0 1) x4 n13 c17
  refine x_callV (q := 66) (as := [.int x4]) (rest := []) dX4_readSum_63 rfl kc_RX4_91 kh_X1_addSign (by omega) (Nat.le_of_ble_eq_true rfl) m18 (ci := 1) (by exact ⟨rfl, by decide⟩) (k243 g15 (by decide) n13) ?_
  have n19 : (r16).1 = 243 := m18.1.full n13
  replace H := kle H; obtain ⟨x20, q21, H⟩ := H
  refine x_iinc (q := 69) (i := 2) (ls2 := [(2, .int x20), (3, .int x4), (0, .ref v0), (1, .int v1)]) dX4_readSum_66 rfl rfl (by decide) (by rw [q21]; rfl) ?_
  refine x_goto dX4_readSum_69 (q := 7) (by decide) ?_
  cases H
  refine x_sub (ls2 := [(0, .ref v0), (1, .int v1), (2, .int x20)]) [2, 3, 0] rfl ?_
  exact x_end (x_cfg rfl)
def f_X4_readSum_l7 (R : KRec) (v0 : Nat) (v1 : Int32) (s : Int32 × KH) : Option ((Int32 × KH) ⊕ (KH)) :=
  if (1600 : Int32) ≤ s.1 then
  some (.inr s.2)
  else
  if kkind v0 = 4 then if (kR s.2 v0 0) < 999999 then if kkind (kR s.2 v0 0) = 7 then kb (f_X7_isAtSign s.2 (kR s.2 v0 0) (43 : Int32)) fun r5 =>
  if r5 = 0 then
  kb (f_X7_isAtSign s.2 (kR s.2 v0 0) (45 : Int32)) fun r9 =>
  if r9 = 0 then
  some (.inr s.2)
  else
  f_X4_readSum_b38 R s.2 v0 v1 s.1
  else
  f_X4_readSum_b38 R s.2 v0 v1 s.1 else none else none else none
set_option maxHeartbeats 4000000 in
set_option maxRecDepth 100000 in
theorem s_X4_readSum_l7 {Z : Nat → (Nat → Nat) → State → Prop} (R : KRec) (d : Nat) (hR : KRecOK Z R d) (v0 : Nat) (v1 : Int32) (s : Int32 × KH) (t : (Int32 × KH) ⊕ (KH)) (hn : (s.2).1 = 243) (H : f_X4_readSum_l7 R v0 v1 s = some t) : KX Z RX4 cX4_readSum 4 false (d + 21) (B_X4_readSum_l7 v0 v1 t) 7 [(0, .ref v0), (1, .int v1), (2, .int s.1)] [] s.2 := by
  unfold f_X4_readSum_l7 at H
  refine x_iload_n (q := 8) dX4_readSum_7 rfl rfl ?_
  refine x_sipush (q := 11) (v := (1600 : Int32)) dX4_readSum_8 rfl (by decide) ?_
  replace H := kite H; rcases H with ⟨g1, H⟩ | ⟨g1, H⟩
  · refine x_icmp_ge_t dX4_readSum_11 (q := 72) (by decide) g1 ?_
    cases H
    refine x_sub (ls2 := []) [] rfl ?_
    exact x_end (x_cfg rfl)
  · refine x_icmp_ge_f (q := 14) dX4_readSum_11 (t := 72) (by decide) rfl g1 ?_
    refine x_aload_n (q := 15) dX4_readSum_14 rfl rfl ?_
    replace H := kif H; obtain ⟨g2, H⟩ := H
    replace H := kif H; obtain ⟨g3, H⟩ := H
    refine x_getR (q := 18) dX4_readSum_15 rfl kl_RX4_15 rfl (k243 g2 (by decide) hn) g3 ?_
    refine x_bipush (q := 20) (v := (43 : Int32)) dX4_readSum_18 rfl (by decide) ?_
    replace H := kif H; obtain ⟨g4, H⟩ := H
    replace H := kbe H; obtain ⟨r5, c6, H⟩ := H
    have m7 := s_X7_isAtSign (Z := Z) s.2 (kR s.2 v0 0) (43 : Int32) hn c6
    refine x_callV (q := 23) (as := [.int (43 : Int32)]) (rest := []) dX4_readSum_20 rfl kc_RX4_79 kh_X7_isAtSign (by omega) (Nat.le_of_ble_eq_true rfl) m7 (ci := 7) (by exact ⟨rfl, by decide⟩) (k243 g4 (by decide) hn) ?_
    replace H := kite H; rcases H with ⟨g8, H⟩ | ⟨g8, H⟩
    · refine x_if_ne_f (q := 26) dX4_readSum_23 (t := 38) (by decide) rfl g8 ?_
      refine x_aload_n (q := 27) dX4_readSum_26 rfl rfl ?_
      refine x_getR (q := 30) dX4_readSum_27 rfl kl_RX4_15 rfl (k243 g2 (by decide) hn) g3 ?_
      refine x_bipush (q := 32) (v := (45 : Int32)) dX4_readSum_30 rfl (by decide) ?_
      replace H := kbe H; obtain ⟨r9, c10, H⟩ := H
      have m11 := s_X7_isAtSign (Z := Z) s.2 (kR s.2 v0 0) (45 : Int32) hn c10
      refine x_callV (q := 35) (as := [.int (45 : Int32)]) (rest := []) dX4_readSum_32 rfl kc_RX4_79 kh_X7_isAtSign (by omega) (Nat.le_of_ble_eq_true rfl) m11 (ci := 7) (by exact ⟨rfl, by decide⟩) (k243 g4 (by decide) hn) ?_
      replace H := kite H; rcases H with ⟨g12, H⟩ | ⟨g12, H⟩
      · refine x_if_eq_t dX4_readSum_35 (q := 72) (by decide) g12 ?_
        cases H
        refine x_sub (ls2 := []) [] rfl ?_
        exact x_end (x_cfg rfl)
      · refine x_if_eq_f (q := 38) dX4_readSum_35 (t := 72) (by decide) rfl g12 ?_
        refine x_sub (ls2 := [(0, .ref v0), (1, .int v1), (2, .int s.1)]) [0, 1, 2] rfl ?_
        exact s_X4_readSum_b38 R d hR s.2 v0 v1 s.1 hn H
    · refine x_if_ne_t dX4_readSum_23 (q := 38) (by decide) g8 ?_
      refine x_sub (ls2 := [(0, .ref v0), (1, .int v1), (2, .int s.1)]) [0, 1, 2] rfl ?_
      exact s_X4_readSum_b38 R d hR s.2 v0 v1 s.1 hn H
theorem sl_X4_readSum_l7 {Z : Nat → (Nat → Nat) → State → Prop} (R : KRec) (d : Nat) (hR : KRecOK Z R d) (v0 : Nat) (v1 : Int32) (n : Nat) (s : Int32 × KH) (r : KH) (hn : (s.2).1 = 243) (H : kloop (f_X4_readSum_l7 R v0 v1) n s = some r) : KX Z RX4 cX4_readSum 4 false (d + 21) (E_X4_readSum_l7 v0 v1 r) 7 [(0, .ref v0), (1, .int v1), (2, .int s.1)] [] s.2 :=
  k_loop (ls := (fun (s : Int32 × KH) => ([(0, .ref v0), (1, .int v1), (2, .int s.1)] : List (Nat × Value)))) (hp := (fun (s : Int32 × KH) => (s.2 : KH))) (G := E_X4_readSum_l7 v0 v1) (fun s t hn H => s_X4_readSum_l7 R d hR v0 v1 s t hn H) n s r hn H
def fb_X4_readSum (R : KRec) (h : KH) (v0 : Nat) (v1 : Int32) : Option (KH) :=
  if kkind v0 = 4 then kb (R 4 h v0 v1 0) fun r2 =>
  kb (kloop (f_X4_readSum_l7 R v0 v1) KF ((0 : Int32), r2)) fun e6 =>
  some e6 else none
set_option maxHeartbeats 4000000 in
set_option maxRecDepth 100000 in
theorem sb0_X4_readSum {Z : Nat → (Nat → Nat) → State → Prop} (R : KRec) (d : Nat) (hR : KRecOK Z R d) (h : KH) (v0 : Nat) (v1 : Int32) {t : KH} (hn : h.1 = 243) (H : fb_X4_readSum R h v0 v1 = some t) : KX Z RX4 cX4_readSum 4 false (d + 21) (KRv cX4_readSum t) 0 [(0, .ref v0), (1, .int v1)] [] h := by
  unfold fb_X4_readSum at H
  refine x_aload_n (q := 1) dX4_readSum_0 rfl rfl ?_
  refine x_iload_n (q := 2) dX4_readSum_1 rfl rfl ?_
  replace H := kif H; obtain ⟨g1, H⟩ := H
  replace H := kbe H; obtain ⟨r2, c3, H⟩ := H
  have m4 : KM Z yX4_readProduct cX4_readProduct 4 none (d + 20) [.ref v0, .int v1] h none r2 := hR 4 h v0 v1 0 r2 hn c3
  refine x_callV (q := 5) (as := [.int v1]) (rest := []) dX4_readSum_2 rfl kc_RX4_94 kh_X4_readProduct (by omega) (Nat.le_of_ble_eq_true rfl) m4 (ci := 4) (by exact ⟨rfl, by decide⟩) (k243 g1 (by decide) hn) ?_
  have n5 : (r2).1 = 243 := m4.1.full hn
  refine x_iconst (q := 6) (v := (0 : Int32)) dX4_readSum_5 rfl (by decide) ?_
  refine x_istore_n (q := 7) (i := 2) (ls2 := [(2, .int (0 : Int32)), (0, .ref v0), (1, .int v1)]) dX4_readSum_6 rfl rfl (by decide) rfl ?_
  refine x_sub (ls2 := [(0, .ref v0), (1, .int v1), (2, .int (0 : Int32))]) [1, 2, 0] rfl ?_
  replace H := kbe H; obtain ⟨e6, c7, H⟩ := H
  refine x_app (sl_X4_readSum_l7 R d hR v0 v1 KF ((0 : Int32), r2) e6 n5 c7) fun pc2 ls2 st2 h2 hg m8 => ?_
  obtain ⟨rfl, rfl, rfl, rfl⟩ := hg
  cases H
  exact x_end ⟨dX4_readSum_72, rfl, rfl⟩
theorem sb_X4_readSum {Z : Nat → (Nat → Nat) → State → Prop} (R : KRec) (d : Nat) (hR : KRecOK Z R d) (h : KH) (v0 : Nat) (v1 : Int32) {t : KH} (hn : h.1 = 243) (H : fb_X4_readSum R h v0 v1 = some t) : KM Z yX4_readSum cX4_readSum 4 none (d + 21) [.ref v0, .int v1] h none t :=
  kx_v (own := RX4) (ini := false) (by decide +kernel) (by decide +kernel) rfl (Nat.le_of_ble_eq_true rfl) (sb0_X4_readSum R d hR h v0 v1 hn H)
theorem dX4_readProduct_0 : decode cX4_readProduct 0 = .ok (.aload_n 0, 1) := by decide +kernel
theorem dX4_readProduct_1 : decode cX4_readProduct 1 = .ok (.iload_n 1, 1) := by decide +kernel
theorem dX4_readProduct_2 : decode cX4_readProduct 2 = .ok (.invokevirtual 97, 3) := by decide +kernel
theorem dX4_readProduct_5 : decode cX4_readProduct 5 = .ok (.iconst 0, 1) := by decide +kernel
theorem dX4_readProduct_6 : decode cX4_readProduct 6 = .ok (.istore_n 2, 1) := by decide +kernel
theorem dX4_readProduct_7 : decode cX4_readProduct 7 = .ok (.iload_n 2, 1) := by decide +kernel
theorem dX4_readProduct_8 : decode cX4_readProduct 8 = .ok (.sipush 1600, 3) := by decide +kernel
theorem dX4_readProduct_11 : decode cX4_readProduct 11 = .ok (.if_icmp .ge 61, 3) := by decide +kernel
theorem dX4_readProduct_14 : decode cX4_readProduct 14 = .ok (.aload_n 0, 1) := by decide +kernel
theorem dX4_readProduct_15 : decode cX4_readProduct 15 = .ok (.getfield 15, 3) := by decide +kernel
theorem dX4_readProduct_18 : decode cX4_readProduct 18 = .ok (.bipush 42, 2) := by decide +kernel
theorem dX4_readProduct_20 : decode cX4_readProduct 20 = .ok (.invokevirtual 79, 3) := by decide +kernel
theorem dX4_readProduct_23 : decode cX4_readProduct 23 = .ok (.ifCond .ne 15, 3) := by decide +kernel
theorem dX4_readProduct_26 : decode cX4_readProduct 26 = .ok (.aload_n 0, 1) := by decide +kernel
theorem dX4_readProduct_27 : decode cX4_readProduct 27 = .ok (.getfield 15, 3) := by decide +kernel
theorem dX4_readProduct_30 : decode cX4_readProduct 30 = .ok (.bipush 47, 2) := by decide +kernel
theorem dX4_readProduct_32 : decode cX4_readProduct 32 = .ok (.invokevirtual 79, 3) := by decide +kernel
theorem dX4_readProduct_35 : decode cX4_readProduct 35 = .ok (.ifCond .eq 37, 3) := by decide +kernel
theorem dX4_readProduct_38 : decode cX4_readProduct 38 = .ok (.aload_n 0, 1) := by decide +kernel
theorem dX4_readProduct_39 : decode cX4_readProduct 39 = .ok (.getfield 15, 3) := by decide +kernel
theorem dX4_readProduct_42 : decode cX4_readProduct 42 = .ok (.getfield 88, 3) := by decide +kernel
theorem dX4_readProduct_45 : decode cX4_readProduct 45 = .ok (.istore_n 3, 1) := by decide +kernel
theorem dX4_readProduct_46 : decode cX4_readProduct 46 = .ok (.aload_n 0, 1) := by decide +kernel
theorem dX4_readProduct_47 : decode cX4_readProduct 47 = .ok (.getfield 15, 3) := by decide +kernel
theorem dX4_readProduct_50 : decode cX4_readProduct 50 = .ok (.invokevirtual 42, 3) := by decide +kernel
theorem dX4_readProduct_53 : decode cX4_readProduct 53 = .ok (.aload_n 0, 1) := by decide +kernel
theorem dX4_readProduct_54 : decode cX4_readProduct 54 = .ok (.iload_n 1, 1) := by decide +kernel
theorem dX4_readProduct_55 : decode cX4_readProduct 55 = .ok (.invokevirtual 97, 3) := by decide +kernel
theorem dX4_readProduct_58 : decode cX4_readProduct 58 = .ok (.aload_n 0, 1) := by decide +kernel
theorem dX4_readProduct_59 : decode cX4_readProduct 59 = .ok (.getfield 19, 3) := by decide +kernel
theorem dX4_readProduct_62 : decode cX4_readProduct 62 = .ok (.iload_n 3, 1) := by decide +kernel
theorem dX4_readProduct_63 : decode cX4_readProduct 63 = .ok (.invokevirtual 91, 3) := by decide +kernel
theorem dX4_readProduct_66 : decode cX4_readProduct 66 = .ok (.iinc 2 1, 3) := by decide +kernel
theorem dX4_readProduct_69 : decode cX4_readProduct 69 = .ok (.goto (-62), 3) := by decide +kernel
theorem dX4_readProduct_72 : decode cX4_readProduct 72 = .ok (.return_, 1) := by decide +kernel
theorem kc_RX4_97 : Cond.methodLink RX4 97 yX4_readPart ∈ ktG ∧ (Cond.instanceMethod yX4_readPart ∈ ktG ∧ Cond.selects yX4_readPart.cls yX4_readPart yX4_readPart ∈ ktG) ∧ Cond.initialized yX4_readPart.cls ∈ ktG ∧ Cond.code yX4_readPart cX4_readPart 3 none ∈ ktG := ⟨(kwm 755 (by decide +kernel) (by decide +kernel)), ⟨(kwm 757 (by decide +kernel) (by decide +kernel)), (kwm 15 (by decide +kernel) (by decide +kernel))⟩, (kwm 132 (by decide +kernel) (by decide +kernel)), kwm 758 (by decide +kernel) (by decide +kernel)⟩
theorem kh_X4_readPart : yX4_readPart.cls ≠ "java/lang/invoke/MethodHandle" ∧ yX4_readPart.cls ≠ "java/lang/invoke/VarHandle" ∧ (parseMethodDescriptor yX4_readPart.desc).map (fun d => d.parameters.length) = some 1 := by decide +kernel
def E_X4_readProduct_l7 (v0 : Nat) (v1 : Int32) : KH → Nat → List (Nat × Value) → List Value → KH → Prop := fun (e : KH) pc ls st hh => pc = 72 ∧ ls = [] ∧ st = [] ∧ e = hh
def B_X4_readProduct_l7 (v0 : Nat) (v1 : Int32) : ((Int32 × KH) ⊕ (KH)) → Nat → List (Nat × Value) → List Value → KH → Prop := Sum.elim (fun (s : Int32 × KH) pc ls st hh => pc = 7 ∧ ls = [(0, .ref v0), (1, .int v1), (2, .int s.1)] ∧ st = [] ∧ hh = s.2) (E_X4_readProduct_l7 v0 v1)
def f_X4_readProduct_b38 (R : KRec) (h : KH) (v0 : Nat) (v1 : Int32) (v2 : Int32) : Option ((Int32 × KH) ⊕ (KH)) :=
  if kkind v0 = 4 then if (kR h v0 0) < 999999 then if kkind (kR h v0 0) = 7 then kl (kI h (kR h v0 0) 6) fun x4 =>
  kb (f_X7_next h (kR h v0 0)) fun r6 =>
  kb (R 5 r6 v0 v1 0) fun r10 =>
  if (kR r10 v0 1) < 999999 then if kkind (kR r10 v0 1) = 1 then kb (f_X1_addSign r10 (kR r10 v0 1) x4) fun r16 =>
  kl (v2 + (1 : Int32)) fun x20 =>
  some (.inl (x20, r16)) else none else none else none else none else none
set_option maxHeartbeats 4000000 in
set_option maxRecDepth 100000 in
theorem s_X4_readProduct_b38 {Z : Nat → (Nat → Nat) → State → Prop} (R : KRec) (d : Nat) (hR : KRecOK Z R d) (h : KH) (v0 : Nat) (v1 : Int32) (v2 : Int32) {t : (Int32 × KH) ⊕ (KH)} (hn : h.1 = 243) (H : f_X4_readProduct_b38 R h v0 v1 v2 = some t) : KX Z RX4 cX4_readProduct 4 false (d + 21) (B_X4_readProduct_l7 v0 v1 t) 38 [(0, .ref v0), (1, .int v1), (2, .int v2)] [] h := by
  unfold f_X4_readProduct_b38 at H
  refine x_aload_n (q := 39) dX4_readProduct_38 rfl rfl ?_
  replace H := kif H; obtain ⟨g1, H⟩ := H
  replace H := kif H; obtain ⟨g2, H⟩ := H
  refine x_getR (q := 42) dX4_readProduct_39 rfl kl_RX4_15 rfl (k243 g1 (by decide) hn) g2 ?_
  replace H := kif H; obtain ⟨g3, H⟩ := H
  refine x_getI (q := 45) dX4_readProduct_42 rfl kl_RX4_88 (Or.inl rfl) (k243 g3 (by decide) hn) ?_
  replace H := kle H; obtain ⟨x4, q5, H⟩ := H
  refine x_nmI q5 ?_
  refine x_istore_n (q := 46) (i := 3) (ls2 := [(3, .int x4), (0, .ref v0), (1, .int v1), (2, .int v2)]) dX4_readProduct_45 rfl rfl (by decide) rfl ?_
  refine x_aload_n (q := 47) dX4_readProduct_46 rfl rfl ?_
  refine x_getR (q := 50) dX4_readProduct_47 rfl kl_RX4_15 rfl (k243 g1 (by decide) hn) g2 ?_
  replace H := kbe H; obtain ⟨r6, c7, H⟩ := H
  have m8 := s_X7_next (Z := Z) h (kR h v0 0) hn c7
  refine x_callV (q := 53) (as := []) (rest := []) dX4_readProduct_50 rfl kc_RX4_42 kh_X7_next (by omega) (Nat.le_of_ble_eq_true rfl) m8 (ci := 7) (by exact ⟨rfl, by decide⟩) (k243 g3 (by decide) hn) ?_
  have n9 : (r6).1 = 243 := m8.1.full hn
  refine x_aload_n (q := 54) dX4_readProduct_53 rfl rfl ?_
  refine x_iload_n (q := 55) dX4_readProduct_54 rfl rfl ?_
  replace H := kbe H; obtain ⟨r10, c11, H⟩ := H
  have m12 : KM Z yX4_readPart cX4_readPart 3 none (d + 20) [.ref v0, .int v1] r6 none r10 := hR 5 r6 v0 v1 0 r10 n9 c11
  refine x_callV (q := 58) (as := [.int v1]) (rest := []) dX4_readProduct_55 rfl kc_RX4_97 kh_X4_readPart (by omega) (Nat.le_of_ble_eq_true rfl) m12 (ci := 4) (by exact ⟨rfl, by decide⟩) (k243 g1 (by decide) n9) ?_
  have n13 : (r10).1 = 243 := m12.1.full n9
  refine x_aload_n (q := 59) dX4_readProduct_58 rfl rfl ?_
  replace H := kif H; obtain ⟨g14, H⟩ := H
  refine x_getR (q := 62) dX4_readProduct_59 rfl kl_RX4_19 rfl (k243 g1 (by decide) n13) g14 ?_
  refine x_iload_n (q := 63) dX4_readProduct_62 rfl rfl ?_
  replace H := kif H; obtain ⟨g15, H⟩ := H
  replace H := kbe H; obtain ⟨r16, c17, H⟩ := H
  have m18 := s_X1_addSign (Z := Z) r10 (kR r10 v0 1) x4 n13 c17
  refine x_callV (q := 66) (as := [.int x4]) (rest := []) dX4_readProduct_63 rfl kc_RX4_91 kh_X1_addSign (by omega) (Nat.le_of_ble_eq_true rfl) m18 (ci := 1) (by exact ⟨rfl, by decide⟩) (k243 g15 (by decide) n13) ?_
  have n19 : (r16).1 = 243 := m18.1.full n13
  replace H := kle H; obtain ⟨x20, q21, H⟩ := H
  refine x_iinc (q := 69) (i := 2) (ls2 := [(2, .int x20), (3, .int x4), (0, .ref v0), (1, .int v1)]) dX4_readProduct_66 rfl rfl (by decide) (by rw [q21]; rfl) ?_
  refine x_goto dX4_readProduct_69 (q := 7) (by decide) ?_
  cases H
  refine x_sub (ls2 := [(0, .ref v0), (1, .int v1), (2, .int x20)]) [2, 3, 0] rfl ?_
  exact x_end (x_cfg rfl)
def f_X4_readProduct_l7 (R : KRec) (v0 : Nat) (v1 : Int32) (s : Int32 × KH) : Option ((Int32 × KH) ⊕ (KH)) :=
  if (1600 : Int32) ≤ s.1 then
  some (.inr s.2)
  else
  if kkind v0 = 4 then if (kR s.2 v0 0) < 999999 then if kkind (kR s.2 v0 0) = 7 then kb (f_X7_isAtSign s.2 (kR s.2 v0 0) (42 : Int32)) fun r5 =>
  if r5 = 0 then
  kb (f_X7_isAtSign s.2 (kR s.2 v0 0) (47 : Int32)) fun r9 =>
  if r9 = 0 then
  some (.inr s.2)
  else
  f_X4_readProduct_b38 R s.2 v0 v1 s.1
  else
  f_X4_readProduct_b38 R s.2 v0 v1 s.1 else none else none else none
set_option maxHeartbeats 4000000 in
set_option maxRecDepth 100000 in
theorem s_X4_readProduct_l7 {Z : Nat → (Nat → Nat) → State → Prop} (R : KRec) (d : Nat) (hR : KRecOK Z R d) (v0 : Nat) (v1 : Int32) (s : Int32 × KH) (t : (Int32 × KH) ⊕ (KH)) (hn : (s.2).1 = 243) (H : f_X4_readProduct_l7 R v0 v1 s = some t) : KX Z RX4 cX4_readProduct 4 false (d + 21) (B_X4_readProduct_l7 v0 v1 t) 7 [(0, .ref v0), (1, .int v1), (2, .int s.1)] [] s.2 := by
  unfold f_X4_readProduct_l7 at H
  refine x_iload_n (q := 8) dX4_readProduct_7 rfl rfl ?_
  refine x_sipush (q := 11) (v := (1600 : Int32)) dX4_readProduct_8 rfl (by decide) ?_
  replace H := kite H; rcases H with ⟨g1, H⟩ | ⟨g1, H⟩
  · refine x_icmp_ge_t dX4_readProduct_11 (q := 72) (by decide) g1 ?_
    cases H
    refine x_sub (ls2 := []) [] rfl ?_
    exact x_end (x_cfg rfl)
  · refine x_icmp_ge_f (q := 14) dX4_readProduct_11 (t := 72) (by decide) rfl g1 ?_
    refine x_aload_n (q := 15) dX4_readProduct_14 rfl rfl ?_
    replace H := kif H; obtain ⟨g2, H⟩ := H
    replace H := kif H; obtain ⟨g3, H⟩ := H
    refine x_getR (q := 18) dX4_readProduct_15 rfl kl_RX4_15 rfl (k243 g2 (by decide) hn) g3 ?_
    refine x_bipush (q := 20) (v := (42 : Int32)) dX4_readProduct_18 rfl (by decide) ?_
    replace H := kif H; obtain ⟨g4, H⟩ := H
    replace H := kbe H; obtain ⟨r5, c6, H⟩ := H
    have m7 := s_X7_isAtSign (Z := Z) s.2 (kR s.2 v0 0) (42 : Int32) hn c6
    refine x_callV (q := 23) (as := [.int (42 : Int32)]) (rest := []) dX4_readProduct_20 rfl kc_RX4_79 kh_X7_isAtSign (by omega) (Nat.le_of_ble_eq_true rfl) m7 (ci := 7) (by exact ⟨rfl, by decide⟩) (k243 g4 (by decide) hn) ?_
    replace H := kite H; rcases H with ⟨g8, H⟩ | ⟨g8, H⟩
    · refine x_if_ne_f (q := 26) dX4_readProduct_23 (t := 38) (by decide) rfl g8 ?_
      refine x_aload_n (q := 27) dX4_readProduct_26 rfl rfl ?_
      refine x_getR (q := 30) dX4_readProduct_27 rfl kl_RX4_15 rfl (k243 g2 (by decide) hn) g3 ?_
      refine x_bipush (q := 32) (v := (47 : Int32)) dX4_readProduct_30 rfl (by decide) ?_
      replace H := kbe H; obtain ⟨r9, c10, H⟩ := H
      have m11 := s_X7_isAtSign (Z := Z) s.2 (kR s.2 v0 0) (47 : Int32) hn c10
      refine x_callV (q := 35) (as := [.int (47 : Int32)]) (rest := []) dX4_readProduct_32 rfl kc_RX4_79 kh_X7_isAtSign (by omega) (Nat.le_of_ble_eq_true rfl) m11 (ci := 7) (by exact ⟨rfl, by decide⟩) (k243 g4 (by decide) hn) ?_
      replace H := kite H; rcases H with ⟨g12, H⟩ | ⟨g12, H⟩
      · refine x_if_eq_t dX4_readProduct_35 (q := 72) (by decide) g12 ?_
        cases H
        refine x_sub (ls2 := []) [] rfl ?_
        exact x_end (x_cfg rfl)
      · refine x_if_eq_f (q := 38) dX4_readProduct_35 (t := 72) (by decide) rfl g12 ?_
        refine x_sub (ls2 := [(0, .ref v0), (1, .int v1), (2, .int s.1)]) [0, 1, 2] rfl ?_
        exact s_X4_readProduct_b38 R d hR s.2 v0 v1 s.1 hn H
    · refine x_if_ne_t dX4_readProduct_23 (q := 38) (by decide) g8 ?_
      refine x_sub (ls2 := [(0, .ref v0), (1, .int v1), (2, .int s.1)]) [0, 1, 2] rfl ?_
      exact s_X4_readProduct_b38 R d hR s.2 v0 v1 s.1 hn H
theorem sl_X4_readProduct_l7 {Z : Nat → (Nat → Nat) → State → Prop} (R : KRec) (d : Nat) (hR : KRecOK Z R d) (v0 : Nat) (v1 : Int32) (n : Nat) (s : Int32 × KH) (r : KH) (hn : (s.2).1 = 243) (H : kloop (f_X4_readProduct_l7 R v0 v1) n s = some r) : KX Z RX4 cX4_readProduct 4 false (d + 21) (E_X4_readProduct_l7 v0 v1 r) 7 [(0, .ref v0), (1, .int v1), (2, .int s.1)] [] s.2 :=
  k_loop (ls := (fun (s : Int32 × KH) => ([(0, .ref v0), (1, .int v1), (2, .int s.1)] : List (Nat × Value)))) (hp := (fun (s : Int32 × KH) => (s.2 : KH))) (G := E_X4_readProduct_l7 v0 v1) (fun s t hn H => s_X4_readProduct_l7 R d hR v0 v1 s t hn H) n s r hn H
def fb_X4_readProduct (R : KRec) (h : KH) (v0 : Nat) (v1 : Int32) : Option (KH) :=
  if kkind v0 = 4 then kb (R 5 h v0 v1 0) fun r2 =>
  kb (kloop (f_X4_readProduct_l7 R v0 v1) KF ((0 : Int32), r2)) fun e6 =>
  some e6 else none
set_option maxHeartbeats 4000000 in
set_option maxRecDepth 100000 in
theorem sb0_X4_readProduct {Z : Nat → (Nat → Nat) → State → Prop} (R : KRec) (d : Nat) (hR : KRecOK Z R d) (h : KH) (v0 : Nat) (v1 : Int32) {t : KH} (hn : h.1 = 243) (H : fb_X4_readProduct R h v0 v1 = some t) : KX Z RX4 cX4_readProduct 4 false (d + 21) (KRv cX4_readProduct t) 0 [(0, .ref v0), (1, .int v1)] [] h := by
  unfold fb_X4_readProduct at H
  refine x_aload_n (q := 1) dX4_readProduct_0 rfl rfl ?_
  refine x_iload_n (q := 2) dX4_readProduct_1 rfl rfl ?_
  replace H := kif H; obtain ⟨g1, H⟩ := H
  replace H := kbe H; obtain ⟨r2, c3, H⟩ := H
  have m4 : KM Z yX4_readPart cX4_readPart 3 none (d + 20) [.ref v0, .int v1] h none r2 := hR 5 h v0 v1 0 r2 hn c3
  refine x_callV (q := 5) (as := [.int v1]) (rest := []) dX4_readProduct_2 rfl kc_RX4_97 kh_X4_readPart (by omega) (Nat.le_of_ble_eq_true rfl) m4 (ci := 4) (by exact ⟨rfl, by decide⟩) (k243 g1 (by decide) hn) ?_
  have n5 : (r2).1 = 243 := m4.1.full hn
  refine x_iconst (q := 6) (v := (0 : Int32)) dX4_readProduct_5 rfl (by decide) ?_
  refine x_istore_n (q := 7) (i := 2) (ls2 := [(2, .int (0 : Int32)), (0, .ref v0), (1, .int v1)]) dX4_readProduct_6 rfl rfl (by decide) rfl ?_
  refine x_sub (ls2 := [(0, .ref v0), (1, .int v1), (2, .int (0 : Int32))]) [1, 2, 0] rfl ?_
  replace H := kbe H; obtain ⟨e6, c7, H⟩ := H
  refine x_app (sl_X4_readProduct_l7 R d hR v0 v1 KF ((0 : Int32), r2) e6 n5 c7) fun pc2 ls2 st2 h2 hg m8 => ?_
  obtain ⟨rfl, rfl, rfl, rfl⟩ := hg
  cases H
  exact x_end ⟨dX4_readProduct_72, rfl, rfl⟩
theorem sb_X4_readProduct {Z : Nat → (Nat → Nat) → State → Prop} (R : KRec) (d : Nat) (hR : KRecOK Z R d) (h : KH) (v0 : Nat) (v1 : Int32) {t : KH} (hn : h.1 = 243) (H : fb_X4_readProduct R h v0 v1 = some t) : KM Z yX4_readProduct cX4_readProduct 4 none (d + 21) [.ref v0, .int v1] h none t :=
  kx_v (own := RX4) (ini := false) (by decide +kernel) (by decide +kernel) rfl (Nat.le_of_ble_eq_true rfl) (sb0_X4_readProduct R d hR h v0 v1 hn H)
theorem dX4_readPart_0 : decode cX4_readPart 0 = .ok (.aload_n 0, 1) := by decide +kernel
theorem dX4_readPart_1 : decode cX4_readPart 1 = .ok (.getfield 15, 3) := by decide +kernel
theorem dX4_readPart_4 : decode cX4_readPart 4 = .ok (.invokevirtual 38, 3) := by decide +kernel
theorem dX4_readPart_7 : decode cX4_readPart 7 = .ok (.istore_n 2, 1) := by decide +kernel
theorem dX4_readPart_8 : decode cX4_readPart 8 = .ok (.aload_n 0, 1) := by decide +kernel
theorem dX4_readPart_9 : decode cX4_readPart 9 = .ok (.getfield 15, 3) := by decide +kernel
theorem dX4_readPart_12 : decode cX4_readPart 12 = .ok (.getfield 100, 3) := by decide +kernel
theorem dX4_readPart_15 : decode cX4_readPart 15 = .ok (.iconst 3, 1) := by decide +kernel
theorem dX4_readPart_16 : decode cX4_readPart 16 = .ok (.if_icmp .ne 24, 3) := by decide +kernel
theorem dX4_readPart_19 : decode cX4_readPart 19 = .ok (.aload_n 0, 1) := by decide +kernel
theorem dX4_readPart_20 : decode cX4_readPart 20 = .ok (.getfield 19, 3) := by decide +kernel
theorem dX4_readPart_23 : decode cX4_readPart 23 = .ok (.aload_n 0, 1) := by decide +kernel
theorem dX4_readPart_24 : decode cX4_readPart 24 = .ok (.getfield 15, 3) := by decide +kernel
theorem dX4_readPart_27 : decode cX4_readPart 27 = .ok (.iconst 0, 1) := by decide +kernel
theorem dX4_readPart_28 : decode cX4_readPart 28 = .ok (.sipush 9999, 3) := by decide +kernel
theorem dX4_readPart_31 : decode cX4_readPart 31 = .ok (.invokevirtual 103, 3) := by decide +kernel
theorem dX4_readPart_34 : decode cX4_readPart 34 = .ok (.invokevirtual 85, 3) := by decide +kernel
theorem dX4_readPart_37 : decode cX4_readPart 37 = .ok (.goto 144, 3) := by decide +kernel
theorem dX4_readPart_40 : decode cX4_readPart 40 = .ok (.aload_n 0, 1) := by decide +kernel
theorem dX4_readPart_41 : decode cX4_readPart 41 = .ok (.getfield 15, 3) := by decide +kernel
theorem dX4_readPart_44 : decode cX4_readPart 44 = .ok (.bipush 40, 2) := by decide +kernel
theorem dX4_readPart_46 : decode cX4_readPart 46 = .ok (.invokevirtual 79, 3) := by decide +kernel
theorem dX4_readPart_49 : decode cX4_readPart 49 = .ok (.ifCond .eq 30, 3) := by decide +kernel
theorem dX4_readPart_52 : decode cX4_readPart 52 = .ok (.aload_n 0, 1) := by decide +kernel
theorem dX4_readPart_53 : decode cX4_readPart 53 = .ok (.iload_n 1, 1) := by decide +kernel
theorem dX4_readPart_54 : decode cX4_readPart 54 = .ok (.invokevirtual 76, 3) := by decide +kernel
theorem dX4_readPart_57 : decode cX4_readPart 57 = .ok (.ifCond .eq 124, 3) := by decide +kernel
theorem dX4_readPart_60 : decode cX4_readPart 60 = .ok (.aload_n 0, 1) := by decide +kernel
theorem dX4_readPart_61 : decode cX4_readPart 61 = .ok (.iload_n 1, 1) := by decide +kernel
theorem dX4_readPart_62 : decode cX4_readPart 62 = .ok (.iconst 1, 1) := by decide +kernel
theorem dX4_readPart_63 : decode cX4_readPart 63 = .ok (.iadd, 1) := by decide +kernel
theorem dX4_readPart_64 : decode cX4_readPart 64 = .ok (.invokevirtual 49, 3) := by decide +kernel
theorem dX4_readPart_67 : decode cX4_readPart 67 = .ok (.aload_n 0, 1) := by decide +kernel
theorem dX4_readPart_68 : decode cX4_readPart 68 = .ok (.getfield 15, 3) := by decide +kernel
theorem dX4_readPart_71 : decode cX4_readPart 71 = .ok (.bipush 41, 2) := by decide +kernel
theorem dX4_readPart_73 : decode cX4_readPart 73 = .ok (.invokevirtual 82, 3) := by decide +kernel
theorem dX4_readPart_76 : decode cX4_readPart 76 = .ok (.goto 105, 3) := by decide +kernel
theorem dX4_readPart_79 : decode cX4_readPart 79 = .ok (.iload_n 2, 1) := by decide +kernel
theorem dX4_readPart_80 : decode cX4_readPart 80 = .ok (.bipush 20, 2) := by decide +kernel
theorem dX4_readPart_82 : decode cX4_readPart 82 = .ok (.if_icmp .eq 9, 3) := by decide +kernel
theorem dX4_readPart_85 : decode cX4_readPart 85 = .ok (.iload_n 2, 1) := by decide +kernel
theorem dX4_readPart_86 : decode cX4_readPart 86 = .ok (.bipush 21, 2) := by decide +kernel
theorem dX4_readPart_88 : decode cX4_readPart 88 = .ok (.if_icmp .ne 12, 3) := by decide +kernel
theorem dX4_readPart_91 : decode cX4_readPart 91 = .ok (.aload_n 0, 1) := by decide +kernel
theorem dX4_readPart_92 : decode cX4_readPart 92 = .ok (.iload_n 2, 1) := by decide +kernel
theorem dX4_readPart_93 : decode cX4_readPart 93 = .ok (.iload_n 1, 1) := by decide +kernel
theorem dX4_readPart_94 : decode cX4_readPart 94 = .ok (.invokevirtual 107, 3) := by decide +kernel
theorem dX4_readPart_97 : decode cX4_readPart 97 = .ok (.goto 84, 3) := by decide +kernel
theorem dX4_readPart_100 : decode cX4_readPart 100 = .ok (.iload_n 2, 1) := by decide +kernel
theorem dX4_readPart_101 : decode cX4_readPart 101 = .ok (.bipush 8, 2) := by decide +kernel
theorem dX4_readPart_103 : decode cX4_readPart 103 = .ok (.if_icmp .ne 37, 3) := by decide +kernel
theorem dX4_readPart_106 : decode cX4_readPart 106 = .ok (.aload_n 0, 1) := by decide +kernel
theorem dX4_readPart_107 : decode cX4_readPart 107 = .ok (.getfield 9, 3) := by decide +kernel
theorem dX4_readPart_110 : decode cX4_readPart 110 = .ok (.ifCond .eq 30, 3) := by decide +kernel
theorem dX4_readPart_113 : decode cX4_readPart 113 = .ok (.aload_n 0, 1) := by decide +kernel
theorem dX4_readPart_114 : decode cX4_readPart 114 = .ok (.iload_n 1, 1) := by decide +kernel
theorem dX4_readPart_115 : decode cX4_readPart 115 = .ok (.invokevirtual 76, 3) := by decide +kernel
theorem dX4_readPart_118 : decode cX4_readPart 118 = .ok (.ifCond .eq 63, 3) := by decide +kernel
theorem dX4_readPart_121 : decode cX4_readPart 121 = .ok (.aload_n 0, 1) := by decide +kernel
theorem dX4_readPart_122 : decode cX4_readPart 122 = .ok (.iload_n 1, 1) := by decide +kernel
theorem dX4_readPart_123 : decode cX4_readPart 123 = .ok (.iconst 1, 1) := by decide +kernel
theorem dX4_readPart_124 : decode cX4_readPart 124 = .ok (.iadd, 1) := by decide +kernel
theorem dX4_readPart_125 : decode cX4_readPart 125 = .ok (.invokevirtual 97, 3) := by decide +kernel
theorem dX4_readPart_128 : decode cX4_readPart 128 = .ok (.aload_n 0, 1) := by decide +kernel
theorem dX4_readPart_129 : decode cX4_readPart 129 = .ok (.getfield 19, 3) := by decide +kernel
theorem dX4_readPart_132 : decode cX4_readPart 132 = .ok (.bipush 8, 2) := by decide +kernel
theorem dX4_readPart_134 : decode cX4_readPart 134 = .ok (.invokevirtual 70, 3) := by decide +kernel
theorem dX4_readPart_137 : decode cX4_readPart 137 = .ok (.goto 44, 3) := by decide +kernel
theorem dX4_readPart_140 : decode cX4_readPart 140 = .ok (.aload_n 0, 1) := by decide +kernel
theorem dX4_readPart_141 : decode cX4_readPart 141 = .ok (.iload_n 2, 1) := by decide +kernel
theorem dX4_readPart_142 : decode cX4_readPart 142 = .ok (.invokevirtual 110, 3) := by decide +kernel
theorem dX4_readPart_145 : decode cX4_readPart 145 = .ok (.ifCond .eq 21, 3) := by decide +kernel
theorem dX4_readPart_148 : decode cX4_readPart 148 = .ok (.aload_n 0, 1) := by decide +kernel
theorem dX4_readPart_149 : decode cX4_readPart 149 = .ok (.getfield 15, 3) := by decide +kernel
theorem dX4_readPart_152 : decode cX4_readPart 152 = .ok (.invokevirtual 42, 3) := by decide +kernel
theorem dX4_readPart_155 : decode cX4_readPart 155 = .ok (.aload_n 0, 1) := by decide +kernel
theorem dX4_readPart_156 : decode cX4_readPart 156 = .ok (.getfield 19, 3) := by decide +kernel
theorem dX4_readPart_159 : decode cX4_readPart 159 = .ok (.iload_n 2, 1) := by decide +kernel
theorem dX4_readPart_160 : decode cX4_readPart 160 = .ok (.invokevirtual 70, 3) := by decide +kernel
theorem dX4_readPart_163 : decode cX4_readPart 163 = .ok (.goto 18, 3) := by decide +kernel
theorem dX4_readPart_166 : decode cX4_readPart 166 = .ok (.aload_n 0, 1) := by decide +kernel
theorem dX4_readPart_167 : decode cX4_readPart 167 = .ok (.getfield 15, 3) := by decide +kernel
theorem dX4_readPart_170 : decode cX4_readPart 170 = .ok (.iconst 1, 1) := by decide +kernel
theorem dX4_readPart_171 : decode cX4_readPart 171 = .ok (.aload_n 0, 1) := by decide +kernel
theorem dX4_readPart_172 : decode cX4_readPart 172 = .ok (.getfield 15, 3) := by decide +kernel
theorem dX4_readPart_175 : decode cX4_readPart 175 = .ok (.getfield 52, 3) := by decide +kernel
theorem dX4_readPart_178 : decode cX4_readPart 178 = .ok (.invokevirtual 55, 3) := by decide +kernel
theorem dX4_readPart_181 : decode cX4_readPart 181 = .ok (.return_, 1) := by decide +kernel
theorem kc_RX4_38 : Cond.methodLink RX4 38 yX7_wordHere ∈ ktG ∧ (Cond.instanceMethod yX7_wordHere ∈ ktG ∧ Cond.selects yX7_wordHere.cls yX7_wordHere yX7_wordHere ∈ ktG) ∧ Cond.initialized yX7_wordHere.cls ∈ ktG ∧ Cond.code yX7_wordHere cX7_wordHere 2 (some .int) ∈ ktG := ⟨(kwm 759 (by decide +kernel) (by decide +kernel)), ⟨(kwm 648 (by decide +kernel) (by decide +kernel)), (kwm 649 (by decide +kernel) (by decide +kernel))⟩, (kwm 127 (by decide +kernel) (by decide +kernel)), kwm 650 (by decide +kernel) (by decide +kernel)⟩
theorem kl_RX4_100 : KLk RX4 100 7 3 := ⟨RX7, TX7, 9, rfl, by decide, Or.inr (by decide +kernel)⟩
theorem kc_RX4_107 : Cond.methodLink RX4 107 yX4_readPair ∈ ktG ∧ (Cond.instanceMethod yX4_readPair ∈ ktG ∧ Cond.selects yX4_readPair.cls yX4_readPair yX4_readPair ∈ ktG) ∧ Cond.initialized yX4_readPair.cls ∈ ktG ∧ Cond.code yX4_readPair cX4_readPair 3 none ∈ ktG := ⟨(kwm 761 (by decide +kernel) (by decide +kernel)), ⟨(kwm 763 (by decide +kernel) (by decide +kernel)), (kwm 16 (by decide +kernel) (by decide +kernel))⟩, (kwm 132 (by decide +kernel) (by decide +kernel)), kwm 764 (by decide +kernel) (by decide +kernel)⟩
theorem kh_X4_readPair : yX4_readPair.cls ≠ "java/lang/invoke/MethodHandle" ∧ yX4_readPair.cls ≠ "java/lang/invoke/VarHandle" ∧ (parseMethodDescriptor yX4_readPair.desc).map (fun d => d.parameters.length) = some 2 := by decide +kernel
theorem kc_RX4_110 : Cond.methodLink RX4 110 yX4_isValue ∈ ktG ∧ (Cond.instanceMethod yX4_isValue ∈ ktG ∧ Cond.selects yX4_isValue.cls yX4_isValue yX4_isValue ∈ ktG) ∧ Cond.initialized yX4_isValue.cls ∈ ktG ∧ Cond.code yX4_isValue cX4_isValue 2 (some .boolean) ∈ ktG := ⟨(kwm 765 (by decide +kernel) (by decide +kernel)), ⟨(kwm 767 (by decide +kernel) (by decide +kernel)), (kwm 17 (by decide +kernel) (by decide +kernel))⟩, (kwm 132 (by decide +kernel) (by decide +kernel)), kwm 768 (by decide +kernel) (by decide +kernel)⟩
theorem kh_X4_isValue : yX4_isValue.cls ≠ "java/lang/invoke/MethodHandle" ∧ yX4_isValue.cls ≠ "java/lang/invoke/VarHandle" ∧ (parseMethodDescriptor yX4_isValue.desc).map (fun d => d.parameters.length) = some 1 := by decide +kernel
theorem kc_RX4_103 : Cond.methodLink RX4 103 yX7_takeNumber ∈ ktG ∧ (Cond.instanceMethod yX7_takeNumber ∈ ktG ∧ Cond.selects yX7_takeNumber.cls yX7_takeNumber yX7_takeNumber ∈ ktG) ∧ Cond.initialized yX7_takeNumber.cls ∈ ktG ∧ Cond.code yX7_takeNumber cX7_takeNumber 4 (some .int) ∈ ktG := ⟨(kwm 760 (by decide +kernel) (by decide +kernel)), ⟨(kwm 694 (by decide +kernel) (by decide +kernel)), (kwm 695 (by decide +kernel) (by decide +kernel))⟩, (kwm 127 (by decide +kernel) (by decide +kernel)), kwm 696 (by decide +kernel) (by decide +kernel)⟩
def f_X4_readPart_b91 (R : KRec) (h : KH) (v0 : Nat) (v1 : Int32) (v2 : Int32) : Option (KH) :=
  if kkind v0 = 4 then kb (R 6 h v0 v2 v1) fun r2 =>
  some r2 else none
set_option maxHeartbeats 4000000 in
set_option maxRecDepth 100000 in
theorem s_X4_readPart_b91 {Z : Nat → (Nat → Nat) → State → Prop} (R : KRec) (d : Nat) (hR : KRecOK Z R d) (h : KH) (v0 : Nat) (v1 : Int32) (v2 : Int32) {t : KH} (hn : h.1 = 243) (H : f_X4_readPart_b91 R h v0 v1 v2 = some t) : KX Z RX4 cX4_readPart 3 false (d + 21) (KRv cX4_readPart t) 91 [(0, .ref v0), (1, .int v1), (2, .int v2)] [] h := by
  unfold f_X4_readPart_b91 at H
  refine x_aload_n (q := 92) dX4_readPart_91 rfl rfl ?_
  refine x_iload_n (q := 93) dX4_readPart_92 rfl rfl ?_
  refine x_iload_n (q := 94) dX4_readPart_93 rfl rfl ?_
  replace H := kif H; obtain ⟨g1, H⟩ := H
  replace H := kbe H; obtain ⟨r2, c3, H⟩ := H
  have m4 : KM Z yX4_readPair cX4_readPair 3 none (d + 20) [.ref v0, .int v2, .int v1] h none r2 := hR 6 h v0 v2 v1 r2 hn c3
  refine x_callV (q := 97) (as := [.int v2, .int v1]) (rest := []) dX4_readPart_94 rfl kc_RX4_107 kh_X4_readPair (by omega) (Nat.le_of_ble_eq_true rfl) m4 (ci := 4) (by exact ⟨rfl, by decide⟩) (k243 g1 (by decide) hn) ?_
  have n5 : (r2).1 = 243 := m4.1.full hn
  refine x_goto dX4_readPart_97 (q := 181) (by decide) ?_
  cases H
  exact x_end ⟨dX4_readPart_181, rfl, rfl⟩
def f_X4_readPart_b140 (R : KRec) (h : KH) (v0 : Nat) (v2 : Int32) : Option (KH) :=
  if kkind v0 = 4 then kb (f_X4_isValue h v0 v2) fun r2 =>
  if r2 = 0 then
  if (kR h v0 0) < 999999 then if kkind (kR h v0 0) = 7 then kb (f_X7_stop h (kR h v0 0) (1 : Int32) (kI h (kR h v0 0) 4)) fun r8 =>
  some r8 else none else none
  else
  if (kR h v0 0) < 999999 then if kkind (kR h v0 0) = 7 then kb (f_X7_next h (kR h v0 0)) fun r14 =>
  if (kR r14 v0 1) < 999999 then if kkind (kR r14 v0 1) = 1 then kb (f_X1_addWord r14 (kR r14 v0 1) v2) fun r20 =>
  some r20 else none else none else none else none else none
set_option maxHeartbeats 4000000 in
set_option maxRecDepth 100000 in
theorem s_X4_readPart_b140 {Z : Nat → (Nat → Nat) → State → Prop} (R : KRec) (d : Nat) (hR : KRecOK Z R d) (h : KH) (v0 : Nat) (v2 : Int32) {t : KH} (hn : h.1 = 243) (H : f_X4_readPart_b140 R h v0 v2 = some t) : KX Z RX4 cX4_readPart 3 false (d + 21) (KRv cX4_readPart t) 140 [(0, .ref v0), (2, .int v2)] [] h := by
  unfold f_X4_readPart_b140 at H
  refine x_aload_n (q := 141) dX4_readPart_140 rfl rfl ?_
  refine x_iload_n (q := 142) dX4_readPart_141 rfl rfl ?_
  replace H := kif H; obtain ⟨g1, H⟩ := H
  replace H := kbe H; obtain ⟨r2, c3, H⟩ := H
  have m4 := s_X4_isValue (Z := Z) h v0 v2 hn c3
  refine x_callV (q := 145) (as := [.int v2]) (rest := []) dX4_readPart_142 rfl kc_RX4_110 kh_X4_isValue (by omega) (Nat.le_of_ble_eq_true rfl) m4 (ci := 4) (by exact ⟨rfl, by decide⟩) (k243 g1 (by decide) hn) ?_
  replace H := kite H; rcases H with ⟨g5, H⟩ | ⟨g5, H⟩
  · refine x_if_eq_t dX4_readPart_145 (q := 166) (by decide) g5 ?_
    refine x_aload_n (q := 167) dX4_readPart_166 rfl rfl ?_
    replace H := kif H; obtain ⟨g6, H⟩ := H
    refine x_getR (q := 170) dX4_readPart_167 rfl kl_RX4_15 rfl (k243 g1 (by decide) hn) g6 ?_
    refine x_iconst (q := 171) (v := (1 : Int32)) dX4_readPart_170 rfl (by decide) ?_
    refine x_aload_n (q := 172) dX4_readPart_171 rfl rfl ?_
    refine x_getR (q := 175) dX4_readPart_172 rfl kl_RX4_15 rfl (k243 g1 (by decide) hn) g6 ?_
    replace H := kif H; obtain ⟨g7, H⟩ := H
    refine x_getI (q := 178) dX4_readPart_175 rfl kl_RX4_52 (Or.inl rfl) (k243 g7 (by decide) hn) ?_
    replace H := kbe H; obtain ⟨r8, c9, H⟩ := H
    have m10 := s_X7_stop (Z := Z) h (kR h v0 0) (1 : Int32) (kI h (kR h v0 0) 4) hn c9
    refine x_callV (q := 181) (as := [.int (1 : Int32), .int (kI h (kR h v0 0) 4)]) (rest := []) dX4_readPart_178 rfl kc_RX4_55 kh_X7_stop (by omega) (Nat.le_of_ble_eq_true rfl) m10 (ci := 7) (by exact ⟨rfl, by decide⟩) (k243 g7 (by decide) hn) ?_
    have n11 : (r8).1 = 243 := m10.1.full hn
    cases H
    exact x_end ⟨dX4_readPart_181, rfl, rfl⟩
  · refine x_if_eq_f (q := 148) dX4_readPart_145 (t := 166) (by decide) rfl g5 ?_
    refine x_aload_n (q := 149) dX4_readPart_148 rfl rfl ?_
    replace H := kif H; obtain ⟨g12, H⟩ := H
    refine x_getR (q := 152) dX4_readPart_149 rfl kl_RX4_15 rfl (k243 g1 (by decide) hn) g12 ?_
    replace H := kif H; obtain ⟨g13, H⟩ := H
    replace H := kbe H; obtain ⟨r14, c15, H⟩ := H
    have m16 := s_X7_next (Z := Z) h (kR h v0 0) hn c15
    refine x_callV (q := 155) (as := []) (rest := []) dX4_readPart_152 rfl kc_RX4_42 kh_X7_next (by omega) (Nat.le_of_ble_eq_true rfl) m16 (ci := 7) (by exact ⟨rfl, by decide⟩) (k243 g13 (by decide) hn) ?_
    have n17 : (r14).1 = 243 := m16.1.full hn
    refine x_aload_n (q := 156) dX4_readPart_155 rfl rfl ?_
    replace H := kif H; obtain ⟨g18, H⟩ := H
    refine x_getR (q := 159) dX4_readPart_156 rfl kl_RX4_19 rfl (k243 g1 (by decide) n17) g18 ?_
    refine x_iload_n (q := 160) dX4_readPart_159 rfl rfl ?_
    replace H := kif H; obtain ⟨g19, H⟩ := H
    replace H := kbe H; obtain ⟨r20, c21, H⟩ := H
    have m22 := s_X1_addWord (Z := Z) r14 (kR r14 v0 1) v2 n17 c21
    refine x_callV (q := 163) (as := [.int v2]) (rest := []) dX4_readPart_160 rfl kc_RX4_70 kh_X1_addWord (by omega) (Nat.le_of_ble_eq_true rfl) m22 (ci := 1) (by exact ⟨rfl, by decide⟩) (k243 g19 (by decide) n17) ?_
    have n23 : (r20).1 = 243 := m22.1.full n17
    refine x_goto dX4_readPart_163 (q := 181) (by decide) ?_
    cases H
    exact x_end ⟨dX4_readPart_181, rfl, rfl⟩
def fb_X4_readPart (R : KRec) (h : KH) (v0 : Nat) (v1 : Int32) : Option (KH) :=
  if kkind v0 = 4 then if (kR h v0 0) < 999999 then if kkind (kR h v0 0) = 7 then kb (f_X7_wordHere h (kR h v0 0)) fun r4 =>
  if (kI h (kR h v0 0) 3) = (3 : Int32) then
  if (kR h v0 1) < 999999 then kb (f_X7_takeNumber h (kR h v0 0) (0 : Int32) (9999 : Int32)) fun r47 =>
  if kkind (kR h v0 1) = 1 then kb (f_X1_addNumber r47.2 (kR h v0 1) r47.1) fun r52 =>
  some r52 else none else none
  else
  kb (f_X7_isAtSign h (kR h v0 0) (40 : Int32)) fun r8 =>
  if r8 = 0 then
  if r4 = (20 : Int32) then
  f_X4_readPart_b91 R h v0 v1 r4
  else
  if r4 = (21 : Int32) then
  f_X4_readPart_b91 R h v0 v1 r4
  else
  if r4 = (8 : Int32) then
  if (kI h v0 2) = 0 then
  f_X4_readPart_b140 R h v0 r4
  else
  kb (f_X4_opens h v0 v1) fun r16 =>
  if r16.1 = 0 then
  some r16.2
  else
  kb (R 5 r16.2 v0 (v1 + (1 : Int32)) 0) fun r21 =>
  if (kR r21 v0 1) < 999999 then if kkind (kR r21 v0 1) = 1 then kb (f_X1_addWord r21 (kR r21 v0 1) (8 : Int32)) fun r27 =>
  some r27 else none else none
  else
  f_X4_readPart_b140 R h v0 r4
  else
  kb (f_X4_opens h v0 v1) fun r31 =>
  if r31.1 = 0 then
  some r31.2
  else
  kb (R 3 r31.2 v0 (v1 + (1 : Int32)) 0) fun r36 =>
  if (kR r36 v0 0) < 999999 then if kkind (kR r36 v0 0) = 7 then kb (f_X7_takeSign r36 (kR r36 v0 0) (41 : Int32)) fun r42 =>
  some r42 else none else none else none else none else none
set_option maxHeartbeats 4000000 in
set_option maxRecDepth 100000 in
theorem sb0_X4_readPart {Z : Nat → (Nat → Nat) → State → Prop} (R : KRec) (d : Nat) (hR : KRecOK Z R d) (h : KH) (v0 : Nat) (v1 : Int32) {t : KH} (hn : h.1 = 243) (H : fb_X4_readPart R h v0 v1 = some t) : KX Z RX4 cX4_readPart 3 false (d + 21) (KRv cX4_readPart t) 0 [(0, .ref v0), (1, .int v1)] [] h := by
  unfold fb_X4_readPart at H
  refine x_aload_n (q := 1) dX4_readPart_0 rfl rfl ?_
  replace H := kif H; obtain ⟨g1, H⟩ := H
  replace H := kif H; obtain ⟨g2, H⟩ := H
  refine x_getR (q := 4) dX4_readPart_1 rfl kl_RX4_15 rfl (k243 g1 (by decide) hn) g2 ?_
  replace H := kif H; obtain ⟨g3, H⟩ := H
  replace H := kbe H; obtain ⟨r4, c5, H⟩ := H
  have m6 := s_X7_wordHere (Z := Z) h (kR h v0 0) hn c5
  refine x_callV (q := 7) (as := []) (rest := []) dX4_readPart_4 rfl kc_RX4_38 kh_X7_wordHere (by omega) (Nat.le_of_ble_eq_true rfl) m6 (ci := 7) (by exact ⟨rfl, by decide⟩) (k243 g3 (by decide) hn) ?_
  refine x_istore_n (q := 8) (i := 2) (ls2 := [(2, .int r4), (0, .ref v0), (1, .int v1)]) dX4_readPart_7 rfl rfl (by decide) rfl ?_
  refine x_aload_n (q := 9) dX4_readPart_8 rfl rfl ?_
  refine x_getR (q := 12) dX4_readPart_9 rfl kl_RX4_15 rfl (k243 g1 (by decide) hn) g2 ?_
  refine x_getI (q := 15) dX4_readPart_12 rfl kl_RX4_100 (Or.inl rfl) (k243 g3 (by decide) hn) ?_
  refine x_iconst (q := 16) (v := (3 : Int32)) dX4_readPart_15 rfl (by decide) ?_
  replace H := kite H; rcases H with ⟨g7, H⟩ | ⟨g7, H⟩
  · refine x_icmp_ne_f (q := 19) dX4_readPart_16 (t := 40) (by decide) rfl g7 ?_
    refine x_aload_n (q := 20) dX4_readPart_19 rfl rfl ?_
    replace H := kif H; obtain ⟨g46, H⟩ := H
    refine x_getR (q := 23) dX4_readPart_20 rfl kl_RX4_19 rfl (k243 g1 (by decide) hn) g46 ?_
    refine x_aload_n (q := 24) dX4_readPart_23 rfl rfl ?_
    refine x_getR (q := 27) dX4_readPart_24 rfl kl_RX4_15 rfl (k243 g1 (by decide) hn) g2 ?_
    refine x_iconst (q := 28) (v := (0 : Int32)) dX4_readPart_27 rfl (by decide) ?_
    refine x_sipush (q := 31) (v := (9999 : Int32)) dX4_readPart_28 rfl (by decide) ?_
    replace H := kbe H; obtain ⟨r47, c48, H⟩ := H
    have m49 := s_X7_takeNumber (Z := Z) h (kR h v0 0) (0 : Int32) (9999 : Int32) hn c48
    refine x_callV (q := 34) (as := [.int (0 : Int32), .int (9999 : Int32)]) (rest := [.ref (kR h v0 1)]) dX4_readPart_31 rfl kc_RX4_103 kh_X7_takeNumber (by omega) (Nat.le_of_ble_eq_true rfl) m49 (ci := 7) (by exact ⟨rfl, by decide⟩) (k243 g3 (by decide) hn) ?_
    have n50 : (r47.2).1 = 243 := m49.1.full hn
    replace H := kif H; obtain ⟨g51, H⟩ := H
    replace H := kbe H; obtain ⟨r52, c53, H⟩ := H
    have m54 := s_X1_addNumber (Z := Z) r47.2 (kR h v0 1) r47.1 n50 c53
    refine x_callV (q := 37) (as := [.int r47.1]) (rest := []) dX4_readPart_34 rfl kc_RX4_85 kh_X1_addNumber (by omega) (Nat.le_of_ble_eq_true rfl) m54 (ci := 1) (by exact ⟨rfl, by decide⟩) (k243 g51 (by decide) n50) ?_
    have n55 : (r52).1 = 243 := m54.1.full n50
    refine x_goto dX4_readPart_37 (q := 181) (by decide) ?_
    cases H
    exact x_end ⟨dX4_readPart_181, rfl, rfl⟩
  · refine x_icmp_ne_t dX4_readPart_16 (q := 40) (by decide) g7 ?_
    refine x_aload_n (q := 41) dX4_readPart_40 rfl rfl ?_
    refine x_getR (q := 44) dX4_readPart_41 rfl kl_RX4_15 rfl (k243 g1 (by decide) hn) g2 ?_
    refine x_bipush (q := 46) (v := (40 : Int32)) dX4_readPart_44 rfl (by decide) ?_
    replace H := kbe H; obtain ⟨r8, c9, H⟩ := H
    have m10 := s_X7_isAtSign (Z := Z) h (kR h v0 0) (40 : Int32) hn c9
    refine x_callV (q := 49) (as := [.int (40 : Int32)]) (rest := []) dX4_readPart_46 rfl kc_RX4_79 kh_X7_isAtSign (by omega) (Nat.le_of_ble_eq_true rfl) m10 (ci := 7) (by exact ⟨rfl, by decide⟩) (k243 g3 (by decide) hn) ?_
    replace H := kite H; rcases H with ⟨g11, H⟩ | ⟨g11, H⟩
    · refine x_if_eq_t dX4_readPart_49 (q := 79) (by decide) g11 ?_
      refine x_iload_n (q := 80) dX4_readPart_79 rfl rfl ?_
      refine x_bipush (q := 82) (v := (20 : Int32)) dX4_readPart_80 rfl (by decide) ?_
      replace H := kite H; rcases H with ⟨g12, H⟩ | ⟨g12, H⟩
      · refine x_icmp_eq_t dX4_readPart_82 (q := 91) (by decide) g12 ?_
        refine x_sub (ls2 := [(0, .ref v0), (1, .int v1), (2, .int r4)]) [1, 2, 0] rfl ?_
        exact s_X4_readPart_b91 R d hR h v0 v1 r4 hn H
      · refine x_icmp_eq_f (q := 85) dX4_readPart_82 (t := 91) (by decide) rfl g12 ?_
        refine x_iload_n (q := 86) dX4_readPart_85 rfl rfl ?_
        refine x_bipush (q := 88) (v := (21 : Int32)) dX4_readPart_86 rfl (by decide) ?_
        replace H := kite H; rcases H with ⟨g13, H⟩ | ⟨g13, H⟩
        · refine x_icmp_ne_f (q := 91) dX4_readPart_88 (t := 100) (by decide) rfl g13 ?_
          refine x_sub (ls2 := [(0, .ref v0), (1, .int v1), (2, .int r4)]) [1, 2, 0] rfl ?_
          exact s_X4_readPart_b91 R d hR h v0 v1 r4 hn H
        · refine x_icmp_ne_t dX4_readPart_88 (q := 100) (by decide) g13 ?_
          refine x_iload_n (q := 101) dX4_readPart_100 rfl rfl ?_
          refine x_bipush (q := 103) (v := (8 : Int32)) dX4_readPart_101 rfl (by decide) ?_
          replace H := kite H; rcases H with ⟨g14, H⟩ | ⟨g14, H⟩
          · refine x_icmp_ne_f (q := 106) dX4_readPart_103 (t := 140) (by decide) rfl g14 ?_
            refine x_aload_n (q := 107) dX4_readPart_106 rfl rfl ?_
            refine x_getI (q := 110) dX4_readPart_107 rfl kl_RX4_9 (Or.inr rfl) (k243 g1 (by decide) hn) ?_
            replace H := kite H; rcases H with ⟨g15, H⟩ | ⟨g15, H⟩
            · refine x_if_eq_t dX4_readPart_110 (q := 140) (by decide) g15 ?_
              refine x_sub (ls2 := [(0, .ref v0), (2, .int r4)]) [1, 0] rfl ?_
              exact s_X4_readPart_b140 R d hR h v0 r4 hn H
            · refine x_if_eq_f (q := 113) dX4_readPart_110 (t := 140) (by decide) rfl g15 ?_
              refine x_aload_n (q := 114) dX4_readPart_113 rfl rfl ?_
              refine x_iload_n (q := 115) dX4_readPart_114 rfl rfl ?_
              replace H := kbe H; obtain ⟨r16, c17, H⟩ := H
              have m18 := s_X4_opens (Z := Z) h v0 v1 hn c17
              refine x_callV (q := 118) (as := [.int v1]) (rest := []) dX4_readPart_115 rfl kc_RX4_76 kh_X4_opens (by omega) (Nat.le_of_ble_eq_true rfl) m18 (ci := 4) (by exact ⟨rfl, by decide⟩) (k243 g1 (by decide) hn) ?_
              have n19 : (r16.2).1 = 243 := m18.1.full hn
              replace H := kite H; rcases H with ⟨g20, H⟩ | ⟨g20, H⟩
              · refine x_if_eq_t dX4_readPart_118 (q := 181) (by decide) g20 ?_
                cases H
                exact x_end ⟨dX4_readPart_181, rfl, rfl⟩
              · refine x_if_eq_f (q := 121) dX4_readPart_118 (t := 181) (by decide) rfl g20 ?_
                refine x_aload_n (q := 122) dX4_readPart_121 rfl rfl ?_
                refine x_iload_n (q := 123) dX4_readPart_122 rfl rfl ?_
                refine x_iconst (q := 124) (v := (1 : Int32)) dX4_readPart_123 rfl (by decide) ?_
                refine x_iadd (q := 125) dX4_readPart_124 rfl ?_
                replace H := kbe H; obtain ⟨r21, c22, H⟩ := H
                have m23 : KM Z yX4_readPart cX4_readPart 3 none (d + 20) [.ref v0, .int (v1 + (1 : Int32))] r16.2 none r21 := hR 5 r16.2 v0 (v1 + (1 : Int32)) 0 r21 n19 c22
                refine x_callV (q := 128) (as := [.int (v1 + (1 : Int32))]) (rest := []) dX4_readPart_125 rfl kc_RX4_97 kh_X4_readPart (by omega) (Nat.le_of_ble_eq_true rfl) m23 (ci := 4) (by exact ⟨rfl, by decide⟩) (k243 g1 (by decide) n19) ?_
                have n24 : (r21).1 = 243 := m23.1.full n19
                refine x_aload_n (q := 129) dX4_readPart_128 rfl rfl ?_
                replace H := kif H; obtain ⟨g25, H⟩ := H
                refine x_getR (q := 132) dX4_readPart_129 rfl kl_RX4_19 rfl (k243 g1 (by decide) n24) g25 ?_
                refine x_bipush (q := 134) (v := (8 : Int32)) dX4_readPart_132 rfl (by decide) ?_
                replace H := kif H; obtain ⟨g26, H⟩ := H
                replace H := kbe H; obtain ⟨r27, c28, H⟩ := H
                have m29 := s_X1_addWord (Z := Z) r21 (kR r21 v0 1) (8 : Int32) n24 c28
                refine x_callV (q := 137) (as := [.int (8 : Int32)]) (rest := []) dX4_readPart_134 rfl kc_RX4_70 kh_X1_addWord (by omega) (Nat.le_of_ble_eq_true rfl) m29 (ci := 1) (by exact ⟨rfl, by decide⟩) (k243 g26 (by decide) n24) ?_
                have n30 : (r27).1 = 243 := m29.1.full n24
                refine x_goto dX4_readPart_137 (q := 181) (by decide) ?_
                cases H
                exact x_end ⟨dX4_readPart_181, rfl, rfl⟩
          · refine x_icmp_ne_t dX4_readPart_103 (q := 140) (by decide) g14 ?_
            refine x_sub (ls2 := [(0, .ref v0), (2, .int r4)]) [1, 0] rfl ?_
            exact s_X4_readPart_b140 R d hR h v0 r4 hn H
    · refine x_if_eq_f (q := 52) dX4_readPart_49 (t := 79) (by decide) rfl g11 ?_
      refine x_aload_n (q := 53) dX4_readPart_52 rfl rfl ?_
      refine x_iload_n (q := 54) dX4_readPart_53 rfl rfl ?_
      replace H := kbe H; obtain ⟨r31, c32, H⟩ := H
      have m33 := s_X4_opens (Z := Z) h v0 v1 hn c32
      refine x_callV (q := 57) (as := [.int v1]) (rest := []) dX4_readPart_54 rfl kc_RX4_76 kh_X4_opens (by omega) (Nat.le_of_ble_eq_true rfl) m33 (ci := 4) (by exact ⟨rfl, by decide⟩) (k243 g1 (by decide) hn) ?_
      have n34 : (r31.2).1 = 243 := m33.1.full hn
      replace H := kite H; rcases H with ⟨g35, H⟩ | ⟨g35, H⟩
      · refine x_if_eq_t dX4_readPart_57 (q := 181) (by decide) g35 ?_
        cases H
        exact x_end ⟨dX4_readPart_181, rfl, rfl⟩
      · refine x_if_eq_f (q := 60) dX4_readPart_57 (t := 181) (by decide) rfl g35 ?_
        refine x_aload_n (q := 61) dX4_readPart_60 rfl rfl ?_
        refine x_iload_n (q := 62) dX4_readPart_61 rfl rfl ?_
        refine x_iconst (q := 63) (v := (1 : Int32)) dX4_readPart_62 rfl (by decide) ?_
        refine x_iadd (q := 64) dX4_readPart_63 rfl ?_
        replace H := kbe H; obtain ⟨r36, c37, H⟩ := H
        have m38 : KM Z yX4_readSum cX4_readSum 4 none (d + 20) [.ref v0, .int (v1 + (1 : Int32))] r31.2 none r36 := hR 3 r31.2 v0 (v1 + (1 : Int32)) 0 r36 n34 c37
        refine x_callV (q := 67) (as := [.int (v1 + (1 : Int32))]) (rest := []) dX4_readPart_64 rfl kc_RX4_49 kh_X4_readSum (by omega) (Nat.le_of_ble_eq_true rfl) m38 (ci := 4) (by exact ⟨rfl, by decide⟩) (k243 g1 (by decide) n34) ?_
        have n39 : (r36).1 = 243 := m38.1.full n34
        refine x_aload_n (q := 68) dX4_readPart_67 rfl rfl ?_
        replace H := kif H; obtain ⟨g40, H⟩ := H
        refine x_getR (q := 71) dX4_readPart_68 rfl kl_RX4_15 rfl (k243 g1 (by decide) n39) g40 ?_
        refine x_bipush (q := 73) (v := (41 : Int32)) dX4_readPart_71 rfl (by decide) ?_
        replace H := kif H; obtain ⟨g41, H⟩ := H
        replace H := kbe H; obtain ⟨r42, c43, H⟩ := H
        have m44 := s_X7_takeSign (Z := Z) r36 (kR r36 v0 0) (41 : Int32) n39 c43
        refine x_callV (q := 76) (as := [.int (41 : Int32)]) (rest := []) dX4_readPart_73 rfl kc_RX4_82 kh_X7_takeSign (by omega) (Nat.le_of_ble_eq_true rfl) m44 (ci := 7) (by exact ⟨rfl, by decide⟩) (k243 g41 (by decide) n39) ?_
        have n45 : (r42).1 = 243 := m44.1.full n39
        refine x_goto dX4_readPart_76 (q := 181) (by decide) ?_
        cases H
        exact x_end ⟨dX4_readPart_181, rfl, rfl⟩
theorem sb_X4_readPart {Z : Nat → (Nat → Nat) → State → Prop} (R : KRec) (d : Nat) (hR : KRecOK Z R d) (h : KH) (v0 : Nat) (v1 : Int32) {t : KH} (hn : h.1 = 243) (H : fb_X4_readPart R h v0 v1 = some t) : KM Z yX4_readPart cX4_readPart 3 none (d + 21) [.ref v0, .int v1] h none t :=
  kx_v (own := RX4) (ini := false) (by decide +kernel) (by decide +kernel) rfl (Nat.le_of_ble_eq_true rfl) (sb0_X4_readPart R d hR h v0 v1 hn H)
theorem dX4_readPair_0 : decode cX4_readPair 0 = .ok (.aload_n 0, 1) := by decide +kernel
theorem dX4_readPair_1 : decode cX4_readPair 1 = .ok (.getfield 15, 3) := by decide +kernel
theorem dX4_readPair_4 : decode cX4_readPair 4 = .ok (.invokevirtual 42, 3) := by decide +kernel
theorem dX4_readPair_7 : decode cX4_readPair 7 = .ok (.aload_n 0, 1) := by decide +kernel
theorem dX4_readPair_8 : decode cX4_readPair 8 = .ok (.getfield 15, 3) := by decide +kernel
theorem dX4_readPair_11 : decode cX4_readPair 11 = .ok (.bipush 40, 2) := by decide +kernel
theorem dX4_readPair_13 : decode cX4_readPair 13 = .ok (.invokevirtual 79, 3) := by decide +kernel
theorem dX4_readPair_16 : decode cX4_readPair 16 = .ok (.ifCond .ne 21, 3) := by decide +kernel
theorem dX4_readPair_19 : decode cX4_readPair 19 = .ok (.aload_n 0, 1) := by decide +kernel
theorem dX4_readPair_20 : decode cX4_readPair 20 = .ok (.getfield 15, 3) := by decide +kernel
theorem dX4_readPair_23 : decode cX4_readPair 23 = .ok (.iconst 1, 1) := by decide +kernel
theorem dX4_readPair_24 : decode cX4_readPair 24 = .ok (.aload_n 0, 1) := by decide +kernel
theorem dX4_readPair_25 : decode cX4_readPair 25 = .ok (.getfield 15, 3) := by decide +kernel
theorem dX4_readPair_28 : decode cX4_readPair 28 = .ok (.getfield 52, 3) := by decide +kernel
theorem dX4_readPair_31 : decode cX4_readPair 31 = .ok (.invokevirtual 55, 3) := by decide +kernel
theorem dX4_readPair_34 : decode cX4_readPair 34 = .ok (.goto 51, 3) := by decide +kernel
theorem dX4_readPair_37 : decode cX4_readPair 37 = .ok (.aload_n 0, 1) := by decide +kernel
theorem dX4_readPair_38 : decode cX4_readPair 38 = .ok (.iload_n 2, 1) := by decide +kernel
theorem dX4_readPair_39 : decode cX4_readPair 39 = .ok (.invokevirtual 76, 3) := by decide +kernel
theorem dX4_readPair_42 : decode cX4_readPair 42 = .ok (.ifCond .eq 43, 3) := by decide +kernel
theorem dX4_readPair_45 : decode cX4_readPair 45 = .ok (.aload_n 0, 1) := by decide +kernel
theorem dX4_readPair_46 : decode cX4_readPair 46 = .ok (.iload_n 2, 1) := by decide +kernel
theorem dX4_readPair_47 : decode cX4_readPair 47 = .ok (.iconst 1, 1) := by decide +kernel
theorem dX4_readPair_48 : decode cX4_readPair 48 = .ok (.iadd, 1) := by decide +kernel
theorem dX4_readPair_49 : decode cX4_readPair 49 = .ok (.invokevirtual 49, 3) := by decide +kernel
theorem dX4_readPair_52 : decode cX4_readPair 52 = .ok (.aload_n 0, 1) := by decide +kernel
theorem dX4_readPair_53 : decode cX4_readPair 53 = .ok (.getfield 15, 3) := by decide +kernel
theorem dX4_readPair_56 : decode cX4_readPair 56 = .ok (.bipush 44, 2) := by decide +kernel
theorem dX4_readPair_58 : decode cX4_readPair 58 = .ok (.invokevirtual 82, 3) := by decide +kernel
theorem dX4_readPair_61 : decode cX4_readPair 61 = .ok (.aload_n 0, 1) := by decide +kernel
theorem dX4_readPair_62 : decode cX4_readPair 62 = .ok (.iload_n 2, 1) := by decide +kernel
theorem dX4_readPair_63 : decode cX4_readPair 63 = .ok (.iconst 1, 1) := by decide +kernel
theorem dX4_readPair_64 : decode cX4_readPair 64 = .ok (.iadd, 1) := by decide +kernel
theorem dX4_readPair_65 : decode cX4_readPair 65 = .ok (.invokevirtual 49, 3) := by decide +kernel
theorem dX4_readPair_68 : decode cX4_readPair 68 = .ok (.aload_n 0, 1) := by decide +kernel
theorem dX4_readPair_69 : decode cX4_readPair 69 = .ok (.getfield 15, 3) := by decide +kernel
theorem dX4_readPair_72 : decode cX4_readPair 72 = .ok (.bipush 41, 2) := by decide +kernel
theorem dX4_readPair_74 : decode cX4_readPair 74 = .ok (.invokevirtual 82, 3) := by decide +kernel
theorem dX4_readPair_77 : decode cX4_readPair 77 = .ok (.aload_n 0, 1) := by decide +kernel
theorem dX4_readPair_78 : decode cX4_readPair 78 = .ok (.getfield 19, 3) := by decide +kernel
theorem dX4_readPair_81 : decode cX4_readPair 81 = .ok (.iload_n 1, 1) := by decide +kernel
theorem dX4_readPair_82 : decode cX4_readPair 82 = .ok (.invokevirtual 70, 3) := by decide +kernel
theorem dX4_readPair_85 : decode cX4_readPair 85 = .ok (.return_, 1) := by decide +kernel
def fb_X4_readPair (R : KRec) (h : KH) (v0 : Nat) (v1 : Int32) (v2 : Int32) : Option (KH) :=
  if kkind v0 = 4 then if (kR h v0 0) < 999999 then if kkind (kR h v0 0) = 7 then kb (f_X7_next h (kR h v0 0)) fun r4 =>
  if (kR r4 v0 0) < 999999 then if kkind (kR r4 v0 0) = 7 then kb (f_X7_isAtSign r4 (kR r4 v0 0) (40 : Int32)) fun r10 =>
  if r10 = 0 then
  kb (f_X7_stop r4 (kR r4 v0 0) (1 : Int32) (kI r4 (kR r4 v0 0) 4)) fun r45 =>
  some r45
  else
  kb (f_X4_opens r4 v0 v2) fun r14 =>
  if r14.1 = 0 then
  some r14.2
  else
  kb (R 3 r14.2 v0 (v2 + (1 : Int32)) 0) fun r19 =>
  if (kR r19 v0 0) < 999999 then if kkind (kR r19 v0 0) = 7 then kb (f_X7_takeSign r19 (kR r19 v0 0) (44 : Int32)) fun r25 =>
  kb (R 3 r25 v0 (v2 + (1 : Int32)) 0) fun r29 =>
  if (kR r29 v0 0) < 999999 then if kkind (kR r29 v0 0) = 7 then kb (f_X7_takeSign r29 (kR r29 v0 0) (41 : Int32)) fun r35 =>
  if (kR r35 v0 1) < 999999 then if kkind (kR r35 v0 1) = 1 then kb (f_X1_addWord r35 (kR r35 v0 1) v1) fun r41 =>
  some r41 else none else none else none else none else none else none else none else none else none else none else none
set_option maxHeartbeats 4000000 in
set_option maxRecDepth 100000 in
theorem sb0_X4_readPair {Z : Nat → (Nat → Nat) → State → Prop} (R : KRec) (d : Nat) (hR : KRecOK Z R d) (h : KH) (v0 : Nat) (v1 : Int32) (v2 : Int32) {t : KH} (hn : h.1 = 243) (H : fb_X4_readPair R h v0 v1 v2 = some t) : KX Z RX4 cX4_readPair 3 false (d + 21) (KRv cX4_readPair t) 0 [(0, .ref v0), (1, .int v1), (2, .int v2)] [] h := by
  unfold fb_X4_readPair at H
  refine x_aload_n (q := 1) dX4_readPair_0 rfl rfl ?_
  replace H := kif H; obtain ⟨g1, H⟩ := H
  replace H := kif H; obtain ⟨g2, H⟩ := H
  refine x_getR (q := 4) dX4_readPair_1 rfl kl_RX4_15 rfl (k243 g1 (by decide) hn) g2 ?_
  replace H := kif H; obtain ⟨g3, H⟩ := H
  replace H := kbe H; obtain ⟨r4, c5, H⟩ := H
  have m6 := s_X7_next (Z := Z) h (kR h v0 0) hn c5
  refine x_callV (q := 7) (as := []) (rest := []) dX4_readPair_4 rfl kc_RX4_42 kh_X7_next (by omega) (Nat.le_of_ble_eq_true rfl) m6 (ci := 7) (by exact ⟨rfl, by decide⟩) (k243 g3 (by decide) hn) ?_
  have n7 : (r4).1 = 243 := m6.1.full hn
  refine x_aload_n (q := 8) dX4_readPair_7 rfl rfl ?_
  replace H := kif H; obtain ⟨g8, H⟩ := H
  refine x_getR (q := 11) dX4_readPair_8 rfl kl_RX4_15 rfl (k243 g1 (by decide) n7) g8 ?_
  refine x_bipush (q := 13) (v := (40 : Int32)) dX4_readPair_11 rfl (by decide) ?_
  replace H := kif H; obtain ⟨g9, H⟩ := H
  replace H := kbe H; obtain ⟨r10, c11, H⟩ := H
  have m12 := s_X7_isAtSign (Z := Z) r4 (kR r4 v0 0) (40 : Int32) n7 c11
  refine x_callV (q := 16) (as := [.int (40 : Int32)]) (rest := []) dX4_readPair_13 rfl kc_RX4_79 kh_X7_isAtSign (by omega) (Nat.le_of_ble_eq_true rfl) m12 (ci := 7) (by exact ⟨rfl, by decide⟩) (k243 g9 (by decide) n7) ?_
  replace H := kite H; rcases H with ⟨g13, H⟩ | ⟨g13, H⟩
  · refine x_if_ne_f (q := 19) dX4_readPair_16 (t := 37) (by decide) rfl g13 ?_
    refine x_aload_n (q := 20) dX4_readPair_19 rfl rfl ?_
    refine x_getR (q := 23) dX4_readPair_20 rfl kl_RX4_15 rfl (k243 g1 (by decide) n7) g8 ?_
    refine x_iconst (q := 24) (v := (1 : Int32)) dX4_readPair_23 rfl (by decide) ?_
    refine x_aload_n (q := 25) dX4_readPair_24 rfl rfl ?_
    refine x_getR (q := 28) dX4_readPair_25 rfl kl_RX4_15 rfl (k243 g1 (by decide) n7) g8 ?_
    refine x_getI (q := 31) dX4_readPair_28 rfl kl_RX4_52 (Or.inl rfl) (k243 g9 (by decide) n7) ?_
    replace H := kbe H; obtain ⟨r45, c46, H⟩ := H
    have m47 := s_X7_stop (Z := Z) r4 (kR r4 v0 0) (1 : Int32) (kI r4 (kR r4 v0 0) 4) n7 c46
    refine x_callV (q := 34) (as := [.int (1 : Int32), .int (kI r4 (kR r4 v0 0) 4)]) (rest := []) dX4_readPair_31 rfl kc_RX4_55 kh_X7_stop (by omega) (Nat.le_of_ble_eq_true rfl) m47 (ci := 7) (by exact ⟨rfl, by decide⟩) (k243 g9 (by decide) n7) ?_
    have n48 : (r45).1 = 243 := m47.1.full n7
    refine x_goto dX4_readPair_34 (q := 85) (by decide) ?_
    cases H
    exact x_end ⟨dX4_readPair_85, rfl, rfl⟩
  · refine x_if_ne_t dX4_readPair_16 (q := 37) (by decide) g13 ?_
    refine x_aload_n (q := 38) dX4_readPair_37 rfl rfl ?_
    refine x_iload_n (q := 39) dX4_readPair_38 rfl rfl ?_
    replace H := kbe H; obtain ⟨r14, c15, H⟩ := H
    have m16 := s_X4_opens (Z := Z) r4 v0 v2 n7 c15
    refine x_callV (q := 42) (as := [.int v2]) (rest := []) dX4_readPair_39 rfl kc_RX4_76 kh_X4_opens (by omega) (Nat.le_of_ble_eq_true rfl) m16 (ci := 4) (by exact ⟨rfl, by decide⟩) (k243 g1 (by decide) n7) ?_
    have n17 : (r14.2).1 = 243 := m16.1.full n7
    replace H := kite H; rcases H with ⟨g18, H⟩ | ⟨g18, H⟩
    · refine x_if_eq_t dX4_readPair_42 (q := 85) (by decide) g18 ?_
      cases H
      exact x_end ⟨dX4_readPair_85, rfl, rfl⟩
    · refine x_if_eq_f (q := 45) dX4_readPair_42 (t := 85) (by decide) rfl g18 ?_
      refine x_aload_n (q := 46) dX4_readPair_45 rfl rfl ?_
      refine x_iload_n (q := 47) dX4_readPair_46 rfl rfl ?_
      refine x_iconst (q := 48) (v := (1 : Int32)) dX4_readPair_47 rfl (by decide) ?_
      refine x_iadd (q := 49) dX4_readPair_48 rfl ?_
      replace H := kbe H; obtain ⟨r19, c20, H⟩ := H
      have m21 : KM Z yX4_readSum cX4_readSum 4 none (d + 20) [.ref v0, .int (v2 + (1 : Int32))] r14.2 none r19 := hR 3 r14.2 v0 (v2 + (1 : Int32)) 0 r19 n17 c20
      refine x_callV (q := 52) (as := [.int (v2 + (1 : Int32))]) (rest := []) dX4_readPair_49 rfl kc_RX4_49 kh_X4_readSum (by omega) (Nat.le_of_ble_eq_true rfl) m21 (ci := 4) (by exact ⟨rfl, by decide⟩) (k243 g1 (by decide) n17) ?_
      have n22 : (r19).1 = 243 := m21.1.full n17
      refine x_aload_n (q := 53) dX4_readPair_52 rfl rfl ?_
      replace H := kif H; obtain ⟨g23, H⟩ := H
      refine x_getR (q := 56) dX4_readPair_53 rfl kl_RX4_15 rfl (k243 g1 (by decide) n22) g23 ?_
      refine x_bipush (q := 58) (v := (44 : Int32)) dX4_readPair_56 rfl (by decide) ?_
      replace H := kif H; obtain ⟨g24, H⟩ := H
      replace H := kbe H; obtain ⟨r25, c26, H⟩ := H
      have m27 := s_X7_takeSign (Z := Z) r19 (kR r19 v0 0) (44 : Int32) n22 c26
      refine x_callV (q := 61) (as := [.int (44 : Int32)]) (rest := []) dX4_readPair_58 rfl kc_RX4_82 kh_X7_takeSign (by omega) (Nat.le_of_ble_eq_true rfl) m27 (ci := 7) (by exact ⟨rfl, by decide⟩) (k243 g24 (by decide) n22) ?_
      have n28 : (r25).1 = 243 := m27.1.full n22
      refine x_aload_n (q := 62) dX4_readPair_61 rfl rfl ?_
      refine x_iload_n (q := 63) dX4_readPair_62 rfl rfl ?_
      refine x_iconst (q := 64) (v := (1 : Int32)) dX4_readPair_63 rfl (by decide) ?_
      refine x_iadd (q := 65) dX4_readPair_64 rfl ?_
      replace H := kbe H; obtain ⟨r29, c30, H⟩ := H
      have m31 : KM Z yX4_readSum cX4_readSum 4 none (d + 20) [.ref v0, .int (v2 + (1 : Int32))] r25 none r29 := hR 3 r25 v0 (v2 + (1 : Int32)) 0 r29 n28 c30
      refine x_callV (q := 68) (as := [.int (v2 + (1 : Int32))]) (rest := []) dX4_readPair_65 rfl kc_RX4_49 kh_X4_readSum (by omega) (Nat.le_of_ble_eq_true rfl) m31 (ci := 4) (by exact ⟨rfl, by decide⟩) (k243 g1 (by decide) n28) ?_
      have n32 : (r29).1 = 243 := m31.1.full n28
      refine x_aload_n (q := 69) dX4_readPair_68 rfl rfl ?_
      replace H := kif H; obtain ⟨g33, H⟩ := H
      refine x_getR (q := 72) dX4_readPair_69 rfl kl_RX4_15 rfl (k243 g1 (by decide) n32) g33 ?_
      refine x_bipush (q := 74) (v := (41 : Int32)) dX4_readPair_72 rfl (by decide) ?_
      replace H := kif H; obtain ⟨g34, H⟩ := H
      replace H := kbe H; obtain ⟨r35, c36, H⟩ := H
      have m37 := s_X7_takeSign (Z := Z) r29 (kR r29 v0 0) (41 : Int32) n32 c36
      refine x_callV (q := 77) (as := [.int (41 : Int32)]) (rest := []) dX4_readPair_74 rfl kc_RX4_82 kh_X7_takeSign (by omega) (Nat.le_of_ble_eq_true rfl) m37 (ci := 7) (by exact ⟨rfl, by decide⟩) (k243 g34 (by decide) n32) ?_
      have n38 : (r35).1 = 243 := m37.1.full n32
      refine x_aload_n (q := 78) dX4_readPair_77 rfl rfl ?_
      replace H := kif H; obtain ⟨g39, H⟩ := H
      refine x_getR (q := 81) dX4_readPair_78 rfl kl_RX4_19 rfl (k243 g1 (by decide) n38) g39 ?_
      refine x_iload_n (q := 82) dX4_readPair_81 rfl rfl ?_
      replace H := kif H; obtain ⟨g40, H⟩ := H
      replace H := kbe H; obtain ⟨r41, c42, H⟩ := H
      have m43 := s_X1_addWord (Z := Z) r35 (kR r35 v0 1) v1 n38 c42
      refine x_callV (q := 85) (as := [.int v1]) (rest := []) dX4_readPair_82 rfl kc_RX4_70 kh_X1_addWord (by omega) (Nat.le_of_ble_eq_true rfl) m43 (ci := 1) (by exact ⟨rfl, by decide⟩) (k243 g40 (by decide) n38) ?_
      have n44 : (r41).1 = 243 := m43.1.full n38
      cases H
      exact x_end ⟨dX4_readPair_85, rfl, rfl⟩
theorem sb_X4_readPair {Z : Nat → (Nat → Nat) → State → Prop} (R : KRec) (d : Nat) (hR : KRecOK Z R d) (h : KH) (v0 : Nat) (v1 : Int32) (v2 : Int32) {t : KH} (hn : h.1 = 243) (H : fb_X4_readPair R h v0 v1 v2 = some t) : KM Z yX4_readPair cX4_readPair 3 none (d + 21) [.ref v0, .int v1, .int v2] h none t :=
  kx_v (own := RX4) (ini := false) (by decide +kernel) (by decide +kernel) rfl (Nat.le_of_ble_eq_true rfl) (sb0_X4_readPair R d hR h v0 v1 v2 hn H)
def f_X4_rec : Nat → KRec
  | 0, _, _, _, _, _ => none
  | n + 1, tag, h, v0, v1, v2 => match tag with
    | 0 => fb_X4_readTest (f_X4_rec n) h v0 v1
    | 1 => fb_X4_readBoth (f_X4_rec n) h v0 v1
    | 2 => fb_X4_readFact (f_X4_rec n) h v0 v1
    | 3 => fb_X4_readSum (f_X4_rec n) h v0 v1
    | 4 => fb_X4_readProduct (f_X4_rec n) h v0 v1
    | 5 => fb_X4_readPart (f_X4_rec n) h v0 v1
    | _ => fb_X4_readPair (f_X4_rec n) h v0 v1 v2
theorem s_X4_rec {Z : Nat → (Nat → Nat) → State → Prop} : ∀ n : Nat, KRecOK Z (f_X4_rec n) n := by
  intro n
  induction n with
  | zero => intro tag h v0 v1 v2 t _ H; unfold f_X4_rec at H; cases H
  | succ n ih =>
    intro tag h v0 v1 v2 t hn H
    unfold f_X4_rec at H
    rw [show n + 1 + 20 = n + 21 from rfl]
    unfold KRecM
    split at H
    · exact sb_X4_readTest (f_X4_rec n) n ih h v0 v1 hn H
    · exact sb_X4_readBoth (f_X4_rec n) n ih h v0 v1 hn H
    · exact sb_X4_readFact (f_X4_rec n) n ih h v0 v1 hn H
    · exact sb_X4_readSum (f_X4_rec n) n ih h v0 v1 hn H
    · exact sb_X4_readProduct (f_X4_rec n) n ih h v0 v1 hn H
    · exact sb_X4_readPart (f_X4_rec n) n ih h v0 v1 hn H
    · exact sb_X4_readPair (f_X4_rec n) n ih h v0 v1 v2 hn H
def f_X4_readTest (h : KH) (v0 : Nat) (v1 : Int32) : Option (KH) := f_X4_rec 200 0 h v0 v1 0
theorem s_X4_readTest {Z : Nat → (Nat → Nat) → State → Prop} (h : KH) (v0 : Nat) (v1 : Int32) {t : KH} (hn : h.1 = 243) (H : f_X4_readTest h v0 v1 = some t) : KM Z yX4_readTest cX4_readTest 3 none 220 [.ref v0, .int v1] h none t := s_X4_rec 200 0 h v0 v1 0 t hn H
def f_X4_readSum (h : KH) (v0 : Nat) (v1 : Int32) : Option (KH) := f_X4_rec 200 3 h v0 v1 0
theorem s_X4_readSum {Z : Nat → (Nat → Nat) → State → Prop} (h : KH) (v0 : Nat) (v1 : Int32) {t : KH} (hn : h.1 = 243) (H : f_X4_readSum h v0 v1 = some t) : KM Z yX4_readSum cX4_readSum 4 none 220 [.ref v0, .int v1] h none t := s_X4_rec 200 3 h v0 v1 0 t hn H
