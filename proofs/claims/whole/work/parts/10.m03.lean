-- methods as functions, and that the machine does as they say (by wip/whole/gen_all.py): X6_begin, X10_total, X10_rightOf, X11_millionths, X10_share, X10_meritOf, X8_heardBits, X10_isSure, X6_setValues, X6_take, X7_begin, X7_goesOn, X7_isAtSign, X7_takeSign, X8_forgetCase, X8_clear, X8_lookedCount, X8_hearOnceMore, X9_addNumber, X9_pairAt, J7_fill_d0a16
theorem dX6_begin_0 : decode cX6_begin 0 = .ok (.aload_n 0, 1) := by decide +kernel
theorem dX6_begin_1 : decode cX6_begin 1 = .ok (.iload_n 1, 1) := by decide +kernel
theorem dX6_begin_2 : decode cX6_begin 2 = .ok (.putfield 22, 3) := by decide +kernel
theorem dX6_begin_5 : decode cX6_begin 5 = .ok (.aload_n 0, 1) := by decide +kernel
theorem dX6_begin_6 : decode cX6_begin 6 = .ok (.iconst 1, 1) := by decide +kernel
theorem dX6_begin_7 : decode cX6_begin 7 = .ok (.putfield 30, 3) := by decide +kernel
theorem dX6_begin_10 : decode cX6_begin 10 = .ok (.aload_n 0, 1) := by decide +kernel
theorem dX6_begin_11 : decode cX6_begin 11 = .ok (.iload_n 1, 1) := by decide +kernel
theorem dX6_begin_12 : decode cX6_begin 12 = .ok (.bipush 9, 2) := by decide +kernel
theorem dX6_begin_14 : decode cX6_begin 14 = .ok (.if_icmp .eq 9, 3) := by decide +kernel
theorem dX6_begin_17 : decode cX6_begin 17 = .ok (.iload_n 1, 1) := by decide +kernel
theorem dX6_begin_18 : decode cX6_begin 18 = .ok (.bipush 22, 2) := by decide +kernel
theorem dX6_begin_20 : decode cX6_begin 20 = .ok (.if_icmp .ne 9, 3) := by decide +kernel
theorem dX6_begin_23 : decode cX6_begin 23 = .ok (.ldc2_w 34, 3) := by decide +kernel
theorem dX6_begin_26 : decode cX6_begin 26 = .ok (.goto 4, 3) := by decide +kernel
theorem dX6_begin_29 : decode cX6_begin 29 = .ok (.lconst 0, 1) := by decide +kernel
theorem dX6_begin_30 : decode cX6_begin 30 = .ok (.putfield 26, 3) := by decide +kernel
theorem dX6_begin_33 : decode cX6_begin 33 = .ok (.return_, 1) := by decide +kernel
theorem kl_RX6_22 : KLk RX6 22 6 2 := ⟨RX6, TX6, 5, rfl, by decide, Or.inl (kwm 195 (by decide +kernel) (by decide +kernel))⟩
theorem kl_RX6_30 : KLk RX6 30 6 4 := ⟨RX6, TX6, 5, rfl, by decide, Or.inl (kwm 198 (by decide +kernel) (by decide +kernel))⟩
theorem kk_RX6_34 : Jvm.Cond.constantLong RX6 34 (-1 : Int64) ∈ ktG := kwm 1138 (by decide +kernel) (by decide +kernel)
theorem kl_RX6_26 : KLk RX6 26 6 3 := ⟨RX6, TX6, 5, rfl, by decide, Or.inl (kwm 196 (by decide +kernel) (by decide +kernel))⟩
def f_X6_begin_b30 (h : KH) (w0 : Nat) (w1 : Int64) : Option (KH) :=
  if kkind w0 = 6 then kl (ksL h w0 3 w1) fun h2 =>
  some h2 else none
set_option maxHeartbeats 4000000 in
set_option maxRecDepth 100000 in
theorem s_X6_begin_b30 {Z : Nat → (Nat → Nat) → State → Prop} (h : KH) (w0 : Nat) (w1 : Int64) {t : KH} (hn : h.1 = 243) (H : f_X6_begin_b30 h w0 w1 = some t) : KX Z RX6 cX6_begin 2 false 1 (KRv cX6_begin t) 30 [] [.long w1, .ref w0] h := by
  unfold f_X6_begin_b30 at H
  replace H := kif H; obtain ⟨g1, H⟩ := H
  replace H := kle H; obtain ⟨h2, q3, H⟩ := H
  refine x_putL (q := 33) dX6_begin_30 rfl kl_RX6_26 (Or.inl rfl) rfl (k243 g1 (by decide) hn) ?_
  refine x_nmH q3 ?_
  have n4 : h2.1 = 243 := by rw [q3]; exact hn
  cases H
  exact x_end ⟨dX6_begin_33, rfl, rfl⟩
def f_X6_begin_b23 (h : KH) (w0 : Nat) : Option (KH) :=
  f_X6_begin_b30 h w0 (-1 : Int64)
set_option maxHeartbeats 4000000 in
set_option maxRecDepth 100000 in
theorem s_X6_begin_b23 {Z : Nat → (Nat → Nat) → State → Prop} (h : KH) (w0 : Nat) {t : KH} (hn : h.1 = 243) (H : f_X6_begin_b23 h w0 = some t) : KX Z RX6 cX6_begin 2 false 1 (KRv cX6_begin t) 23 [] [.ref w0] h := by
  unfold f_X6_begin_b23 at H
  refine x_ldc2 (q := 26) (v := (-1 : Int64)) dX6_begin_23 rfl kk_RX6_34 ?_
  refine x_goto dX6_begin_26 (q := 30) (by decide) ?_
  refine x_sub (ls2 := []) [] rfl ?_
  exact s_X6_begin_b30 h w0 (-1 : Int64) hn H
def f_X6_begin (h : KH) (v0 : Nat) (v1 : Int32) : Option (KH) :=
  if kkind v0 = 6 then kl (ksI h v0 2 v1) fun h2 =>
  kl (ksI h2 v0 4 (1 : Int32)) fun h5 =>
  if v1 = (9 : Int32) then
  f_X6_begin_b23 h5 v0
  else
  if v1 = (22 : Int32) then
  f_X6_begin_b23 h5 v0
  else
  f_X6_begin_b30 h5 v0 (0 : Int64) else none
set_option maxHeartbeats 4000000 in
set_option maxRecDepth 100000 in
theorem s0_X6_begin {Z : Nat → (Nat → Nat) → State → Prop} (h : KH) (v0 : Nat) (v1 : Int32) {t : KH} (hn : h.1 = 243) (H : f_X6_begin h v0 v1 = some t) : KX Z RX6 cX6_begin 2 false 1 (KRv cX6_begin t) 0 [(0, .ref v0), (1, .int v1)] [] h := by
  unfold f_X6_begin at H
  refine x_aload_n (q := 1) dX6_begin_0 rfl rfl ?_
  refine x_iload_n (q := 2) dX6_begin_1 rfl rfl ?_
  replace H := kif H; obtain ⟨g1, H⟩ := H
  replace H := kle H; obtain ⟨h2, q3, H⟩ := H
  refine x_putI (q := 5) dX6_begin_2 rfl kl_RX6_22 (Or.inl rfl) rfl (k243 g1 (by decide) hn) ?_
  refine x_nmH q3 ?_
  have n4 : h2.1 = 243 := by rw [q3]; exact hn
  refine x_aload_n (q := 6) dX6_begin_5 rfl rfl ?_
  refine x_iconst (q := 7) (v := (1 : Int32)) dX6_begin_6 rfl (by decide) ?_
  replace H := kle H; obtain ⟨h5, q6, H⟩ := H
  refine x_putZ (q := 10) dX6_begin_7 rfl kl_RX6_30 (Or.inl rfl) rfl (by decide) (k243 g1 (by decide) n4) ?_
  refine x_nmH q6 ?_
  have n7 : h5.1 = 243 := by rw [q6]; exact n4
  refine x_aload_n (q := 11) dX6_begin_10 rfl rfl ?_
  refine x_iload_n (q := 12) dX6_begin_11 rfl rfl ?_
  refine x_bipush (q := 14) (v := (9 : Int32)) dX6_begin_12 rfl (by decide) ?_
  replace H := kite H; rcases H with ⟨g8, H⟩ | ⟨g8, H⟩
  · refine x_icmp_eq_t dX6_begin_14 (q := 23) (by decide) g8 ?_
    refine x_sub (ls2 := []) [] rfl ?_
    exact s_X6_begin_b23 h5 v0 n7 H
  · refine x_icmp_eq_f (q := 17) dX6_begin_14 (t := 23) (by decide) rfl g8 ?_
    refine x_iload_n (q := 18) dX6_begin_17 rfl rfl ?_
    refine x_bipush (q := 20) (v := (22 : Int32)) dX6_begin_18 rfl (by decide) ?_
    replace H := kite H; rcases H with ⟨g9, H⟩ | ⟨g9, H⟩
    · refine x_icmp_ne_f (q := 23) dX6_begin_20 (t := 29) (by decide) rfl g9 ?_
      refine x_sub (ls2 := []) [] rfl ?_
      exact s_X6_begin_b23 h5 v0 n7 H
    · refine x_icmp_ne_t dX6_begin_20 (q := 29) (by decide) g9 ?_
      refine x_lconst (q := 30) (v := (0 : Int64)) dX6_begin_29 rfl (by decide) ?_
      refine x_sub (ls2 := []) [] rfl ?_
      exact s_X6_begin_b30 h5 v0 (0 : Int64) n7 H
theorem s_X6_begin {Z : Nat → (Nat → Nat) → State → Prop} (h : KH) (v0 : Nat) (v1 : Int32) {t : KH} (hn : h.1 = 243) (H : f_X6_begin h v0 v1 = some t) : KM Z yX6_begin cX6_begin 2 none 1 [.ref v0, .int v1] h none t :=
  kx_v (own := RX6) (ini := false) (by decide +kernel) (by decide +kernel) rfl (Nat.le_of_ble_eq_true rfl) (s0_X6_begin h v0 v1 hn H)
theorem dX10_total_0 : decode cX10_total 0 = .ok (.aload_n 0, 1) := by decide +kernel
theorem dX10_total_1 : decode cX10_total 1 = .ok (.getfield 26, 3) := by decide +kernel
theorem dX10_total_4 : decode cX10_total 4 = .ok (.iconst 0, 1) := by decide +kernel
theorem dX10_total_5 : decode cX10_total 5 = .ok (.laload, 1) := by decide +kernel
theorem dX10_total_6 : decode cX10_total 6 = .ok (.aload_n 0, 1) := by decide +kernel
theorem dX10_total_7 : decode cX10_total 7 = .ok (.getfield 26, 3) := by decide +kernel
theorem dX10_total_10 : decode cX10_total 10 = .ok (.iconst 1, 1) := by decide +kernel
theorem dX10_total_11 : decode cX10_total 11 = .ok (.laload, 1) := by decide +kernel
theorem dX10_total_12 : decode cX10_total 12 = .ok (.ladd, 1) := by decide +kernel
theorem dX10_total_13 : decode cX10_total 13 = .ok (.lreturn, 1) := by decide +kernel
theorem kl_RX10_26 : KLk RX10 26 10 4 := ⟨RX10, TX10, 8, rfl, by decide, Or.inl (kwm 506 (by decide +kernel) (by decide +kernel))⟩
def f_X10_total (h : KH) (v0 : Nat) : Option (Int64) :=
  if kkind v0 = 10 then if (kR h v0 4) < 999999 then if kkind (kR h v0 4) = 21 then if klen (kR h v0 4) ≤ 0 then none else if klen (kR h v0 4) ≤ 1 then none else some ((kL h (kR h v0 4) 0) + (kL h (kR h v0 4) 1)) else none else none else none
set_option maxHeartbeats 4000000 in
set_option maxRecDepth 100000 in
theorem s0_X10_total {Z : Nat → (Nat → Nat) → State → Prop} (h : KH) (v0 : Nat) {t : Int64} (hn : h.1 = 243) (H : f_X10_total h v0 = some t) : KX Z RX10 cX10_total 1 false 1 (KRl cX10_total t h) 0 [(0, .ref v0)] [] h := by
  unfold f_X10_total at H
  refine x_aload_n (q := 1) dX10_total_0 rfl rfl ?_
  replace H := kif H; obtain ⟨g1, H⟩ := H
  replace H := kif H; obtain ⟨g2, H⟩ := H
  refine x_getR (q := 4) dX10_total_1 rfl kl_RX10_26 rfl (k243 g1 (by decide) hn) g2 ?_
  refine x_iconst (q := 5) (v := (0 : Int32)) dX10_total_4 rfl (by decide) ?_
  replace H := kif H; obtain ⟨g3, H⟩ := H
  replace H := kifn H; obtain ⟨g4, H⟩ := H
  refine x_lald (q := 6) dX10_total_5 rfl (k243 g3 (by decide) hn) (fun z => z.elim (by decide) g4) ?_
  refine x_aload_n (q := 7) dX10_total_6 rfl rfl ?_
  refine x_getR (q := 10) dX10_total_7 rfl kl_RX10_26 rfl (k243 g1 (by decide) hn) g2 ?_
  refine x_iconst (q := 11) (v := (1 : Int32)) dX10_total_10 rfl (by decide) ?_
  replace H := kifn H; obtain ⟨g5, H⟩ := H
  refine x_lald (q := 12) dX10_total_11 rfl (k243 g3 (by decide) hn) (fun z => z.elim (by decide) g5) ?_
  refine x_ladd (q := 13) dX10_total_12 rfl ?_
  cases H
  exact x_end ⟨dX10_total_13, rfl, rfl⟩
theorem s_X10_total {Z : Nat → (Nat → Nat) → State → Prop} (h : KH) (v0 : Nat) {t : Int64} (hn : h.1 = 243) (H : f_X10_total h v0 = some t) : KM Z yX10_total cX10_total 1 (some .long) 1 [.ref v0] h (some (.long t)) h :=
  kx_l (own := RX10) (ini := false) (by decide +kernel) (by decide +kernel) rfl (Nat.le_of_ble_eq_true rfl) (s0_X10_total h v0 hn H)
theorem dX10_rightOf_0 : decode cX10_rightOf 0 = .ok (.iload_n 1, 1) := by decide +kernel
theorem dX10_rightOf_1 : decode cX10_rightOf 1 = .ok (.bipush 63, 2) := by decide +kernel
theorem dX10_rightOf_3 : decode cX10_rightOf 3 = .ok (.iand, 1) := by decide +kernel
theorem dX10_rightOf_4 : decode cX10_rightOf 4 = .ok (.bipush 6, 2) := by decide +kernel
theorem dX10_rightOf_6 : decode cX10_rightOf 6 = .ok (.ishl, 1) := by decide +kernel
theorem dX10_rightOf_7 : decode cX10_rightOf 7 = .ok (.iload_n 1, 1) := by decide +kernel
theorem dX10_rightOf_8 : decode cX10_rightOf 8 = .ok (.bipush 63, 2) := by decide +kernel
theorem dX10_rightOf_10 : decode cX10_rightOf 10 = .ok (.iand, 1) := by decide +kernel
theorem dX10_rightOf_11 : decode cX10_rightOf 11 = .ok (.ior, 1) := by decide +kernel
theorem dX10_rightOf_12 : decode cX10_rightOf 12 = .ok (.istore_n 2, 1) := by decide +kernel
theorem dX10_rightOf_13 : decode cX10_rightOf 13 = .ok (.iconst 0, 1) := by decide +kernel
theorem dX10_rightOf_14 : decode cX10_rightOf 14 = .ok (.istore_n 3, 1) := by decide +kernel
theorem dX10_rightOf_15 : decode cX10_rightOf 15 = .ok (.iload_n 3, 1) := by decide +kernel
theorem dX10_rightOf_16 : decode cX10_rightOf 16 = .ok (.aload_n 0, 1) := by decide +kernel
theorem dX10_rightOf_17 : decode cX10_rightOf 17 = .ok (.getfield 22, 3) := by decide +kernel
theorem dX10_rightOf_20 : decode cX10_rightOf 20 = .ok (.if_icmp .ge 75, 3) := by decide +kernel
theorem dX10_rightOf_23 : decode cX10_rightOf 23 = .ok (.aload_n 0, 1) := by decide +kernel
theorem dX10_rightOf_24 : decode cX10_rightOf 24 = .ok (.getfield 19, 3) := by decide +kernel
theorem dX10_rightOf_27 : decode cX10_rightOf 27 = .ok (.iload_n 3, 1) := by decide +kernel
theorem dX10_rightOf_28 : decode cX10_rightOf 28 = .ok (.iaload, 1) := by decide +kernel
theorem dX10_rightOf_29 : decode cX10_rightOf 29 = .ok (.istore 4, 2) := by decide +kernel
theorem dX10_rightOf_31 : decode cX10_rightOf 31 = .ok (.iload 4, 2) := by decide +kernel
theorem dX10_rightOf_33 : decode cX10_rightOf 33 = .ok (.bipush 36, 2) := by decide +kernel
theorem dX10_rightOf_35 : decode cX10_rightOf 35 = .ok (.if_icmp .ge 30, 3) := by decide +kernel
theorem dX10_rightOf_38 : decode cX10_rightOf 38 = .ok (.aload_n 0, 1) := by decide +kernel
theorem dX10_rightOf_39 : decode cX10_rightOf 39 = .ok (.getfield 32, 3) := by decide +kernel
theorem dX10_rightOf_42 : decode cX10_rightOf 42 = .ok (.aload_n 0, 1) := by decide +kernel
theorem dX10_rightOf_43 : decode cX10_rightOf 43 = .ok (.getfield 15, 3) := by decide +kernel
theorem dX10_rightOf_46 : decode cX10_rightOf 46 = .ok (.iload 4, 2) := by decide +kernel
theorem dX10_rightOf_48 : decode cX10_rightOf 48 = .ok (.iaload, 1) := by decide +kernel
theorem dX10_rightOf_49 : decode cX10_rightOf 49 = .ok (.iload_n 2, 1) := by decide +kernel
theorem dX10_rightOf_50 : decode cX10_rightOf 50 = .ok (.iand, 1) := by decide +kernel
theorem dX10_rightOf_51 : decode cX10_rightOf 51 = .ok (.dup2, 1) := by decide +kernel
theorem dX10_rightOf_52 : decode cX10_rightOf 52 = .ok (.laload, 1) := by decide +kernel
theorem dX10_rightOf_53 : decode cX10_rightOf 53 = .ok (.aload_n 0, 1) := by decide +kernel
theorem dX10_rightOf_54 : decode cX10_rightOf 54 = .ok (.getfield 11, 3) := by decide +kernel
theorem dX10_rightOf_57 : decode cX10_rightOf 57 = .ok (.iload 4, 2) := by decide +kernel
theorem dX10_rightOf_59 : decode cX10_rightOf 59 = .ok (.laload, 1) := by decide +kernel
theorem dX10_rightOf_60 : decode cX10_rightOf 60 = .ok (.ladd, 1) := by decide +kernel
theorem dX10_rightOf_61 : decode cX10_rightOf 61 = .ok (.lastore, 1) := by decide +kernel
theorem dX10_rightOf_62 : decode cX10_rightOf 62 = .ok (.goto 27, 3) := by decide +kernel
theorem dX10_rightOf_65 : decode cX10_rightOf 65 = .ok (.aload_n 0, 1) := by decide +kernel
theorem dX10_rightOf_66 : decode cX10_rightOf 66 = .ok (.getfield 35, 3) := by decide +kernel
theorem dX10_rightOf_69 : decode cX10_rightOf 69 = .ok (.aload_n 0, 1) := by decide +kernel
theorem dX10_rightOf_70 : decode cX10_rightOf 70 = .ok (.getfield 15, 3) := by decide +kernel
theorem dX10_rightOf_73 : decode cX10_rightOf 73 = .ok (.iload 4, 2) := by decide +kernel
theorem dX10_rightOf_75 : decode cX10_rightOf 75 = .ok (.iaload, 1) := by decide +kernel
theorem dX10_rightOf_76 : decode cX10_rightOf 76 = .ok (.iload_n 2, 1) := by decide +kernel
theorem dX10_rightOf_77 : decode cX10_rightOf 77 = .ok (.iand, 1) := by decide +kernel
theorem dX10_rightOf_78 : decode cX10_rightOf 78 = .ok (.dup2, 1) := by decide +kernel
theorem dX10_rightOf_79 : decode cX10_rightOf 79 = .ok (.laload, 1) := by decide +kernel
theorem dX10_rightOf_80 : decode cX10_rightOf 80 = .ok (.aload_n 0, 1) := by decide +kernel
theorem dX10_rightOf_81 : decode cX10_rightOf 81 = .ok (.getfield 11, 3) := by decide +kernel
theorem dX10_rightOf_84 : decode cX10_rightOf 84 = .ok (.iload 4, 2) := by decide +kernel
theorem dX10_rightOf_86 : decode cX10_rightOf 86 = .ok (.laload, 1) := by decide +kernel
theorem dX10_rightOf_87 : decode cX10_rightOf 87 = .ok (.ladd, 1) := by decide +kernel
theorem dX10_rightOf_88 : decode cX10_rightOf 88 = .ok (.lastore, 1) := by decide +kernel
theorem dX10_rightOf_89 : decode cX10_rightOf 89 = .ok (.iinc 3 1, 3) := by decide +kernel
theorem dX10_rightOf_92 : decode cX10_rightOf 92 = .ok (.goto (-77), 3) := by decide +kernel
theorem dX10_rightOf_95 : decode cX10_rightOf 95 = .ok (.lconst 0, 1) := by decide +kernel
theorem dX10_rightOf_96 : decode cX10_rightOf 96 = .ok (.lstore_n 3, 1) := by decide +kernel
theorem dX10_rightOf_97 : decode cX10_rightOf 97 = .ok (.iconst 0, 1) := by decide +kernel
theorem dX10_rightOf_98 : decode cX10_rightOf 98 = .ok (.istore 5, 2) := by decide +kernel
theorem dX10_rightOf_100 : decode cX10_rightOf 100 = .ok (.iload 5, 2) := by decide +kernel
theorem dX10_rightOf_102 : decode cX10_rightOf 102 = .ok (.aload_n 0, 1) := by decide +kernel
theorem dX10_rightOf_103 : decode cX10_rightOf 103 = .ok (.getfield 22, 3) := by decide +kernel
theorem dX10_rightOf_106 : decode cX10_rightOf 106 = .ok (.if_icmp .ge 61, 3) := by decide +kernel
theorem dX10_rightOf_109 : decode cX10_rightOf 109 = .ok (.aload_n 0, 1) := by decide +kernel
theorem dX10_rightOf_110 : decode cX10_rightOf 110 = .ok (.getfield 15, 3) := by decide +kernel
theorem dX10_rightOf_113 : decode cX10_rightOf 113 = .ok (.aload_n 0, 1) := by decide +kernel
theorem dX10_rightOf_114 : decode cX10_rightOf 114 = .ok (.getfield 19, 3) := by decide +kernel
theorem dX10_rightOf_117 : decode cX10_rightOf 117 = .ok (.iload 5, 2) := by decide +kernel
theorem dX10_rightOf_119 : decode cX10_rightOf 119 = .ok (.iaload, 1) := by decide +kernel
theorem dX10_rightOf_120 : decode cX10_rightOf 120 = .ok (.iaload, 1) := by decide +kernel
theorem dX10_rightOf_121 : decode cX10_rightOf 121 = .ok (.iload_n 2, 1) := by decide +kernel
theorem dX10_rightOf_122 : decode cX10_rightOf 122 = .ok (.iand, 1) := by decide +kernel
theorem dX10_rightOf_123 : decode cX10_rightOf 123 = .ok (.istore 6, 2) := by decide +kernel
theorem dX10_rightOf_125 : decode cX10_rightOf 125 = .ok (.lload_n 3, 1) := by decide +kernel
theorem dX10_rightOf_126 : decode cX10_rightOf 126 = .ok (.aload_n 0, 1) := by decide +kernel
theorem dX10_rightOf_127 : decode cX10_rightOf 127 = .ok (.getfield 32, 3) := by decide +kernel
theorem dX10_rightOf_130 : decode cX10_rightOf 130 = .ok (.iload 6, 2) := by decide +kernel
theorem dX10_rightOf_132 : decode cX10_rightOf 132 = .ok (.laload, 1) := by decide +kernel
theorem dX10_rightOf_133 : decode cX10_rightOf 133 = .ok (.aload_n 0, 1) := by decide +kernel
theorem dX10_rightOf_134 : decode cX10_rightOf 134 = .ok (.getfield 35, 3) := by decide +kernel
theorem dX10_rightOf_137 : decode cX10_rightOf 137 = .ok (.iload 6, 2) := by decide +kernel
theorem dX10_rightOf_139 : decode cX10_rightOf 139 = .ok (.laload, 1) := by decide +kernel
theorem dX10_rightOf_140 : decode cX10_rightOf 140 = .ok (.invokestatic 100, 3) := by decide +kernel
theorem dX10_rightOf_143 : decode cX10_rightOf 143 = .ok (.ladd, 1) := by decide +kernel
theorem dX10_rightOf_144 : decode cX10_rightOf 144 = .ok (.lstore_n 3, 1) := by decide +kernel
theorem dX10_rightOf_145 : decode cX10_rightOf 145 = .ok (.aload_n 0, 1) := by decide +kernel
theorem dX10_rightOf_146 : decode cX10_rightOf 146 = .ok (.getfield 32, 3) := by decide +kernel
theorem dX10_rightOf_149 : decode cX10_rightOf 149 = .ok (.iload 6, 2) := by decide +kernel
theorem dX10_rightOf_151 : decode cX10_rightOf 151 = .ok (.lconst 0, 1) := by decide +kernel
theorem dX10_rightOf_152 : decode cX10_rightOf 152 = .ok (.lastore, 1) := by decide +kernel
theorem dX10_rightOf_153 : decode cX10_rightOf 153 = .ok (.aload_n 0, 1) := by decide +kernel
theorem dX10_rightOf_154 : decode cX10_rightOf 154 = .ok (.getfield 35, 3) := by decide +kernel
theorem dX10_rightOf_157 : decode cX10_rightOf 157 = .ok (.iload 6, 2) := by decide +kernel
theorem dX10_rightOf_159 : decode cX10_rightOf 159 = .ok (.lconst 0, 1) := by decide +kernel
theorem dX10_rightOf_160 : decode cX10_rightOf 160 = .ok (.lastore, 1) := by decide +kernel
theorem dX10_rightOf_161 : decode cX10_rightOf 161 = .ok (.iinc 5 1, 3) := by decide +kernel
theorem dX10_rightOf_164 : decode cX10_rightOf 164 = .ok (.goto (-64), 3) := by decide +kernel
theorem dX10_rightOf_167 : decode cX10_rightOf 167 = .ok (.lload_n 3, 1) := by decide +kernel
theorem dX10_rightOf_168 : decode cX10_rightOf 168 = .ok (.lreturn, 1) := by decide +kernel
theorem kl_RX10_22 : KLk RX10 22 10 3 := ⟨RX10, TX10, 8, rfl, by decide, Or.inl (kwm 505 (by decide +kernel) (by decide +kernel))⟩
theorem kl_RX10_19 : KLk RX10 19 10 2 := ⟨RX10, TX10, 8, rfl, by decide, Or.inl (kwm 504 (by decide +kernel) (by decide +kernel))⟩
theorem kl_RX10_35 : KLk RX10 35 10 7 := ⟨RX10, TX10, 8, rfl, by decide, Or.inl (kwm 509 (by decide +kernel) (by decide +kernel))⟩
theorem kl_RX10_15 : KLk RX10 15 10 1 := ⟨RX10, TX10, 8, rfl, by decide, Or.inl (kwm 503 (by decide +kernel) (by decide +kernel))⟩
theorem kl_RX10_11 : KLk RX10 11 10 0 := ⟨RX10, TX10, 8, rfl, by decide, Or.inl (kwm 502 (by decide +kernel) (by decide +kernel))⟩
theorem kl_RX10_32 : KLk RX10 32 10 6 := ⟨RX10, TX10, 8, rfl, by decide, Or.inl (kwm 508 (by decide +kernel) (by decide +kernel))⟩
theorem kc_RX10_100 : Cond.methodLink RX10 100 yJ9_max_f86c9 ∈ ktG ∧ Cond.static yJ9_max_f86c9 ∈ ktG ∧ Cond.initialized yJ9_max_f86c9.cls ∈ ktG ∧ Cond.code yJ9_max_f86c9 cJ9_max_f86c9 4 (some .long) ∈ ktG := ⟨(kwm 973 (by decide +kernel) (by decide +kernel)), (kwm 881 (by decide +kernel) (by decide +kernel)), (kwm 142 (by decide +kernel) (by decide +kernel)), kwm 882 (by decide +kernel) (by decide +kernel)⟩
def E_X10_rightOf_l15 (v0 : Nat) (v2 : Int32) : KH → Nat → List (Nat × Value) → List Value → KH → Prop := fun (e : KH) pc ls st hh => pc = 95 ∧ ls = [(0, .ref v0), (2, .int v2)] ∧ st = [] ∧ e = hh
def B_X10_rightOf_l15 (v0 : Nat) (v2 : Int32) : ((Int32 × KH) ⊕ (KH)) → Nat → List (Nat × Value) → List Value → KH → Prop := Sum.elim (fun (s : Int32 × KH) pc ls st hh => pc = 15 ∧ ls = [(0, .ref v0), (2, .int v2), (3, .int s.1)] ∧ st = [] ∧ hh = s.2) (E_X10_rightOf_l15 v0 v2)
def f_X10_rightOf_b89 (h : KH) (v0 : Nat) (v2 : Int32) (v3 : Int32) : Option ((Int32 × KH) ⊕ (KH)) :=
  kl (v3 + (1 : Int32)) fun x1 =>
  some (.inl (x1, h))
set_option maxHeartbeats 4000000 in
set_option maxRecDepth 100000 in
theorem s_X10_rightOf_b89 {Z : Nat → (Nat → Nat) → State → Prop} (h : KH) (v0 : Nat) (v2 : Int32) (v3 : Int32) {t : (Int32 × KH) ⊕ (KH)} (hn : h.1 = 243) (H : f_X10_rightOf_b89 h v0 v2 v3 = some t) : KX Z RX10 cX10_rightOf 7 false 2 (B_X10_rightOf_l15 v0 v2 t) 89 [(0, .ref v0), (2, .int v2), (3, .int v3)] [] h := by
  unfold f_X10_rightOf_b89 at H
  replace H := kle H; obtain ⟨x1, q2, H⟩ := H
  refine x_iinc (q := 92) (i := 3) (ls2 := [(3, .int x1), (0, .ref v0), (2, .int v2)]) dX10_rightOf_89 rfl rfl (by decide) (by rw [q2]; rfl) ?_
  refine x_goto dX10_rightOf_92 (q := 15) (by decide) ?_
  cases H
  refine x_sub (ls2 := [(0, .ref v0), (2, .int v2), (3, .int x1)]) [1, 2, 0] rfl ?_
  exact x_end (x_cfg rfl)
def f_X10_rightOf_l15 (v0 : Nat) (v2 : Int32) (s : Int32 × KH) : Option ((Int32 × KH) ⊕ (KH)) :=
  if kkind v0 = 10 then if (kI s.2 v0 3) ≤ s.1 then
  some (.inr s.2)
  else
  if (kR s.2 v0 2) < 999999 then if kkind (kR s.2 v0 2) = 20 then if (s.1 < 0 ∨ klen (kR s.2 v0 2) ≤ (s.1).toNatClampNeg) then none else kl (kI s.2 (kR s.2 v0 2) ((s.1).toNatClampNeg)) fun x6 =>
  if (36 : Int32) ≤ x6 then
  if (kR s.2 v0 7) < 999999 then if (kR s.2 v0 1) < 999999 then if kkind (kR s.2 v0 1) = 20 then if (x6 < 0 ∨ klen (kR s.2 v0 1) ≤ (x6).toNatClampNeg) then none else if kkind (kR s.2 v0 7) = 21 then if (((kI s.2 (kR s.2 v0 1) ((x6).toNatClampNeg)) &&& v2) < 0 ∨ klen (kR s.2 v0 7) ≤ (((kI s.2 (kR s.2 v0 1) ((x6).toNatClampNeg)) &&& v2)).toNatClampNeg) then none else if (kR s.2 v0 0) < 999999 then if kkind (kR s.2 v0 0) = 21 then if (x6 < 0 ∨ klen (kR s.2 v0 0) ≤ (x6).toNatClampNeg) then none else kl (ksL s.2 (kR s.2 v0 7) ((((kI s.2 (kR s.2 v0 1) ((x6).toNatClampNeg)) &&& v2)).toNatClampNeg) ((kL s.2 (kR s.2 v0 7) ((((kI s.2 (kR s.2 v0 1) ((x6).toNatClampNeg)) &&& v2)).toNatClampNeg)) + (kL s.2 (kR s.2 v0 0) ((x6).toNatClampNeg)))) fun h18 =>
  f_X10_rightOf_b89 h18 v0 v2 s.1 else none else none else none else none else none else none
  else
  if (kR s.2 v0 6) < 999999 then if (kR s.2 v0 1) < 999999 then if kkind (kR s.2 v0 1) = 20 then if (x6 < 0 ∨ klen (kR s.2 v0 1) ≤ (x6).toNatClampNeg) then none else if kkind (kR s.2 v0 6) = 21 then if (((kI s.2 (kR s.2 v0 1) ((x6).toNatClampNeg)) &&& v2) < 0 ∨ klen (kR s.2 v0 6) ≤ (((kI s.2 (kR s.2 v0 1) ((x6).toNatClampNeg)) &&& v2)).toNatClampNeg) then none else if (kR s.2 v0 0) < 999999 then if kkind (kR s.2 v0 0) = 21 then if (x6 < 0 ∨ klen (kR s.2 v0 0) ≤ (x6).toNatClampNeg) then none else kl (ksL s.2 (kR s.2 v0 6) ((((kI s.2 (kR s.2 v0 1) ((x6).toNatClampNeg)) &&& v2)).toNatClampNeg) ((kL s.2 (kR s.2 v0 6) ((((kI s.2 (kR s.2 v0 1) ((x6).toNatClampNeg)) &&& v2)).toNatClampNeg)) + (kL s.2 (kR s.2 v0 0) ((x6).toNatClampNeg)))) fun h30 =>
  f_X10_rightOf_b89 h30 v0 v2 s.1 else none else none else none else none else none else none else none else none else none
set_option maxHeartbeats 4000000 in
set_option maxRecDepth 100000 in
theorem s_X10_rightOf_l15 {Z : Nat → (Nat → Nat) → State → Prop} (v0 : Nat) (v2 : Int32) (s : Int32 × KH) (t : (Int32 × KH) ⊕ (KH)) (hn : (s.2).1 = 243) (H : f_X10_rightOf_l15 v0 v2 s = some t) : KX Z RX10 cX10_rightOf 7 false 2 (B_X10_rightOf_l15 v0 v2 t) 15 [(0, .ref v0), (2, .int v2), (3, .int s.1)] [] s.2 := by
  unfold f_X10_rightOf_l15 at H
  refine x_iload_n (q := 16) dX10_rightOf_15 rfl rfl ?_
  refine x_aload_n (q := 17) dX10_rightOf_16 rfl rfl ?_
  replace H := kif H; obtain ⟨g1, H⟩ := H
  refine x_getI (q := 20) dX10_rightOf_17 rfl kl_RX10_22 (Or.inl rfl) (k243 g1 (by decide) hn) ?_
  replace H := kite H; rcases H with ⟨g2, H⟩ | ⟨g2, H⟩
  · refine x_icmp_ge_t dX10_rightOf_20 (q := 95) (by decide) g2 ?_
    cases H
    refine x_sub (ls2 := [(0, .ref v0), (2, .int v2)]) [0, 1] rfl ?_
    exact x_end (x_cfg rfl)
  · refine x_icmp_ge_f (q := 23) dX10_rightOf_20 (t := 95) (by decide) rfl g2 ?_
    refine x_aload_n (q := 24) dX10_rightOf_23 rfl rfl ?_
    replace H := kif H; obtain ⟨g3, H⟩ := H
    refine x_getR (q := 27) dX10_rightOf_24 rfl kl_RX10_19 rfl (k243 g1 (by decide) hn) g3 ?_
    refine x_iload_n (q := 28) dX10_rightOf_27 rfl rfl ?_
    replace H := kif H; obtain ⟨g4, H⟩ := H
    replace H := kifn H; obtain ⟨g5, H⟩ := H
    refine x_iald (q := 29) dX10_rightOf_28 rfl (k243 g4 (by decide) hn) g5 ?_
    replace H := kle H; obtain ⟨x6, q7, H⟩ := H
    refine x_nmI q7 ?_
    refine x_istore (q := 31) (i := 4) (ls2 := [(4, .int x6), (0, .ref v0), (2, .int v2), (3, .int s.1)]) dX10_rightOf_29 rfl (by decide) rfl ?_
    refine x_iload (q := 33) dX10_rightOf_31 rfl rfl ?_
    refine x_bipush (q := 35) (v := (36 : Int32)) dX10_rightOf_33 rfl (by decide) ?_
    replace H := kite H; rcases H with ⟨g8, H⟩ | ⟨g8, H⟩
    · refine x_icmp_ge_t dX10_rightOf_35 (q := 65) (by decide) g8 ?_
      refine x_aload_n (q := 66) dX10_rightOf_65 rfl rfl ?_
      replace H := kif H; obtain ⟨g9, H⟩ := H
      refine x_getR (q := 69) dX10_rightOf_66 rfl kl_RX10_35 rfl (k243 g1 (by decide) hn) g9 ?_
      refine x_aload_n (q := 70) dX10_rightOf_69 rfl rfl ?_
      replace H := kif H; obtain ⟨g10, H⟩ := H
      refine x_getR (q := 73) dX10_rightOf_70 rfl kl_RX10_15 rfl (k243 g1 (by decide) hn) g10 ?_
      refine x_iload (q := 75) dX10_rightOf_73 rfl rfl ?_
      replace H := kif H; obtain ⟨g11, H⟩ := H
      replace H := kifn H; obtain ⟨g12, H⟩ := H
      refine x_iald (q := 76) dX10_rightOf_75 rfl (k243 g11 (by decide) hn) g12 ?_
      refine x_iload_n (q := 77) dX10_rightOf_76 rfl rfl ?_
      refine x_iand (q := 78) dX10_rightOf_77 rfl ?_
      refine x_dup2 (q := 79) dX10_rightOf_78 rfl ⟨rfl, rfl⟩ ?_
      replace H := kif H; obtain ⟨g13, H⟩ := H
      replace H := kifn H; obtain ⟨g14, H⟩ := H
      refine x_lald (q := 80) dX10_rightOf_79 rfl (k243 g13 (by decide) hn) g14 ?_
      refine x_aload_n (q := 81) dX10_rightOf_80 rfl rfl ?_
      replace H := kif H; obtain ⟨g15, H⟩ := H
      refine x_getR (q := 84) dX10_rightOf_81 rfl kl_RX10_11 rfl (k243 g1 (by decide) hn) g15 ?_
      refine x_iload (q := 86) dX10_rightOf_84 rfl rfl ?_
      replace H := kif H; obtain ⟨g16, H⟩ := H
      replace H := kifn H; obtain ⟨g17, H⟩ := H
      refine x_lald (q := 87) dX10_rightOf_86 rfl (k243 g16 (by decide) hn) g17 ?_
      refine x_ladd (q := 88) dX10_rightOf_87 rfl ?_
      replace H := kle H; obtain ⟨h18, q19, H⟩ := H
      refine x_last (q := 89) dX10_rightOf_88 rfl (k243 g13 (by decide) hn) g14 ?_
      refine x_nmH q19 ?_
      have n20 : h18.1 = 243 := by rw [q19]; exact hn
      refine x_sub (ls2 := [(0, .ref v0), (2, .int v2), (3, .int s.1)]) [1, 2, 3] rfl ?_
      exact s_X10_rightOf_b89 h18 v0 v2 s.1 n20 H
    · refine x_icmp_ge_f (q := 38) dX10_rightOf_35 (t := 65) (by decide) rfl g8 ?_
      refine x_aload_n (q := 39) dX10_rightOf_38 rfl rfl ?_
      replace H := kif H; obtain ⟨g21, H⟩ := H
      refine x_getR (q := 42) dX10_rightOf_39 rfl kl_RX10_32 rfl (k243 g1 (by decide) hn) g21 ?_
      refine x_aload_n (q := 43) dX10_rightOf_42 rfl rfl ?_
      replace H := kif H; obtain ⟨g22, H⟩ := H
      refine x_getR (q := 46) dX10_rightOf_43 rfl kl_RX10_15 rfl (k243 g1 (by decide) hn) g22 ?_
      refine x_iload (q := 48) dX10_rightOf_46 rfl rfl ?_
      replace H := kif H; obtain ⟨g23, H⟩ := H
      replace H := kifn H; obtain ⟨g24, H⟩ := H
      refine x_iald (q := 49) dX10_rightOf_48 rfl (k243 g23 (by decide) hn) g24 ?_
      refine x_iload_n (q := 50) dX10_rightOf_49 rfl rfl ?_
      refine x_iand (q := 51) dX10_rightOf_50 rfl ?_
      refine x_dup2 (q := 52) dX10_rightOf_51 rfl ⟨rfl, rfl⟩ ?_
      replace H := kif H; obtain ⟨g25, H⟩ := H
      replace H := kifn H; obtain ⟨g26, H⟩ := H
      refine x_lald (q := 53) dX10_rightOf_52 rfl (k243 g25 (by decide) hn) g26 ?_
      refine x_aload_n (q := 54) dX10_rightOf_53 rfl rfl ?_
      replace H := kif H; obtain ⟨g27, H⟩ := H
      refine x_getR (q := 57) dX10_rightOf_54 rfl kl_RX10_11 rfl (k243 g1 (by decide) hn) g27 ?_
      refine x_iload (q := 59) dX10_rightOf_57 rfl rfl ?_
      replace H := kif H; obtain ⟨g28, H⟩ := H
      replace H := kifn H; obtain ⟨g29, H⟩ := H
      refine x_lald (q := 60) dX10_rightOf_59 rfl (k243 g28 (by decide) hn) g29 ?_
      refine x_ladd (q := 61) dX10_rightOf_60 rfl ?_
      replace H := kle H; obtain ⟨h30, q31, H⟩ := H
      refine x_last (q := 62) dX10_rightOf_61 rfl (k243 g25 (by decide) hn) g26 ?_
      refine x_nmH q31 ?_
      have n32 : h30.1 = 243 := by rw [q31]; exact hn
      refine x_goto dX10_rightOf_62 (q := 89) (by decide) ?_
      refine x_sub (ls2 := [(0, .ref v0), (2, .int v2), (3, .int s.1)]) [1, 2, 3] rfl ?_
      exact s_X10_rightOf_b89 h30 v0 v2 s.1 n32 H
theorem sl_X10_rightOf_l15 {Z : Nat → (Nat → Nat) → State → Prop} (v0 : Nat) (v2 : Int32) (n : Nat) (s : Int32 × KH) (r : KH) (hn : (s.2).1 = 243) (H : kloop (f_X10_rightOf_l15 v0 v2) n s = some r) : KX Z RX10 cX10_rightOf 7 false 2 (E_X10_rightOf_l15 v0 v2 r) 15 [(0, .ref v0), (2, .int v2), (3, .int s.1)] [] s.2 :=
  k_loop (ls := (fun (s : Int32 × KH) => ([(0, .ref v0), (2, .int v2), (3, .int s.1)] : List (Nat × Value)))) (hp := (fun (s : Int32 × KH) => (s.2 : KH))) (G := E_X10_rightOf_l15 v0 v2) (fun s t hn H => s_X10_rightOf_l15 v0 v2 s t hn H) n s r hn H
def E_X10_rightOf_l100 (v0 : Nat) (v2 : Int32) : Int64 × KH → Nat → List (Nat × Value) → List Value → KH → Prop := fun (e : Int64 × KH) pc ls st hh => pc = 167 ∧ ls = [(3, .long e.1)] ∧ st = [] ∧ e.2 = hh
def B_X10_rightOf_l100 (v0 : Nat) (v2 : Int32) : ((Int64 × Int32 × KH) ⊕ (Int64 × KH)) → Nat → List (Nat × Value) → List Value → KH → Prop := Sum.elim (fun (s : Int64 × Int32 × KH) pc ls st hh => pc = 100 ∧ ls = [(0, .ref v0), (2, .int v2), (3, .long s.1), (5, .int s.2.1)] ∧ st = [] ∧ hh = s.2.2) (E_X10_rightOf_l100 v0 v2)
def f_X10_rightOf_l100 (v0 : Nat) (v2 : Int32) (s : Int64 × Int32 × KH) : Option ((Int64 × Int32 × KH) ⊕ (Int64 × KH)) :=
  if kkind v0 = 10 then if (kI s.2.2 v0 3) ≤ s.2.1 then
  some (.inr (s.1, s.2.2))
  else
  if (kR s.2.2 v0 1) < 999999 then if (kR s.2.2 v0 2) < 999999 then if kkind (kR s.2.2 v0 2) = 20 then if (s.2.1 < 0 ∨ klen (kR s.2.2 v0 2) ≤ (s.2.1).toNatClampNeg) then none else if kkind (kR s.2.2 v0 1) = 20 then if ((kI s.2.2 (kR s.2.2 v0 2) ((s.2.1).toNatClampNeg)) < 0 ∨ klen (kR s.2.2 v0 1) ≤ ((kI s.2.2 (kR s.2.2 v0 2) ((s.2.1).toNatClampNeg))).toNatClampNeg) then none else kl ((kI s.2.2 (kR s.2.2 v0 1) (((kI s.2.2 (kR s.2.2 v0 2) ((s.2.1).toNatClampNeg))).toNatClampNeg)) &&& v2) fun x9 =>
  if (kR s.2.2 v0 6) < 999999 then if kkind (kR s.2.2 v0 6) = 21 then if (x9 < 0 ∨ klen (kR s.2.2 v0 6) ≤ (x9).toNatClampNeg) then none else if (kR s.2.2 v0 7) < 999999 then if kkind (kR s.2.2 v0 7) = 21 then if (x9 < 0 ∨ klen (kR s.2.2 v0 7) ≤ (x9).toNatClampNeg) then none else kb (f_J9_max_f86c9 s.2.2 (kL s.2.2 (kR s.2.2 v0 6) ((x9).toNatClampNeg)) (kL s.2.2 (kR s.2.2 v0 7) ((x9).toNatClampNeg))) fun r17 =>
  kl (s.1 + r17) fun x20 =>
  kl (ksL s.2.2 (kR s.2.2 v0 6) ((x9).toNatClampNeg) (0 : Int64)) fun h22 =>
  if (kR h22 v0 7) < 999999 then if kkind (kR h22 v0 7) = 21 then if (x9 < 0 ∨ klen (kR h22 v0 7) ≤ (x9).toNatClampNeg) then none else kl (ksL h22 (kR h22 v0 7) ((x9).toNatClampNeg) (0 : Int64)) fun h28 =>
  kl (s.2.1 + (1 : Int32)) fun x31 =>
  some (.inl (x20, x31, h28)) else none else none else none else none else none else none else none else none else none else none else none
set_option maxHeartbeats 4000000 in
set_option maxRecDepth 100000 in
theorem s_X10_rightOf_l100 {Z : Nat → (Nat → Nat) → State → Prop} (v0 : Nat) (v2 : Int32) (s : Int64 × Int32 × KH) (t : (Int64 × Int32 × KH) ⊕ (Int64 × KH)) (hn : (s.2.2).1 = 243) (H : f_X10_rightOf_l100 v0 v2 s = some t) : KX Z RX10 cX10_rightOf 7 false 2 (B_X10_rightOf_l100 v0 v2 t) 100 [(0, .ref v0), (2, .int v2), (3, .long s.1), (5, .int s.2.1)] [] s.2.2 := by
  unfold f_X10_rightOf_l100 at H
  refine x_iload (q := 102) dX10_rightOf_100 rfl rfl ?_
  refine x_aload_n (q := 103) dX10_rightOf_102 rfl rfl ?_
  replace H := kif H; obtain ⟨g1, H⟩ := H
  refine x_getI (q := 106) dX10_rightOf_103 rfl kl_RX10_22 (Or.inl rfl) (k243 g1 (by decide) hn) ?_
  replace H := kite H; rcases H with ⟨g2, H⟩ | ⟨g2, H⟩
  · refine x_icmp_ge_t dX10_rightOf_106 (q := 167) (by decide) g2 ?_
    cases H
    refine x_sub (ls2 := [(3, .long s.1)]) [2] rfl ?_
    exact x_end (x_cfg rfl)
  · refine x_icmp_ge_f (q := 109) dX10_rightOf_106 (t := 167) (by decide) rfl g2 ?_
    refine x_aload_n (q := 110) dX10_rightOf_109 rfl rfl ?_
    replace H := kif H; obtain ⟨g3, H⟩ := H
    refine x_getR (q := 113) dX10_rightOf_110 rfl kl_RX10_15 rfl (k243 g1 (by decide) hn) g3 ?_
    refine x_aload_n (q := 114) dX10_rightOf_113 rfl rfl ?_
    replace H := kif H; obtain ⟨g4, H⟩ := H
    refine x_getR (q := 117) dX10_rightOf_114 rfl kl_RX10_19 rfl (k243 g1 (by decide) hn) g4 ?_
    refine x_iload (q := 119) dX10_rightOf_117 rfl rfl ?_
    replace H := kif H; obtain ⟨g5, H⟩ := H
    replace H := kifn H; obtain ⟨g6, H⟩ := H
    refine x_iald (q := 120) dX10_rightOf_119 rfl (k243 g5 (by decide) hn) g6 ?_
    replace H := kif H; obtain ⟨g7, H⟩ := H
    replace H := kifn H; obtain ⟨g8, H⟩ := H
    refine x_iald (q := 121) dX10_rightOf_120 rfl (k243 g7 (by decide) hn) g8 ?_
    refine x_iload_n (q := 122) dX10_rightOf_121 rfl rfl ?_
    refine x_iand (q := 123) dX10_rightOf_122 rfl ?_
    replace H := kle H; obtain ⟨x9, q10, H⟩ := H
    refine x_nmI q10 ?_
    refine x_istore (q := 125) (i := 6) (ls2 := [(6, .int x9), (0, .ref v0), (2, .int v2), (3, .long s.1), (5, .int s.2.1)]) dX10_rightOf_123 rfl (by decide) rfl ?_
    refine x_lload_n (q := 126) dX10_rightOf_125 rfl rfl ?_
    refine x_aload_n (q := 127) dX10_rightOf_126 rfl rfl ?_
    replace H := kif H; obtain ⟨g11, H⟩ := H
    refine x_getR (q := 130) dX10_rightOf_127 rfl kl_RX10_32 rfl (k243 g1 (by decide) hn) g11 ?_
    refine x_iload (q := 132) dX10_rightOf_130 rfl rfl ?_
    replace H := kif H; obtain ⟨g12, H⟩ := H
    replace H := kifn H; obtain ⟨g13, H⟩ := H
    refine x_lald (q := 133) dX10_rightOf_132 rfl (k243 g12 (by decide) hn) g13 ?_
    refine x_aload_n (q := 134) dX10_rightOf_133 rfl rfl ?_
    replace H := kif H; obtain ⟨g14, H⟩ := H
    refine x_getR (q := 137) dX10_rightOf_134 rfl kl_RX10_35 rfl (k243 g1 (by decide) hn) g14 ?_
    refine x_iload (q := 139) dX10_rightOf_137 rfl rfl ?_
    replace H := kif H; obtain ⟨g15, H⟩ := H
    replace H := kifn H; obtain ⟨g16, H⟩ := H
    refine x_lald (q := 140) dX10_rightOf_139 rfl (k243 g15 (by decide) hn) g16 ?_
    replace H := kbe H; obtain ⟨r17, c18, H⟩ := H
    have m19 := s_J9_max_f86c9 (Z := Z) s.2.2 (kL s.2.2 (kR s.2.2 v0 6) ((x9).toNatClampNeg)) (kL s.2.2 (kR s.2.2 v0 7) ((x9).toNatClampNeg)) hn c18
    refine x_callS (q := 143) (as := [.long (kL s.2.2 (kR s.2.2 v0 6) ((x9).toNatClampNeg)), .long (kL s.2.2 (kR s.2.2 v0 7) ((x9).toNatClampNeg))]) (rest := [.long s.1]) dX10_rightOf_140 rfl kc_RX10_100 kh_J9_max_f86c9 (by decide) (Nat.le_of_ble_eq_true rfl) m19 ?_
    refine x_ladd (q := 144) dX10_rightOf_143 rfl ?_
    replace H := kle H; obtain ⟨x20, q21, H⟩ := H
    refine x_nmL q21 ?_
    refine x_lstore_n (q := 145) (i := 3) (ls2 := [(3, .long x20), (6, .int x9), (0, .ref v0), (2, .int v2), (5, .int s.2.1)]) dX10_rightOf_144 rfl rfl (by decide) rfl ?_
    refine x_aload_n (q := 146) dX10_rightOf_145 rfl rfl ?_
    refine x_getR (q := 149) dX10_rightOf_146 rfl kl_RX10_32 rfl (k243 g1 (by decide) hn) g11 ?_
    refine x_iload (q := 151) dX10_rightOf_149 rfl rfl ?_
    refine x_lconst (q := 152) (v := (0 : Int64)) dX10_rightOf_151 rfl (by decide) ?_
    replace H := kle H; obtain ⟨h22, q23, H⟩ := H
    refine x_last (q := 153) dX10_rightOf_152 rfl (k243 g12 (by decide) hn) g13 ?_
    refine x_nmH q23 ?_
    have n24 : h22.1 = 243 := by rw [q23]; exact hn
    refine x_aload_n (q := 154) dX10_rightOf_153 rfl rfl ?_
    replace H := kif H; obtain ⟨g25, H⟩ := H
    refine x_getR (q := 157) dX10_rightOf_154 rfl kl_RX10_35 rfl (k243 g1 (by decide) n24) g25 ?_
    refine x_iload (q := 159) dX10_rightOf_157 rfl rfl ?_
    refine x_lconst (q := 160) (v := (0 : Int64)) dX10_rightOf_159 rfl (by decide) ?_
    replace H := kif H; obtain ⟨g26, H⟩ := H
    replace H := kifn H; obtain ⟨g27, H⟩ := H
    replace H := kle H; obtain ⟨h28, q29, H⟩ := H
    refine x_last (q := 161) dX10_rightOf_160 rfl (k243 g26 (by decide) n24) g27 ?_
    refine x_nmH q29 ?_
    have n30 : h28.1 = 243 := by rw [q29]; exact n24
    replace H := kle H; obtain ⟨x31, q32, H⟩ := H
    refine x_iinc (q := 164) (i := 5) (ls2 := [(5, .int x31), (3, .long x20), (6, .int x9), (0, .ref v0), (2, .int v2)]) dX10_rightOf_161 rfl rfl (by decide) (by rw [q32]; rfl) ?_
    refine x_goto dX10_rightOf_164 (q := 100) (by decide) ?_
    cases H
    refine x_sub (ls2 := [(0, .ref v0), (2, .int v2), (3, .long x20), (5, .int x31)]) [3, 4, 1, 0] rfl ?_
    exact x_end (x_cfg rfl)
theorem sl_X10_rightOf_l100 {Z : Nat → (Nat → Nat) → State → Prop} (v0 : Nat) (v2 : Int32) (n : Nat) (s : Int64 × Int32 × KH) (r : Int64 × KH) (hn : (s.2.2).1 = 243) (H : kloop (f_X10_rightOf_l100 v0 v2) n s = some r) : KX Z RX10 cX10_rightOf 7 false 2 (E_X10_rightOf_l100 v0 v2 r) 100 [(0, .ref v0), (2, .int v2), (3, .long s.1), (5, .int s.2.1)] [] s.2.2 :=
  k_loop (ls := (fun (s : Int64 × Int32 × KH) => ([(0, .ref v0), (2, .int v2), (3, .long s.1), (5, .int s.2.1)] : List (Nat × Value)))) (hp := (fun (s : Int64 × Int32 × KH) => (s.2.2 : KH))) (G := E_X10_rightOf_l100 v0 v2) (fun s t hn H => s_X10_rightOf_l100 v0 v2 s t hn H) n s r hn H
def f_X10_rightOf (h : KH) (v0 : Nat) (v1 : Int32) : Option (Int64 × KH) :=
  kl (((v1 &&& (63 : Int32)) <<< ((6 : Int32) &&& 31)) ||| (v1 &&& (63 : Int32))) fun x1 =>
  kb (kloop (f_X10_rightOf_l15 v0 x1) KF ((0 : Int32), h)) fun e3 =>
  kb (kloop (f_X10_rightOf_l100 v0 x1) KF ((0 : Int64), (0 : Int32), e3)) fun e6 =>
  some (e6.1, e6.2)
set_option maxHeartbeats 4000000 in
set_option maxRecDepth 100000 in
theorem s0_X10_rightOf {Z : Nat → (Nat → Nat) → State → Prop} (h : KH) (v0 : Nat) (v1 : Int32) {t : Int64 × KH} (hn : h.1 = 243) (H : f_X10_rightOf h v0 v1 = some t) : KX Z RX10 cX10_rightOf 7 false 2 (KRl cX10_rightOf t.1 t.2) 0 [(0, .ref v0), (1, .int v1)] [] h := by
  unfold f_X10_rightOf at H
  refine x_iload_n (q := 1) dX10_rightOf_0 rfl rfl ?_
  refine x_bipush (q := 3) (v := (63 : Int32)) dX10_rightOf_1 rfl (by decide) ?_
  refine x_iand (q := 4) dX10_rightOf_3 rfl ?_
  refine x_bipush (q := 6) (v := (6 : Int32)) dX10_rightOf_4 rfl (by decide) ?_
  refine x_ishl (q := 7) dX10_rightOf_6 rfl ?_
  refine x_iload_n (q := 8) dX10_rightOf_7 rfl rfl ?_
  refine x_bipush (q := 10) (v := (63 : Int32)) dX10_rightOf_8 rfl (by decide) ?_
  refine x_iand (q := 11) dX10_rightOf_10 rfl ?_
  refine x_ior (q := 12) dX10_rightOf_11 rfl ?_
  replace H := kle H; obtain ⟨x1, q2, H⟩ := H
  refine x_nmI q2 ?_
  refine x_istore_n (q := 13) (i := 2) (ls2 := [(2, .int x1), (0, .ref v0), (1, .int v1)]) dX10_rightOf_12 rfl rfl (by decide) rfl ?_
  refine x_iconst (q := 14) (v := (0 : Int32)) dX10_rightOf_13 rfl (by decide) ?_
  refine x_istore_n (q := 15) (i := 3) (ls2 := [(3, .int (0 : Int32)), (2, .int x1), (0, .ref v0), (1, .int v1)]) dX10_rightOf_14 rfl rfl (by decide) rfl ?_
  refine x_sub (ls2 := [(0, .ref v0), (2, .int x1), (3, .int (0 : Int32))]) [2, 1, 0] rfl ?_
  replace H := kbe H; obtain ⟨e3, c4, H⟩ := H
  refine x_app (sl_X10_rightOf_l15 v0 x1 KF ((0 : Int32), h) e3 hn c4) fun pc2 ls2 st2 h2 hg m5 => ?_
  obtain ⟨rfl, rfl, rfl, rfl⟩ := hg
  refine x_lconst (q := 96) (v := (0 : Int64)) dX10_rightOf_95 rfl (by decide) ?_
  refine x_lstore_n (q := 97) (i := 3) (ls2 := [(3, .long (0 : Int64)), (0, .ref v0), (2, .int x1)]) dX10_rightOf_96 rfl rfl (by decide) rfl ?_
  refine x_iconst (q := 98) (v := (0 : Int32)) dX10_rightOf_97 rfl (by decide) ?_
  refine x_istore (q := 100) (i := 5) (ls2 := [(5, .int (0 : Int32)), (3, .long (0 : Int64)), (0, .ref v0), (2, .int x1)]) dX10_rightOf_98 rfl (by decide) rfl ?_
  refine x_sub (ls2 := [(0, .ref v0), (2, .int x1), (3, .long (0 : Int64)), (5, .int (0 : Int32))]) [2, 3, 1, 0] rfl ?_
  replace H := kbe H; obtain ⟨e6, c7, H⟩ := H
  refine x_app (sl_X10_rightOf_l100 v0 x1 KF ((0 : Int64), (0 : Int32), e3) e6 (m5.full hn) c7) fun pc2 ls2 st2 h2 hg m8 => ?_
  obtain ⟨rfl, rfl, rfl, rfl⟩ := hg
  refine x_lload_n (q := 168) dX10_rightOf_167 rfl rfl ?_
  cases H
  exact x_end ⟨dX10_rightOf_168, rfl, rfl⟩
theorem s_X10_rightOf {Z : Nat → (Nat → Nat) → State → Prop} (h : KH) (v0 : Nat) (v1 : Int32) {t : Int64 × KH} (hn : h.1 = 243) (H : f_X10_rightOf h v0 v1 = some t) : KM Z yX10_rightOf cX10_rightOf 7 (some .long) 2 [.ref v0, .int v1] h (some (.long t.1)) t.2 :=
  kx_l (own := RX10) (ini := false) (by decide +kernel) (by decide +kernel) rfl (Nat.le_of_ble_eq_true rfl) (s0_X10_rightOf h v0 v1 hn H)
theorem dX11_millionths_0 : decode cX11_millionths 0 = .ok (.lload_n 2, 1) := by decide +kernel
theorem dX11_millionths_1 : decode cX11_millionths 1 = .ok (.lconst 0, 1) := by decide +kernel
theorem dX11_millionths_2 : decode cX11_millionths 2 = .ok (.lcmp, 1) := by decide +kernel
theorem dX11_millionths_3 : decode cX11_millionths 3 = .ok (.ifCond .gt 5, 3) := by decide +kernel
theorem dX11_millionths_6 : decode cX11_millionths 6 = .ok (.iconst (-1), 1) := by decide +kernel
theorem dX11_millionths_7 : decode cX11_millionths 7 = .ok (.ireturn, 1) := by decide +kernel
theorem dX11_millionths_8 : decode cX11_millionths 8 = .ok (.lload_n 0, 1) := by decide +kernel
theorem dX11_millionths_9 : decode cX11_millionths 9 = .ok (.lload_n 2, 1) := by decide +kernel
theorem dX11_millionths_10 : decode cX11_millionths 10 = .ok (.ldiv, 1) := by decide +kernel
theorem dX11_millionths_11 : decode cX11_millionths 11 = .ok (.lstore 4, 2) := by decide +kernel
theorem dX11_millionths_13 : decode cX11_millionths 13 = .ok (.lload_n 0, 1) := by decide +kernel
theorem dX11_millionths_14 : decode cX11_millionths 14 = .ok (.lload_n 2, 1) := by decide +kernel
theorem dX11_millionths_15 : decode cX11_millionths 15 = .ok (.lrem, 1) := by decide +kernel
theorem dX11_millionths_16 : decode cX11_millionths 16 = .ok (.lstore 6, 2) := by decide +kernel
theorem dX11_millionths_18 : decode cX11_millionths 18 = .ok (.iconst 0, 1) := by decide +kernel
theorem dX11_millionths_19 : decode cX11_millionths 19 = .ok (.istore 8, 2) := by decide +kernel
theorem dX11_millionths_21 : decode cX11_millionths 21 = .ok (.iload 8, 2) := by decide +kernel
theorem dX11_millionths_23 : decode cX11_millionths 23 = .ok (.bipush 6, 2) := by decide +kernel
theorem dX11_millionths_25 : decode cX11_millionths 25 = .ok (.if_icmp .ge 36, 3) := by decide +kernel
theorem dX11_millionths_28 : decode cX11_millionths 28 = .ok (.lload 4, 2) := by decide +kernel
theorem dX11_millionths_30 : decode cX11_millionths 30 = .ok (.ldc2_w 348, 3) := by decide +kernel
theorem dX11_millionths_33 : decode cX11_millionths 33 = .ok (.lmul, 1) := by decide +kernel
theorem dX11_millionths_34 : decode cX11_millionths 34 = .ok (.lload 6, 2) := by decide +kernel
theorem dX11_millionths_36 : decode cX11_millionths 36 = .ok (.ldc2_w 348, 3) := by decide +kernel
theorem dX11_millionths_39 : decode cX11_millionths 39 = .ok (.lmul, 1) := by decide +kernel
theorem dX11_millionths_40 : decode cX11_millionths 40 = .ok (.lload_n 2, 1) := by decide +kernel
theorem dX11_millionths_41 : decode cX11_millionths 41 = .ok (.ldiv, 1) := by decide +kernel
theorem dX11_millionths_42 : decode cX11_millionths 42 = .ok (.ladd, 1) := by decide +kernel
theorem dX11_millionths_43 : decode cX11_millionths 43 = .ok (.lstore 4, 2) := by decide +kernel
theorem dX11_millionths_45 : decode cX11_millionths 45 = .ok (.lload 6, 2) := by decide +kernel
theorem dX11_millionths_47 : decode cX11_millionths 47 = .ok (.ldc2_w 348, 3) := by decide +kernel
theorem dX11_millionths_50 : decode cX11_millionths 50 = .ok (.lmul, 1) := by decide +kernel
theorem dX11_millionths_51 : decode cX11_millionths 51 = .ok (.lload_n 2, 1) := by decide +kernel
theorem dX11_millionths_52 : decode cX11_millionths 52 = .ok (.lrem, 1) := by decide +kernel
theorem dX11_millionths_53 : decode cX11_millionths 53 = .ok (.lstore 6, 2) := by decide +kernel
theorem dX11_millionths_55 : decode cX11_millionths 55 = .ok (.iinc 8 1, 3) := by decide +kernel
theorem dX11_millionths_58 : decode cX11_millionths 58 = .ok (.goto (-37), 3) := by decide +kernel
theorem dX11_millionths_61 : decode cX11_millionths 61 = .ok (.lload 4, 2) := by decide +kernel
theorem dX11_millionths_63 : decode cX11_millionths 63 = .ok (.l2i, 1) := by decide +kernel
theorem dX11_millionths_64 : decode cX11_millionths 64 = .ok (.ireturn, 1) := by decide +kernel
theorem kk_RX11_348 : Jvm.Cond.constantLong RX11 348 (10 : Int64) ∈ ktG := kwm 939 (by decide +kernel) (by decide +kernel)
def E_X11_millionths_l21 (h : KH) (v2 : Int64) : Int64 → Nat → List (Nat × Value) → List Value → KH → Prop := fun (e : Int64) pc ls st hh => pc = 61 ∧ ls = [(4, .long e)] ∧ st = [] ∧ h = hh
def B_X11_millionths_l21 (h : KH) (v2 : Int64) : ((Int64 × Int64 × Int32) ⊕ (Int64)) → Nat → List (Nat × Value) → List Value → KH → Prop := Sum.elim (fun (s : Int64 × Int64 × Int32) pc ls st hh => pc = 21 ∧ ls = [(2, .long v2), (4, .long s.1), (6, .long s.2.1), (8, .int s.2.2)] ∧ st = [] ∧ hh = h) (E_X11_millionths_l21 h v2)
def f_X11_millionths_l21 (h : KH) (v2 : Int64) (s : Int64 × Int64 × Int32) : Option ((Int64 × Int64 × Int32) ⊕ (Int64)) :=
  if (6 : Int32) ≤ s.2.2 then
  some (.inr s.1)
  else
  if v2 = 0 then none else kl ((s.1 * (10 : Int64)) + ((s.2.1 * (10 : Int64)) / v2)) fun x3 =>
  if v2 = 0 then none else kl ((s.2.1 * (10 : Int64)) - (s.2.1 * (10 : Int64)) / v2 * v2) fun x6 =>
  kl (s.2.2 + (1 : Int32)) fun x8 =>
  some (.inl (x3, x6, x8))
set_option maxHeartbeats 4000000 in
set_option maxRecDepth 100000 in
theorem s_X11_millionths_l21 {Z : Nat → (Nat → Nat) → State → Prop} (h : KH) (v2 : Int64) (s : Int64 × Int64 × Int32) (t : (Int64 × Int64 × Int32) ⊕ (Int64)) (hn : (h).1 = 243) (H : f_X11_millionths_l21 h v2 s = some t) : KX Z RX11 cX11_millionths 9 false 1 (B_X11_millionths_l21 h v2 t) 21 [(2, .long v2), (4, .long s.1), (6, .long s.2.1), (8, .int s.2.2)] [] h := by
  unfold f_X11_millionths_l21 at H
  refine x_iload (q := 23) dX11_millionths_21 rfl rfl ?_
  refine x_bipush (q := 25) (v := (6 : Int32)) dX11_millionths_23 rfl (by decide) ?_
  replace H := kite H; rcases H with ⟨g1, H⟩ | ⟨g1, H⟩
  · refine x_icmp_ge_t dX11_millionths_25 (q := 61) (by decide) g1 ?_
    cases H
    refine x_sub (ls2 := [(4, .long s.1)]) [1] rfl ?_
    exact x_end (x_cfg rfl)
  · refine x_icmp_ge_f (q := 28) dX11_millionths_25 (t := 61) (by decide) rfl g1 ?_
    refine x_lload (q := 30) dX11_millionths_28 rfl rfl ?_
    refine x_ldc2 (q := 33) (v := (10 : Int64)) dX11_millionths_30 rfl kk_RX11_348 ?_
    refine x_lmul (q := 34) dX11_millionths_33 rfl ?_
    refine x_lload (q := 36) dX11_millionths_34 rfl rfl ?_
    refine x_ldc2 (q := 39) (v := (10 : Int64)) dX11_millionths_36 rfl kk_RX11_348 ?_
    refine x_lmul (q := 40) dX11_millionths_39 rfl ?_
    refine x_lload_n (q := 41) dX11_millionths_40 rfl rfl ?_
    replace H := kifn H; obtain ⟨g2, H⟩ := H
    refine x_ldiv (q := 42) dX11_millionths_41 rfl g2 ?_
    refine x_ladd (q := 43) dX11_millionths_42 rfl ?_
    replace H := kle H; obtain ⟨x3, q4, H⟩ := H
    refine x_nmL q4 ?_
    refine x_lstore (q := 45) (i := 4) (ls2 := [(4, .long x3), (2, .long v2), (6, .long s.2.1), (8, .int s.2.2)]) dX11_millionths_43 rfl (by decide) rfl ?_
    refine x_lload (q := 47) dX11_millionths_45 rfl rfl ?_
    refine x_ldc2 (q := 50) (v := (10 : Int64)) dX11_millionths_47 rfl kk_RX11_348 ?_
    refine x_lmul (q := 51) dX11_millionths_50 rfl ?_
    refine x_lload_n (q := 52) dX11_millionths_51 rfl rfl ?_
    replace H := kifn H; obtain ⟨g5, H⟩ := H
    refine x_lrem (q := 53) dX11_millionths_52 rfl g5 ?_
    replace H := kle H; obtain ⟨x6, q7, H⟩ := H
    refine x_nmL q7 ?_
    refine x_lstore (q := 55) (i := 6) (ls2 := [(6, .long x6), (4, .long x3), (2, .long v2), (8, .int s.2.2)]) dX11_millionths_53 rfl (by decide) rfl ?_
    replace H := kle H; obtain ⟨x8, q9, H⟩ := H
    refine x_iinc (q := 58) (i := 8) (ls2 := [(8, .int x8), (6, .long x6), (4, .long x3), (2, .long v2)]) dX11_millionths_55 rfl rfl (by decide) (by rw [q9]; rfl) ?_
    refine x_goto dX11_millionths_58 (q := 21) (by decide) ?_
    cases H
    refine x_sub (ls2 := [(2, .long v2), (4, .long x3), (6, .long x6), (8, .int x8)]) [3, 2, 1, 0] rfl ?_
    exact x_end (x_cfg rfl)
theorem sl_X11_millionths_l21 {Z : Nat → (Nat → Nat) → State → Prop} (h : KH) (v2 : Int64) (n : Nat) (s : Int64 × Int64 × Int32) (r : Int64) (hn : (h).1 = 243) (H : kloop (f_X11_millionths_l21 h v2) n s = some r) : KX Z RX11 cX11_millionths 9 false 1 (E_X11_millionths_l21 h v2 r) 21 [(2, .long v2), (4, .long s.1), (6, .long s.2.1), (8, .int s.2.2)] [] h :=
  k_loop (ls := (fun (s : Int64 × Int64 × Int32) => ([(2, .long v2), (4, .long s.1), (6, .long s.2.1), (8, .int s.2.2)] : List (Nat × Value)))) (hp := (fun (s : Int64 × Int64 × Int32) => (h : KH))) (G := E_X11_millionths_l21 h v2) (fun s t hn H => s_X11_millionths_l21 h v2 s t hn H) n s r hn H
def f_X11_millionths (h : KH) (v0 : Int64) (v2 : Int64) : Option (Int32) :=
  if 0 < (lg_cmp v2 (0 : Int64)) then
  if v2 = 0 then none else kl (v0 / v2) fun x3 =>
  if v2 = 0 then none else kl (v0 - v0 / v2 * v2) fun x6 =>
  kb (kloop (f_X11_millionths_l21 h v2) KF (x3, x6, (0 : Int32))) fun e8 =>
  some ((e8).toInt32)
  else
  some (-1 : Int32)
set_option maxHeartbeats 4000000 in
set_option maxRecDepth 100000 in
theorem s0_X11_millionths {Z : Nat → (Nat → Nat) → State → Prop} (h : KH) (v0 : Int64) (v2 : Int64) {t : Int32} (hn : h.1 = 243) (H : f_X11_millionths h v0 v2 = some t) : KX Z RX11 cX11_millionths 9 false 1 (KRi cX11_millionths t h) 0 [(0, .long v0), (2, .long v2)] [] h := by
  unfold f_X11_millionths at H
  refine x_lload_n (q := 1) dX11_millionths_0 rfl rfl ?_
  refine x_lconst (q := 2) (v := (0 : Int64)) dX11_millionths_1 rfl (by decide) ?_
  refine x_lcmp (q := 3) dX11_millionths_2 rfl ?_
  replace H := kite H; rcases H with ⟨g1, H⟩ | ⟨g1, H⟩
  · refine x_if_gt_t dX11_millionths_3 (q := 8) (by decide) g1 ?_
    refine x_lload_n (q := 9) dX11_millionths_8 rfl rfl ?_
    refine x_lload_n (q := 10) dX11_millionths_9 rfl rfl ?_
    replace H := kifn H; obtain ⟨g2, H⟩ := H
    refine x_ldiv (q := 11) dX11_millionths_10 rfl g2 ?_
    replace H := kle H; obtain ⟨x3, q4, H⟩ := H
    refine x_nmL q4 ?_
    refine x_lstore (q := 13) (i := 4) (ls2 := [(4, .long x3), (0, .long v0), (2, .long v2)]) dX11_millionths_11 rfl (by decide) rfl ?_
    refine x_lload_n (q := 14) dX11_millionths_13 rfl rfl ?_
    refine x_lload_n (q := 15) dX11_millionths_14 rfl rfl ?_
    replace H := kifn H; obtain ⟨g5, H⟩ := H
    refine x_lrem (q := 16) dX11_millionths_15 rfl g5 ?_
    replace H := kle H; obtain ⟨x6, q7, H⟩ := H
    refine x_nmL q7 ?_
    refine x_lstore (q := 18) (i := 6) (ls2 := [(6, .long x6), (4, .long x3), (0, .long v0), (2, .long v2)]) dX11_millionths_16 rfl (by decide) rfl ?_
    refine x_iconst (q := 19) (v := (0 : Int32)) dX11_millionths_18 rfl (by decide) ?_
    refine x_istore (q := 21) (i := 8) (ls2 := [(8, .int (0 : Int32)), (6, .long x6), (4, .long x3), (0, .long v0), (2, .long v2)]) dX11_millionths_19 rfl (by decide) rfl ?_
    refine x_sub (ls2 := [(2, .long v2), (4, .long x3), (6, .long x6), (8, .int (0 : Int32))]) [4, 2, 1, 0] rfl ?_
    replace H := kbe H; obtain ⟨e8, c9, H⟩ := H
    refine x_app (sl_X11_millionths_l21 h v2 KF (x3, x6, (0 : Int32)) e8 hn c9) fun pc2 ls2 st2 h2 hg m10 => ?_
    obtain ⟨rfl, rfl, rfl, rfl⟩ := hg
    refine x_lload (q := 63) dX11_millionths_61 rfl rfl ?_
    refine x_l2i (q := 64) dX11_millionths_63 rfl ?_
    cases H
    exact x_end ⟨dX11_millionths_64, rfl, rfl⟩
  · refine x_if_gt_f (q := 6) dX11_millionths_3 (t := 8) (by decide) rfl g1 ?_
    refine x_iconst (q := 7) (v := (-1 : Int32)) dX11_millionths_6 rfl (by decide) ?_
    cases H
    exact x_end ⟨dX11_millionths_7, rfl, rfl⟩
theorem s_X11_millionths {Z : Nat → (Nat → Nat) → State → Prop} (h : KH) (v0 : Int64) (v2 : Int64) {t : Int32} (hn : h.1 = 243) (H : f_X11_millionths h v0 v2 = some t) : KM Z yX11_millionths cX11_millionths 9 (some .int) 1 [.long v0, .long v2] h (some (.int t)) h :=
  kx_i (own := RX11) (ini := false) (by decide +kernel) (by decide +kernel) rfl (Nat.le_of_ble_eq_true rfl) (s0_X11_millionths h v0 v2 hn H)
theorem dX10_share_0 : decode cX10_share 0 = .ok (.lload_n 1, 1) := by decide +kernel
theorem dX10_share_1 : decode cX10_share 1 = .ok (.aload_n 0, 1) := by decide +kernel
theorem dX10_share_2 : decode cX10_share 2 = .ok (.invokevirtual 89, 3) := by decide +kernel
theorem dX10_share_5 : decode cX10_share 5 = .ok (.invokestatic 93, 3) := by decide +kernel
theorem dX10_share_8 : decode cX10_share 8 = .ok (.ireturn, 1) := by decide +kernel
theorem kc_RX10_89 : Cond.methodLink RX10 89 yX10_total ∈ ktG ∧ (Cond.instanceMethod yX10_total ∈ ktG ∧ Cond.selects yX10_total.cls yX10_total yX10_total ∈ ktG) ∧ Cond.initialized yX10_total.cls ∈ ktG ∧ Cond.code yX10_total cX10_total 1 (some .long) ∈ ktG := ⟨(kwm 932 (by decide +kernel) (by decide +kernel)), ⟨(kwm 933 (by decide +kernel) (by decide +kernel)), (kwm 934 (by decide +kernel) (by decide +kernel))⟩, (kwm 138 (by decide +kernel) (by decide +kernel)), kwm 935 (by decide +kernel) (by decide +kernel)⟩
theorem kh_X10_total : yX10_total.cls ≠ "java/lang/invoke/MethodHandle" ∧ yX10_total.cls ≠ "java/lang/invoke/VarHandle" ∧ (parseMethodDescriptor yX10_total.desc).map (fun d => d.parameters.length) = some 0 := by decide +kernel
theorem kc_RX10_93 : (RX10, 93, yX11_millionths, "KingsTest") ∈ knestM ∧ Cond.static yX11_millionths ∈ ktG ∧ Cond.initialized yX11_millionths.cls ∈ ktG ∧ Cond.code yX11_millionths cX11_millionths 9 (some .int) ∈ ktG := ⟨by decide +kernel, (kwm 937 (by decide +kernel) (by decide +kernel)), (kwm 123 (by decide +kernel) (by decide +kernel)), kwm 938 (by decide +kernel) (by decide +kernel)⟩
theorem kh_X11_millionths : yX11_millionths.cls ≠ "java/lang/invoke/MethodHandle" ∧ yX11_millionths.cls ≠ "java/lang/invoke/VarHandle" ∧ (parseMethodDescriptor yX11_millionths.desc).map (fun d => d.parameters.length) = some 2 := by decide +kernel
def f_X10_share (h : KH) (v0 : Nat) (v1 : Int64) : Option (Int32) :=
  if kkind v0 = 10 then kb (f_X10_total h v0) fun r2 =>
  kb (f_X11_millionths h v1 r2) fun r5 =>
  some r5 else none
set_option maxHeartbeats 4000000 in
set_option maxRecDepth 100000 in
theorem s0_X10_share {Z : Nat → (Nat → Nat) → State → Prop} (h : KH) (v0 : Nat) (v1 : Int64) {t : Int32} (hn : h.1 = 243) (H : f_X10_share h v0 v1 = some t) : KX Z RX10 cX10_share 3 false 2 (KRi cX10_share t h) 0 [(0, .ref v0), (1, .long v1)] [] h := by
  unfold f_X10_share at H
  refine x_lload_n (q := 1) dX10_share_0 rfl rfl ?_
  refine x_aload_n (q := 2) dX10_share_1 rfl rfl ?_
  replace H := kif H; obtain ⟨g1, H⟩ := H
  replace H := kbe H; obtain ⟨r2, c3, H⟩ := H
  have m4 := s_X10_total (Z := Z) h v0 hn c3
  refine x_callV (q := 5) (as := []) (rest := [.long v1]) dX10_share_2 rfl kc_RX10_89 kh_X10_total (by decide) (Nat.le_of_ble_eq_true rfl) m4 (ci := 10) (by exact ⟨rfl, by decide⟩) (k243 g1 (by decide) hn) ?_
  replace H := kbe H; obtain ⟨r5, c6, H⟩ := H
  have m7 := s_X11_millionths (Z := Z) h v1 r2 hn c6
  refine x_callSN (q := 8) (as := [.long v1, .long r2]) (rest := []) dX10_share_5 rfl kc_RX10_93 kh_X11_millionths (by decide) (Nat.le_of_ble_eq_true rfl) m7 ?_
  cases H
  exact x_end ⟨dX10_share_8, rfl, rfl⟩
theorem s_X10_share {Z : Nat → (Nat → Nat) → State → Prop} (h : KH) (v0 : Nat) (v1 : Int64) {t : Int32} (hn : h.1 = 243) (H : f_X10_share h v0 v1 = some t) : KM Z yX10_share cX10_share 3 (some .int) 2 [.ref v0, .long v1] h (some (.int t)) h :=
  kx_i (own := RX10) (ini := false) (by decide +kernel) (by decide +kernel) rfl (Nat.le_of_ble_eq_true rfl) (s0_X10_share h v0 v1 hn H)
theorem dX10_meritOf_0 : decode cX10_meritOf 0 = .ok (.aload_n 0, 1) := by decide +kernel
theorem dX10_meritOf_1 : decode cX10_meritOf 1 = .ok (.aload_n 0, 1) := by decide +kernel
theorem dX10_meritOf_2 : decode cX10_meritOf 2 = .ok (.iload_n 2, 1) := by decide +kernel
theorem dX10_meritOf_3 : decode cX10_meritOf 3 = .ok (.invokevirtual 106, 3) := by decide +kernel
theorem dX10_meritOf_6 : decode cX10_meritOf 6 = .ok (.invokevirtual 110, 3) := by decide +kernel
theorem dX10_meritOf_9 : decode cX10_meritOf 9 = .ok (.i2l, 1) := by decide +kernel
theorem dX10_meritOf_10 : decode cX10_meritOf 10 = .ok (.aload_n 1, 1) := by decide +kernel
theorem dX10_meritOf_11 : decode cX10_meritOf 11 = .ok (.iload_n 2, 1) := by decide +kernel
theorem dX10_meritOf_12 : decode cX10_meritOf 12 = .ok (.invokevirtual 114, 3) := by decide +kernel
theorem dX10_meritOf_15 : decode cX10_meritOf 15 = .ok (.i2l, 1) := by decide +kernel
theorem dX10_meritOf_16 : decode cX10_meritOf 16 = .ok (.aload_n 1, 1) := by decide +kernel
theorem dX10_meritOf_17 : decode cX10_meritOf 17 = .ok (.getfield 118, 3) := by decide +kernel
theorem dX10_meritOf_20 : decode cX10_meritOf 20 = .ok (.i2l, 1) := by decide +kernel
theorem dX10_meritOf_21 : decode cX10_meritOf 21 = .ok (.lmul, 1) := by decide +kernel
theorem dX10_meritOf_22 : decode cX10_meritOf 22 = .ok (.lsub, 1) := by decide +kernel
theorem dX10_meritOf_23 : decode cX10_meritOf 23 = .ok (.lreturn, 1) := by decide +kernel
theorem kc_RX10_106 : Cond.methodLink RX10 106 yX10_rightOf ∈ ktG ∧ (Cond.instanceMethod yX10_rightOf ∈ ktG ∧ Cond.selects yX10_rightOf.cls yX10_rightOf yX10_rightOf ∈ ktG) ∧ Cond.initialized yX10_rightOf.cls ∈ ktG ∧ Cond.code yX10_rightOf cX10_rightOf 7 (some .long) ∈ ktG := ⟨(kwm 969 (by decide +kernel) (by decide +kernel)), ⟨(kwm 970 (by decide +kernel) (by decide +kernel)), (kwm 971 (by decide +kernel) (by decide +kernel))⟩, (kwm 138 (by decide +kernel) (by decide +kernel)), kwm 972 (by decide +kernel) (by decide +kernel)⟩
theorem kh_X10_rightOf : yX10_rightOf.cls ≠ "java/lang/invoke/MethodHandle" ∧ yX10_rightOf.cls ≠ "java/lang/invoke/VarHandle" ∧ (parseMethodDescriptor yX10_rightOf.desc).map (fun d => d.parameters.length) = some 1 := by decide +kernel
theorem kc_RX10_110 : Cond.methodLink RX10 110 yX10_share ∈ ktG ∧ (Cond.instanceMethod yX10_share ∈ ktG ∧ Cond.selects yX10_share.cls yX10_share yX10_share ∈ ktG) ∧ Cond.initialized yX10_share.cls ∈ ktG ∧ Cond.code yX10_share cX10_share 3 (some .int) ∈ ktG := ⟨(kwm 974 (by decide +kernel) (by decide +kernel)), ⟨(kwm 929 (by decide +kernel) (by decide +kernel)), (kwm 930 (by decide +kernel) (by decide +kernel))⟩, (kwm 138 (by decide +kernel) (by decide +kernel)), kwm 931 (by decide +kernel) (by decide +kernel)⟩
theorem kh_X10_share : yX10_share.cls ≠ "java/lang/invoke/MethodHandle" ∧ yX10_share.cls ≠ "java/lang/invoke/VarHandle" ∧ (parseMethodDescriptor yX10_share.desc).map (fun d => d.parameters.length) = some 1 := by decide +kernel
theorem kc_RX10_114 : Cond.methodLink RX10 114 yX2_harmOf ∈ ktG ∧ (Cond.instanceMethod yX2_harmOf ∈ ktG ∧ Cond.selects yX2_harmOf.cls yX2_harmOf yX2_harmOf ∈ ktG) ∧ Cond.initialized yX2_harmOf.cls ∈ ktG ∧ Cond.code yX2_harmOf cX2_harmOf 4 (some .int) ∈ ktG := ⟨(kwm 975 (by decide +kernel) (by decide +kernel)), ⟨(kwm 976 (by decide +kernel) (by decide +kernel)), (kwm 977 (by decide +kernel) (by decide +kernel))⟩, (kwm 134 (by decide +kernel) (by decide +kernel)), kwm 978 (by decide +kernel) (by decide +kernel)⟩
theorem kh_X2_harmOf : yX2_harmOf.cls ≠ "java/lang/invoke/MethodHandle" ∧ yX2_harmOf.cls ≠ "java/lang/invoke/VarHandle" ∧ (parseMethodDescriptor yX2_harmOf.desc).map (fun d => d.parameters.length) = some 1 := by decide +kernel
theorem kl_RX10_118 : KLk RX10 118 2 7 := ⟨RX2, TX2, 12, rfl, by decide, Or.inr (by decide +kernel)⟩
def f_X10_meritOf (h : KH) (v0 : Nat) (v1 : Nat) (v2 : Int32) : Option (Int64 × KH) :=
  if kkind v0 = 10 then kb (f_X10_rightOf h v0 v2) fun r2 =>
  kb (f_X10_share r2.2 v0 r2.1) fun r6 =>
  if kkind v1 = 2 then kb (f_X2_harmOf r2.2 v1 v2) fun r10 =>
  some ((((r6).toInt64) - (((r10).toInt64) * (((kI r2.2 v1 7)).toInt64))), r2.2) else none else none
set_option maxHeartbeats 4000000 in
set_option maxRecDepth 100000 in
theorem s0_X10_meritOf {Z : Nat → (Nat → Nat) → State → Prop} (h : KH) (v0 : Nat) (v1 : Nat) (v2 : Int32) {t : Int64 × KH} (hn : h.1 = 243) (H : f_X10_meritOf h v0 v1 v2 = some t) : KX Z RX10 cX10_meritOf 3 false 3 (KRl cX10_meritOf t.1 t.2) 0 [(0, .ref v0), (1, .ref v1), (2, .int v2)] [] h := by
  unfold f_X10_meritOf at H
  refine x_aload_n (q := 1) dX10_meritOf_0 rfl rfl ?_
  refine x_aload_n (q := 2) dX10_meritOf_1 rfl rfl ?_
  refine x_iload_n (q := 3) dX10_meritOf_2 rfl rfl ?_
  replace H := kif H; obtain ⟨g1, H⟩ := H
  replace H := kbe H; obtain ⟨r2, c3, H⟩ := H
  have m4 := s_X10_rightOf (Z := Z) h v0 v2 hn c3
  refine x_callV (q := 6) (as := [.int v2]) (rest := [.ref v0]) dX10_meritOf_3 rfl kc_RX10_106 kh_X10_rightOf (by decide) (Nat.le_of_ble_eq_true rfl) m4 (ci := 10) (by exact ⟨rfl, by decide⟩) (k243 g1 (by decide) hn) ?_
  have n5 : (r2.2).1 = 243 := m4.1.full hn
  replace H := kbe H; obtain ⟨r6, c7, H⟩ := H
  have m8 := s_X10_share (Z := Z) r2.2 v0 r2.1 n5 c7
  refine x_callV (q := 9) (as := [.long r2.1]) (rest := []) dX10_meritOf_6 rfl kc_RX10_110 kh_X10_share (by decide) (Nat.le_of_ble_eq_true rfl) m8 (ci := 10) (by exact ⟨rfl, by decide⟩) (k243 g1 (by decide) n5) ?_
  refine x_i2l (q := 10) dX10_meritOf_9 rfl ?_
  refine x_aload_n (q := 11) dX10_meritOf_10 rfl rfl ?_
  refine x_iload_n (q := 12) dX10_meritOf_11 rfl rfl ?_
  replace H := kif H; obtain ⟨g9, H⟩ := H
  replace H := kbe H; obtain ⟨r10, c11, H⟩ := H
  have m12 := s_X2_harmOf (Z := Z) r2.2 v1 v2 n5 c11
  refine x_callV (q := 15) (as := [.int v2]) (rest := [.long ((r6).toInt64)]) dX10_meritOf_12 rfl kc_RX10_114 kh_X2_harmOf (by decide) (Nat.le_of_ble_eq_true rfl) m12 (ci := 2) (by exact ⟨rfl, by decide⟩) (k243 g9 (by decide) n5) ?_
  refine x_i2l (q := 16) dX10_meritOf_15 rfl ?_
  refine x_aload_n (q := 17) dX10_meritOf_16 rfl rfl ?_
  refine x_getI (q := 20) dX10_meritOf_17 rfl kl_RX10_118 (Or.inl rfl) (k243 g9 (by decide) n5) ?_
  refine x_i2l (q := 21) dX10_meritOf_20 rfl ?_
  refine x_lmul (q := 22) dX10_meritOf_21 rfl ?_
  refine x_lsub (q := 23) dX10_meritOf_22 rfl ?_
  cases H
  exact x_end ⟨dX10_meritOf_23, rfl, rfl⟩
theorem s_X10_meritOf {Z : Nat → (Nat → Nat) → State → Prop} (h : KH) (v0 : Nat) (v1 : Nat) (v2 : Int32) {t : Int64 × KH} (hn : h.1 = 243) (H : f_X10_meritOf h v0 v1 v2 = some t) : KM Z yX10_meritOf cX10_meritOf 3 (some .long) 3 [.ref v0, .ref v1, .int v2] h (some (.long t.1)) t.2 :=
  kx_l (own := RX10) (ini := false) (by decide +kernel) (by decide +kernel) rfl (Nat.le_of_ble_eq_true rfl) (s0_X10_meritOf h v0 v1 v2 hn H)
theorem dX8_heardBits_0 : decode cX8_heardBits 0 = .ok (.iconst 0, 1) := by decide +kernel
theorem dX8_heardBits_1 : decode cX8_heardBits 1 = .ok (.istore_n 1, 1) := by decide +kernel
theorem dX8_heardBits_2 : decode cX8_heardBits 2 = .ok (.iconst 0, 1) := by decide +kernel
theorem dX8_heardBits_3 : decode cX8_heardBits 3 = .ok (.istore_n 2, 1) := by decide +kernel
theorem dX8_heardBits_4 : decode cX8_heardBits 4 = .ok (.iload_n 2, 1) := by decide +kernel
theorem dX8_heardBits_5 : decode cX8_heardBits 5 = .ok (.bipush 6, 2) := by decide +kernel
theorem dX8_heardBits_7 : decode cX8_heardBits 7 = .ok (.if_icmp .ge 24, 3) := by decide +kernel
theorem dX8_heardBits_10 : decode cX8_heardBits 10 = .ok (.aload_n 0, 1) := by decide +kernel
theorem dX8_heardBits_11 : decode cX8_heardBits 11 = .ok (.getfield 25, 3) := by decide +kernel
theorem dX8_heardBits_14 : decode cX8_heardBits 14 = .ok (.iload_n 2, 1) := by decide +kernel
theorem dX8_heardBits_15 : decode cX8_heardBits 15 = .ok (.iaload, 1) := by decide +kernel
theorem dX8_heardBits_16 : decode cX8_heardBits 16 = .ok (.ifCond .eq 9, 3) := by decide +kernel
theorem dX8_heardBits_19 : decode cX8_heardBits 19 = .ok (.iload_n 1, 1) := by decide +kernel
theorem dX8_heardBits_20 : decode cX8_heardBits 20 = .ok (.iconst 1, 1) := by decide +kernel
theorem dX8_heardBits_21 : decode cX8_heardBits 21 = .ok (.iload_n 2, 1) := by decide +kernel
theorem dX8_heardBits_22 : decode cX8_heardBits 22 = .ok (.ishl, 1) := by decide +kernel
theorem dX8_heardBits_23 : decode cX8_heardBits 23 = .ok (.ior, 1) := by decide +kernel
theorem dX8_heardBits_24 : decode cX8_heardBits 24 = .ok (.istore_n 1, 1) := by decide +kernel
theorem dX8_heardBits_25 : decode cX8_heardBits 25 = .ok (.iinc 2 1, 3) := by decide +kernel
theorem dX8_heardBits_28 : decode cX8_heardBits 28 = .ok (.goto (-24), 3) := by decide +kernel
theorem dX8_heardBits_31 : decode cX8_heardBits 31 = .ok (.iload_n 1, 1) := by decide +kernel
theorem dX8_heardBits_32 : decode cX8_heardBits 32 = .ok (.ireturn, 1) := by decide +kernel
def E_X8_heardBits_l4 (h : KH) (v0 : Nat) : Int32 → Nat → List (Nat × Value) → List Value → KH → Prop := fun (e : Int32) pc ls st hh => pc = 31 ∧ ls = [(1, .int e)] ∧ st = [] ∧ h = hh
def B_X8_heardBits_l4 (h : KH) (v0 : Nat) : ((Int32 × Int32) ⊕ (Int32)) → Nat → List (Nat × Value) → List Value → KH → Prop := Sum.elim (fun (s : Int32 × Int32) pc ls st hh => pc = 4 ∧ ls = [(0, .ref v0), (1, .int s.1), (2, .int s.2)] ∧ st = [] ∧ hh = h) (E_X8_heardBits_l4 h v0)
def f_X8_heardBits_b25 (h : KH) (v0 : Nat) (v1 : Int32) (v2 : Int32) : Option ((Int32 × Int32) ⊕ (Int32)) :=
  kl (v2 + (1 : Int32)) fun x1 =>
  some (.inl (v1, x1))
set_option maxHeartbeats 4000000 in
set_option maxRecDepth 100000 in
theorem s_X8_heardBits_b25 {Z : Nat → (Nat → Nat) → State → Prop} (h : KH) (v0 : Nat) (v1 : Int32) (v2 : Int32) {t : (Int32 × Int32) ⊕ (Int32)} (hn : h.1 = 243) (H : f_X8_heardBits_b25 h v0 v1 v2 = some t) : KX Z RX8 cX8_heardBits 3 false 1 (B_X8_heardBits_l4 h v0 t) 25 [(0, .ref v0), (1, .int v1), (2, .int v2)] [] h := by
  unfold f_X8_heardBits_b25 at H
  replace H := kle H; obtain ⟨x1, q2, H⟩ := H
  refine x_iinc (q := 28) (i := 2) (ls2 := [(2, .int x1), (0, .ref v0), (1, .int v1)]) dX8_heardBits_25 rfl rfl (by decide) (by rw [q2]; rfl) ?_
  refine x_goto dX8_heardBits_28 (q := 4) (by decide) ?_
  cases H
  refine x_sub (ls2 := [(0, .ref v0), (1, .int v1), (2, .int x1)]) [1, 2, 0] rfl ?_
  exact x_end (x_cfg rfl)
def f_X8_heardBits_l4 (h : KH) (v0 : Nat) (s : Int32 × Int32) : Option ((Int32 × Int32) ⊕ (Int32)) :=
  if (6 : Int32) ≤ s.2 then
  some (.inr s.1)
  else
  if kkind v0 = 8 then if (kR h v0 4) < 999999 then if kkind (kR h v0 4) = 20 then if (s.2 < 0 ∨ klen (kR h v0 4) ≤ (s.2).toNatClampNeg) then none else if (kI h (kR h v0 4) ((s.2).toNatClampNeg)) = 0 then
  f_X8_heardBits_b25 h v0 s.1 s.2
  else
  kl (s.1 ||| ((1 : Int32) <<< (s.2 &&& 31))) fun x7 =>
  f_X8_heardBits_b25 h v0 x7 s.2 else none else none else none
set_option maxHeartbeats 4000000 in
set_option maxRecDepth 100000 in
theorem s_X8_heardBits_l4 {Z : Nat → (Nat → Nat) → State → Prop} (h : KH) (v0 : Nat) (s : Int32 × Int32) (t : (Int32 × Int32) ⊕ (Int32)) (hn : (h).1 = 243) (H : f_X8_heardBits_l4 h v0 s = some t) : KX Z RX8 cX8_heardBits 3 false 1 (B_X8_heardBits_l4 h v0 t) 4 [(0, .ref v0), (1, .int s.1), (2, .int s.2)] [] h := by
  unfold f_X8_heardBits_l4 at H
  refine x_iload_n (q := 5) dX8_heardBits_4 rfl rfl ?_
  refine x_bipush (q := 7) (v := (6 : Int32)) dX8_heardBits_5 rfl (by decide) ?_
  replace H := kite H; rcases H with ⟨g1, H⟩ | ⟨g1, H⟩
  · refine x_icmp_ge_t dX8_heardBits_7 (q := 31) (by decide) g1 ?_
    cases H
    refine x_sub (ls2 := [(1, .int s.1)]) [1] rfl ?_
    exact x_end (x_cfg rfl)
  · refine x_icmp_ge_f (q := 10) dX8_heardBits_7 (t := 31) (by decide) rfl g1 ?_
    refine x_aload_n (q := 11) dX8_heardBits_10 rfl rfl ?_
    replace H := kif H; obtain ⟨g2, H⟩ := H
    replace H := kif H; obtain ⟨g3, H⟩ := H
    refine x_getR (q := 14) dX8_heardBits_11 rfl kl_RX8_25 rfl (k243 g2 (by decide) hn) g3 ?_
    refine x_iload_n (q := 15) dX8_heardBits_14 rfl rfl ?_
    replace H := kif H; obtain ⟨g4, H⟩ := H
    replace H := kifn H; obtain ⟨g5, H⟩ := H
    refine x_iald (q := 16) dX8_heardBits_15 rfl (k243 g4 (by decide) hn) g5 ?_
    replace H := kite H; rcases H with ⟨g6, H⟩ | ⟨g6, H⟩
    · refine x_if_eq_t dX8_heardBits_16 (q := 25) (by decide) g6 ?_
      refine x_sub (ls2 := [(0, .ref v0), (1, .int s.1), (2, .int s.2)]) [0, 1, 2] rfl ?_
      exact s_X8_heardBits_b25 h v0 s.1 s.2 hn H
    · refine x_if_eq_f (q := 19) dX8_heardBits_16 (t := 25) (by decide) rfl g6 ?_
      refine x_iload_n (q := 20) dX8_heardBits_19 rfl rfl ?_
      refine x_iconst (q := 21) (v := (1 : Int32)) dX8_heardBits_20 rfl (by decide) ?_
      refine x_iload_n (q := 22) dX8_heardBits_21 rfl rfl ?_
      refine x_ishl (q := 23) dX8_heardBits_22 rfl ?_
      refine x_ior (q := 24) dX8_heardBits_23 rfl ?_
      replace H := kle H; obtain ⟨x7, q8, H⟩ := H
      refine x_nmI q8 ?_
      refine x_istore_n (q := 25) (i := 1) (ls2 := [(1, .int x7), (0, .ref v0), (2, .int s.2)]) dX8_heardBits_24 rfl rfl (by decide) rfl ?_
      refine x_sub (ls2 := [(0, .ref v0), (1, .int x7), (2, .int s.2)]) [1, 0, 2] rfl ?_
      exact s_X8_heardBits_b25 h v0 x7 s.2 hn H
theorem sl_X8_heardBits_l4 {Z : Nat → (Nat → Nat) → State → Prop} (h : KH) (v0 : Nat) (n : Nat) (s : Int32 × Int32) (r : Int32) (hn : (h).1 = 243) (H : kloop (f_X8_heardBits_l4 h v0) n s = some r) : KX Z RX8 cX8_heardBits 3 false 1 (E_X8_heardBits_l4 h v0 r) 4 [(0, .ref v0), (1, .int s.1), (2, .int s.2)] [] h :=
  k_loop (ls := (fun (s : Int32 × Int32) => ([(0, .ref v0), (1, .int s.1), (2, .int s.2)] : List (Nat × Value)))) (hp := (fun (s : Int32 × Int32) => (h : KH))) (G := E_X8_heardBits_l4 h v0) (fun s t hn H => s_X8_heardBits_l4 h v0 s t hn H) n s r hn H
def f_X8_heardBits (h : KH) (v0 : Nat) : Option (Int32) :=
  kb (kloop (f_X8_heardBits_l4 h v0) KF ((0 : Int32), (0 : Int32))) fun e1 =>
  some e1
set_option maxHeartbeats 4000000 in
set_option maxRecDepth 100000 in
theorem s0_X8_heardBits {Z : Nat → (Nat → Nat) → State → Prop} (h : KH) (v0 : Nat) {t : Int32} (hn : h.1 = 243) (H : f_X8_heardBits h v0 = some t) : KX Z RX8 cX8_heardBits 3 false 1 (KRi cX8_heardBits t h) 0 [(0, .ref v0)] [] h := by
  unfold f_X8_heardBits at H
  refine x_iconst (q := 1) (v := (0 : Int32)) dX8_heardBits_0 rfl (by decide) ?_
  refine x_istore_n (q := 2) (i := 1) (ls2 := [(1, .int (0 : Int32)), (0, .ref v0)]) dX8_heardBits_1 rfl rfl (by decide) rfl ?_
  refine x_iconst (q := 3) (v := (0 : Int32)) dX8_heardBits_2 rfl (by decide) ?_
  refine x_istore_n (q := 4) (i := 2) (ls2 := [(2, .int (0 : Int32)), (1, .int (0 : Int32)), (0, .ref v0)]) dX8_heardBits_3 rfl rfl (by decide) rfl ?_
  refine x_sub (ls2 := [(0, .ref v0), (1, .int (0 : Int32)), (2, .int (0 : Int32))]) [2, 1, 0] rfl ?_
  replace H := kbe H; obtain ⟨e1, c2, H⟩ := H
  refine x_app (sl_X8_heardBits_l4 h v0 KF ((0 : Int32), (0 : Int32)) e1 hn c2) fun pc2 ls2 st2 h2 hg m3 => ?_
  obtain ⟨rfl, rfl, rfl, rfl⟩ := hg
  refine x_iload_n (q := 32) dX8_heardBits_31 rfl rfl ?_
  cases H
  exact x_end ⟨dX8_heardBits_32, rfl, rfl⟩
theorem s_X8_heardBits {Z : Nat → (Nat → Nat) → State → Prop} (h : KH) (v0 : Nat) {t : Int32} (hn : h.1 = 243) (H : f_X8_heardBits h v0 = some t) : KM Z yX8_heardBits cX8_heardBits 3 (some .int) 1 [.ref v0] h (some (.int t)) h :=
  kx_i (own := RX8) (ini := false) (by decide +kernel) (by decide +kernel) rfl (Nat.le_of_ble_eq_true rfl) (s0_X8_heardBits h v0 hn H)
theorem dX10_isSure_0 : decode cX10_isSure 0 = .ok (.iload_n 1, 1) := by decide +kernel
theorem dX10_isSure_1 : decode cX10_isSure 1 = .ok (.iload_n 2, 1) := by decide +kernel
theorem dX10_isSure_2 : decode cX10_isSure 2 = .ok (.iand, 1) := by decide +kernel
theorem dX10_isSure_3 : decode cX10_isSure 3 = .ok (.ifCond .ne 29, 3) := by decide +kernel
theorem dX10_isSure_6 : decode cX10_isSure 6 = .ok (.aload_n 0, 1) := by decide +kernel
theorem dX10_isSure_7 : decode cX10_isSure 7 = .ok (.invokevirtual 89, 3) := by decide +kernel
theorem dX10_isSure_10 : decode cX10_isSure 10 = .ok (.lconst 0, 1) := by decide +kernel
theorem dX10_isSure_11 : decode cX10_isSure 11 = .ok (.lcmp, 1) := by decide +kernel
theorem dX10_isSure_12 : decode cX10_isSure 12 = .ok (.ifCond .le 20, 3) := by decide +kernel
theorem dX10_isSure_15 : decode cX10_isSure 15 = .ok (.aload_n 0, 1) := by decide +kernel
theorem dX10_isSure_16 : decode cX10_isSure 16 = .ok (.iload_n 1, 1) := by decide +kernel
theorem dX10_isSure_17 : decode cX10_isSure 17 = .ok (.invokevirtual 106, 3) := by decide +kernel
theorem dX10_isSure_20 : decode cX10_isSure 20 = .ok (.aload_n 0, 1) := by decide +kernel
theorem dX10_isSure_21 : decode cX10_isSure 21 = .ok (.invokevirtual 89, 3) := by decide +kernel
theorem dX10_isSure_24 : decode cX10_isSure 24 = .ok (.lcmp, 1) := by decide +kernel
theorem dX10_isSure_25 : decode cX10_isSure 25 = .ok (.ifCond .ne 7, 3) := by decide +kernel
theorem dX10_isSure_28 : decode cX10_isSure 28 = .ok (.iconst 1, 1) := by decide +kernel
theorem dX10_isSure_29 : decode cX10_isSure 29 = .ok (.goto 4, 3) := by decide +kernel
theorem dX10_isSure_32 : decode cX10_isSure 32 = .ok (.iconst 0, 1) := by decide +kernel
theorem dX10_isSure_33 : decode cX10_isSure 33 = .ok (.ireturn, 1) := by decide +kernel
def f_X10_isSure (h : KH) (v0 : Nat) (v1 : Int32) (v2 : Int32) : Option (Int32 × KH) :=
  if (v1 &&& v2) = 0 then
  if kkind v0 = 10 then kb (f_X10_total h v0) fun r3 =>
  if (lg_cmp r3 (0 : Int64)) ≤ 0 then
  some ((0 : Int32), h)
  else
  kb (f_X10_rightOf h v0 v1) fun r7 =>
  kb (f_X10_total r7.2 v0) fun r11 =>
  if (lg_cmp r7.1 r11) = 0 then
  some ((1 : Int32), r7.2)
  else
  some ((0 : Int32), r7.2) else none
  else
  some ((0 : Int32), h)
set_option maxHeartbeats 4000000 in
set_option maxRecDepth 100000 in
theorem s0_X10_isSure {Z : Nat → (Nat → Nat) → State → Prop} (h : KH) (v0 : Nat) (v1 : Int32) (v2 : Int32) {t : Int32 × KH} (hn : h.1 = 243) (H : f_X10_isSure h v0 v1 v2 = some t) : KX Z RX10 cX10_isSure 3 false 3 (KRz cX10_isSure t.1 t.2) 0 [(0, .ref v0), (1, .int v1), (2, .int v2)] [] h := by
  unfold f_X10_isSure at H
  refine x_iload_n (q := 1) dX10_isSure_0 rfl rfl ?_
  refine x_iload_n (q := 2) dX10_isSure_1 rfl rfl ?_
  refine x_iand (q := 3) dX10_isSure_2 rfl ?_
  replace H := kite H; rcases H with ⟨g1, H⟩ | ⟨g1, H⟩
  · refine x_if_ne_f (q := 6) dX10_isSure_3 (t := 32) (by decide) rfl g1 ?_
    refine x_aload_n (q := 7) dX10_isSure_6 rfl rfl ?_
    replace H := kif H; obtain ⟨g2, H⟩ := H
    replace H := kbe H; obtain ⟨r3, c4, H⟩ := H
    have m5 := s_X10_total (Z := Z) h v0 hn c4
    refine x_callV (q := 10) (as := []) (rest := []) dX10_isSure_7 rfl kc_RX10_89 kh_X10_total (by decide) (Nat.le_of_ble_eq_true rfl) m5 (ci := 10) (by exact ⟨rfl, by decide⟩) (k243 g2 (by decide) hn) ?_
    refine x_lconst (q := 11) (v := (0 : Int64)) dX10_isSure_10 rfl (by decide) ?_
    refine x_lcmp (q := 12) dX10_isSure_11 rfl ?_
    replace H := kite H; rcases H with ⟨g6, H⟩ | ⟨g6, H⟩
    · refine x_if_le_t dX10_isSure_12 (q := 32) (by decide) g6 ?_
      refine x_iconst (q := 33) (v := (0 : Int32)) dX10_isSure_32 rfl (by decide) ?_
      cases H
      exact x_end ⟨(Or.inl rfl), dX10_isSure_33, rfl, rfl⟩
    · refine x_if_le_f (q := 15) dX10_isSure_12 (t := 32) (by decide) rfl g6 ?_
      refine x_aload_n (q := 16) dX10_isSure_15 rfl rfl ?_
      refine x_iload_n (q := 17) dX10_isSure_16 rfl rfl ?_
      replace H := kbe H; obtain ⟨r7, c8, H⟩ := H
      have m9 := s_X10_rightOf (Z := Z) h v0 v1 hn c8
      refine x_callV (q := 20) (as := [.int v1]) (rest := []) dX10_isSure_17 rfl kc_RX10_106 kh_X10_rightOf (by decide) (Nat.le_of_ble_eq_true rfl) m9 (ci := 10) (by exact ⟨rfl, by decide⟩) (k243 g2 (by decide) hn) ?_
      have n10 : (r7.2).1 = 243 := m9.1.full hn
      refine x_aload_n (q := 21) dX10_isSure_20 rfl rfl ?_
      replace H := kbe H; obtain ⟨r11, c12, H⟩ := H
      have m13 := s_X10_total (Z := Z) r7.2 v0 n10 c12
      refine x_callV (q := 24) (as := []) (rest := [.long r7.1]) dX10_isSure_21 rfl kc_RX10_89 kh_X10_total (by decide) (Nat.le_of_ble_eq_true rfl) m13 (ci := 10) (by exact ⟨rfl, by decide⟩) (k243 g2 (by decide) n10) ?_
      refine x_lcmp (q := 25) dX10_isSure_24 rfl ?_
      replace H := kite H; rcases H with ⟨g14, H⟩ | ⟨g14, H⟩
      · refine x_if_ne_f (q := 28) dX10_isSure_25 (t := 32) (by decide) rfl g14 ?_
        refine x_iconst (q := 29) (v := (1 : Int32)) dX10_isSure_28 rfl (by decide) ?_
        refine x_goto dX10_isSure_29 (q := 33) (by decide) ?_
        cases H
        exact x_end ⟨(Or.inr rfl), dX10_isSure_33, rfl, rfl⟩
      · refine x_if_ne_t dX10_isSure_25 (q := 32) (by decide) g14 ?_
        refine x_iconst (q := 33) (v := (0 : Int32)) dX10_isSure_32 rfl (by decide) ?_
        cases H
        exact x_end ⟨(Or.inl rfl), dX10_isSure_33, rfl, rfl⟩
  · refine x_if_ne_t dX10_isSure_3 (q := 32) (by decide) g1 ?_
    refine x_iconst (q := 33) (v := (0 : Int32)) dX10_isSure_32 rfl (by decide) ?_
    cases H
    exact x_end ⟨(Or.inl rfl), dX10_isSure_33, rfl, rfl⟩
theorem s_X10_isSure {Z : Nat → (Nat → Nat) → State → Prop} (h : KH) (v0 : Nat) (v1 : Int32) (v2 : Int32) {t : Int32 × KH} (hn : h.1 = 243) (H : f_X10_isSure h v0 v1 v2 = some t) : KM Z yX10_isSure cX10_isSure 3 (some .boolean) 3 [.ref v0, .int v1, .int v2] h (some (.int t.1)) t.2 :=
  kx_z (own := RX10) (ini := false) (by decide +kernel) (by decide +kernel) rfl (Nat.le_of_ble_eq_true rfl) (s0_X10_isSure h v0 v1 v2 hn H)
theorem dX6_setValues_0 : decode cX6_setValues 0 = .ok (.aload_n 3, 1) := by decide +kernel
theorem dX6_setValues_1 : decode cX6_setValues 1 = .ok (.invokevirtual 36, 3) := by decide +kernel
theorem dX6_setValues_4 : decode cX6_setValues 4 = .ok (.lconst 0, 1) := by decide +kernel
theorem dX6_setValues_5 : decode cX6_setValues 5 = .ok (.lcmp, 1) := by decide +kernel
theorem dX6_setValues_6 : decode cX6_setValues 6 = .ok (.ifCond .le 17, 3) := by decide +kernel
theorem dX6_setValues_9 : decode cX6_setValues 9 = .ok (.aload_n 2, 1) := by decide +kernel
theorem dX6_setValues_10 : decode cX6_setValues 10 = .ok (.getfield 42, 3) := by decide +kernel
theorem dX6_setValues_13 : decode cX6_setValues 13 = .ok (.iload 4, 2) := by decide +kernel
theorem dX6_setValues_15 : decode cX6_setValues 15 = .ok (.iaload, 1) := by decide +kernel
theorem dX6_setValues_16 : decode cX6_setValues 16 = .ok (.ifCond .ne 7, 3) := by decide +kernel
theorem dX6_setValues_19 : decode cX6_setValues 19 = .ok (.iconst 1, 1) := by decide +kernel
theorem dX6_setValues_20 : decode cX6_setValues 20 = .ok (.goto 4, 3) := by decide +kernel
theorem dX6_setValues_23 : decode cX6_setValues 23 = .ok (.iconst 0, 1) := by decide +kernel
theorem dX6_setValues_24 : decode cX6_setValues 24 = .ok (.istore 5, 2) := by decide +kernel
theorem dX6_setValues_26 : decode cX6_setValues 26 = .ok (.aload_n 0, 1) := by decide +kernel
theorem dX6_setValues_27 : decode cX6_setValues 27 = .ok (.getfield 18, 3) := by decide +kernel
theorem dX6_setValues_30 : decode cX6_setValues 30 = .ok (.bipush 13, 2) := by decide +kernel
theorem dX6_setValues_32 : decode cX6_setValues 32 = .ok (.iload 4, 2) := by decide +kernel
theorem dX6_setValues_34 : decode cX6_setValues 34 = .ok (.iastore, 1) := by decide +kernel
theorem dX6_setValues_35 : decode cX6_setValues 35 = .ok (.aload_n 0, 1) := by decide +kernel
theorem dX6_setValues_36 : decode cX6_setValues 36 = .ok (.getfield 18, 3) := by decide +kernel
theorem dX6_setValues_39 : decode cX6_setValues 39 = .ok (.bipush 6, 2) := by decide +kernel
theorem dX6_setValues_41 : decode cX6_setValues 41 = .ok (.aload_n 1, 1) := by decide +kernel
theorem dX6_setValues_42 : decode cX6_setValues 42 = .ok (.getfield 47, 3) := by decide +kernel
theorem dX6_setValues_45 : decode cX6_setValues 45 = .ok (.iload 4, 2) := by decide +kernel
theorem dX6_setValues_47 : decode cX6_setValues 47 = .ok (.aaload, 1) := by decide +kernel
theorem dX6_setValues_48 : decode cX6_setValues 48 = .ok (.iconst 1, 1) := by decide +kernel
theorem dX6_setValues_49 : decode cX6_setValues 49 = .ok (.iaload, 1) := by decide +kernel
theorem dX6_setValues_50 : decode cX6_setValues 50 = .ok (.iastore, 1) := by decide +kernel
theorem dX6_setValues_51 : decode cX6_setValues 51 = .ok (.aload_n 0, 1) := by decide +kernel
theorem dX6_setValues_52 : decode cX6_setValues 52 = .ok (.getfield 18, 3) := by decide +kernel
theorem dX6_setValues_55 : decode cX6_setValues 55 = .ok (.bipush 11, 2) := by decide +kernel
theorem dX6_setValues_57 : decode cX6_setValues 57 = .ok (.aload_n 2, 1) := by decide +kernel
theorem dX6_setValues_58 : decode cX6_setValues 58 = .ok (.getfield 53, 3) := by decide +kernel
theorem dX6_setValues_61 : decode cX6_setValues 61 = .ok (.iload 4, 2) := by decide +kernel
theorem dX6_setValues_63 : decode cX6_setValues 63 = .ok (.iaload, 1) := by decide +kernel
theorem dX6_setValues_64 : decode cX6_setValues 64 = .ok (.iastore, 1) := by decide +kernel
theorem dX6_setValues_65 : decode cX6_setValues 65 = .ok (.aload_n 0, 1) := by decide +kernel
theorem dX6_setValues_66 : decode cX6_setValues 66 = .ok (.getfield 18, 3) := by decide +kernel
theorem dX6_setValues_69 : decode cX6_setValues 69 = .ok (.bipush 14, 2) := by decide +kernel
theorem dX6_setValues_71 : decode cX6_setValues 71 = .ok (.iload 5, 2) := by decide +kernel
theorem dX6_setValues_73 : decode cX6_setValues 73 = .ok (.ifCond .eq 16, 3) := by decide +kernel
theorem dX6_setValues_76 : decode cX6_setValues 76 = .ok (.aload_n 3, 1) := by decide +kernel
theorem dX6_setValues_77 : decode cX6_setValues 77 = .ok (.aload_n 1, 1) := by decide +kernel
theorem dX6_setValues_78 : decode cX6_setValues 78 = .ok (.iconst 1, 1) := by decide +kernel
theorem dX6_setValues_79 : decode cX6_setValues 79 = .ok (.iload 4, 2) := by decide +kernel
theorem dX6_setValues_81 : decode cX6_setValues 81 = .ok (.ishl, 1) := by decide +kernel
theorem dX6_setValues_82 : decode cX6_setValues 82 = .ok (.invokevirtual 56, 3) := by decide +kernel
theorem dX6_setValues_85 : decode cX6_setValues 85 = .ok (.l2i, 1) := by decide +kernel
theorem dX6_setValues_86 : decode cX6_setValues 86 = .ok (.goto 4, 3) := by decide +kernel
theorem dX6_setValues_89 : decode cX6_setValues 89 = .ok (.iconst 0, 1) := by decide +kernel
theorem dX6_setValues_90 : decode cX6_setValues 90 = .ok (.iastore, 1) := by decide +kernel
theorem dX6_setValues_91 : decode cX6_setValues 91 = .ok (.aload_n 0, 1) := by decide +kernel
theorem dX6_setValues_92 : decode cX6_setValues 92 = .ok (.getfield 18, 3) := by decide +kernel
theorem dX6_setValues_95 : decode cX6_setValues 95 = .ok (.bipush 15, 2) := by decide +kernel
theorem dX6_setValues_97 : decode cX6_setValues 97 = .ok (.aload_n 3, 1) := by decide +kernel
theorem dX6_setValues_98 : decode cX6_setValues 98 = .ok (.iconst 1, 1) := by decide +kernel
theorem dX6_setValues_99 : decode cX6_setValues 99 = .ok (.iload 4, 2) := by decide +kernel
theorem dX6_setValues_101 : decode cX6_setValues 101 = .ok (.ishl, 1) := by decide +kernel
theorem dX6_setValues_102 : decode cX6_setValues 102 = .ok (.aload_n 2, 1) := by decide +kernel
theorem dX6_setValues_103 : decode cX6_setValues 103 = .ok (.invokevirtual 60, 3) := by decide +kernel
theorem dX6_setValues_106 : decode cX6_setValues 106 = .ok (.invokevirtual 64, 3) := by decide +kernel
theorem dX6_setValues_109 : decode cX6_setValues 109 = .ok (.ifCond .eq 7, 3) := by decide +kernel
theorem dX6_setValues_112 : decode cX6_setValues 112 = .ok (.iconst 1, 1) := by decide +kernel
theorem dX6_setValues_113 : decode cX6_setValues 113 = .ok (.goto 4, 3) := by decide +kernel
theorem dX6_setValues_116 : decode cX6_setValues 116 = .ok (.iconst 0, 1) := by decide +kernel
theorem dX6_setValues_117 : decode cX6_setValues 117 = .ok (.iastore, 1) := by decide +kernel
theorem dX6_setValues_118 : decode cX6_setValues 118 = .ok (.aload_n 1, 1) := by decide +kernel
theorem dX6_setValues_119 : decode cX6_setValues 119 = .ok (.iload 4, 2) := by decide +kernel
theorem dX6_setValues_121 : decode cX6_setValues 121 = .ok (.aload_n 2, 1) := by decide +kernel
theorem dX6_setValues_122 : decode cX6_setValues 122 = .ok (.getfield 53, 3) := by decide +kernel
theorem dX6_setValues_125 : decode cX6_setValues 125 = .ok (.iload 4, 2) := by decide +kernel
theorem dX6_setValues_127 : decode cX6_setValues 127 = .ok (.iaload, 1) := by decide +kernel
theorem dX6_setValues_128 : decode cX6_setValues 128 = .ok (.invokevirtual 68, 3) := by decide +kernel
theorem dX6_setValues_131 : decode cX6_setValues 131 = .ok (.istore 6, 2) := by decide +kernel
theorem dX6_setValues_133 : decode cX6_setValues 133 = .ok (.iconst 0, 1) := by decide +kernel
theorem dX6_setValues_134 : decode cX6_setValues 134 = .ok (.istore 7, 2) := by decide +kernel
theorem dX6_setValues_136 : decode cX6_setValues 136 = .ok (.iload 7, 2) := by decide +kernel
theorem dX6_setValues_138 : decode cX6_setValues 138 = .ok (.bipush 6, 2) := by decide +kernel
theorem dX6_setValues_140 : decode cX6_setValues 140 = .ok (.if_icmp .ge 57, 3) := by decide +kernel
theorem dX6_setValues_143 : decode cX6_setValues 143 = .ok (.iload 6, 2) := by decide +kernel
theorem dX6_setValues_145 : decode cX6_setValues 145 = .ok (.iconst 2, 1) := by decide +kernel
theorem dX6_setValues_146 : decode cX6_setValues 146 = .ok (.iload 7, 2) := by decide +kernel
theorem dX6_setValues_148 : decode cX6_setValues 148 = .ok (.imul, 1) := by decide +kernel
theorem dX6_setValues_149 : decode cX6_setValues 149 = .ok (.ishr, 1) := by decide +kernel
theorem dX6_setValues_150 : decode cX6_setValues 150 = .ok (.iconst 1, 1) := by decide +kernel
theorem dX6_setValues_151 : decode cX6_setValues 151 = .ok (.iand, 1) := by decide +kernel
theorem dX6_setValues_152 : decode cX6_setValues 152 = .ok (.iload 6, 2) := by decide +kernel
theorem dX6_setValues_154 : decode cX6_setValues 154 = .ok (.iconst 2, 1) := by decide +kernel
theorem dX6_setValues_155 : decode cX6_setValues 155 = .ok (.iload 7, 2) := by decide +kernel
theorem dX6_setValues_157 : decode cX6_setValues 157 = .ok (.imul, 1) := by decide +kernel
theorem dX6_setValues_158 : decode cX6_setValues 158 = .ok (.iconst 1, 1) := by decide +kernel
theorem dX6_setValues_159 : decode cX6_setValues 159 = .ok (.iadd, 1) := by decide +kernel
theorem dX6_setValues_160 : decode cX6_setValues 160 = .ok (.ishr, 1) := by decide +kernel
theorem dX6_setValues_161 : decode cX6_setValues 161 = .ok (.iconst 1, 1) := by decide +kernel
theorem dX6_setValues_162 : decode cX6_setValues 162 = .ok (.iand, 1) := by decide +kernel
theorem dX6_setValues_163 : decode cX6_setValues 163 = .ok (.iadd, 1) := by decide +kernel
theorem dX6_setValues_164 : decode cX6_setValues 164 = .ok (.istore 8, 2) := by decide +kernel
theorem dX6_setValues_166 : decode cX6_setValues 166 = .ok (.aload_n 0, 1) := by decide +kernel
theorem dX6_setValues_167 : decode cX6_setValues 167 = .ok (.getfield 18, 3) := by decide +kernel
theorem dX6_setValues_170 : decode cX6_setValues 170 = .ok (.bipush 27, 2) := by decide +kernel
theorem dX6_setValues_172 : decode cX6_setValues 172 = .ok (.iload 7, 2) := by decide +kernel
theorem dX6_setValues_174 : decode cX6_setValues 174 = .ok (.iadd, 1) := by decide +kernel
theorem dX6_setValues_175 : decode cX6_setValues 175 = .ok (.iload 7, 2) := by decide +kernel
theorem dX6_setValues_177 : decode cX6_setValues 177 = .ok (.aload_n 1, 1) := by decide +kernel
theorem dX6_setValues_178 : decode cX6_setValues 178 = .ok (.getfield 72, 3) := by decide +kernel
theorem dX6_setValues_181 : decode cX6_setValues 181 = .ok (.if_icmp .ge 8, 3) := by decide +kernel
theorem dX6_setValues_184 : decode cX6_setValues 184 = .ok (.iload 8, 2) := by decide +kernel
theorem dX6_setValues_186 : decode cX6_setValues 186 = .ok (.goto 4, 3) := by decide +kernel
theorem dX6_setValues_189 : decode cX6_setValues 189 = .ok (.iconst 0, 1) := by decide +kernel
theorem dX6_setValues_190 : decode cX6_setValues 190 = .ok (.iastore, 1) := by decide +kernel
theorem dX6_setValues_191 : decode cX6_setValues 191 = .ok (.iinc 7 1, 3) := by decide +kernel
theorem dX6_setValues_194 : decode cX6_setValues 194 = .ok (.goto (-58), 3) := by decide +kernel
theorem dX6_setValues_197 : decode cX6_setValues 197 = .ok (.return_, 1) := by decide +kernel
theorem kc_RX6_36 : Cond.methodLink RX6 36 yX10_total ∈ ktG ∧ (Cond.instanceMethod yX10_total ∈ ktG ∧ Cond.selects yX10_total.cls yX10_total yX10_total ∈ ktG) ∧ Cond.initialized yX10_total.cls ∈ ktG ∧ Cond.code yX10_total cX10_total 1 (some .long) ∈ ktG := ⟨(kwm 1143 (by decide +kernel) (by decide +kernel)), ⟨(kwm 933 (by decide +kernel) (by decide +kernel)), (kwm 934 (by decide +kernel) (by decide +kernel))⟩, (kwm 138 (by decide +kernel) (by decide +kernel)), kwm 935 (by decide +kernel) (by decide +kernel)⟩
theorem kl_RX6_18 : KLk RX6 18 6 1 := ⟨RX6, TX6, 5, rfl, by decide, Or.inl (kwm 194 (by decide +kernel) (by decide +kernel))⟩
theorem kl_RX6_47 : KLk RX6 47 2 1 := ⟨RX2, TX2, 12, rfl, by decide, Or.inr (by decide +kernel)⟩
theorem kl_RX6_53 : KLk RX6 53 8 3 := ⟨RX8, TX8, 6, rfl, by decide, Or.inr (by decide +kernel)⟩
theorem kc_RX6_60 : Cond.methodLink RX6 60 yX8_heardBits ∈ ktG ∧ (Cond.instanceMethod yX8_heardBits ∈ ktG ∧ Cond.selects yX8_heardBits.cls yX8_heardBits yX8_heardBits ∈ ktG) ∧ Cond.initialized yX8_heardBits.cls ∈ ktG ∧ Cond.code yX8_heardBits cX8_heardBits 3 (some .int) ∈ ktG := ⟨(kwm 1145 (by decide +kernel) (by decide +kernel)), ⟨(kwm 792 (by decide +kernel) (by decide +kernel)), (kwm 793 (by decide +kernel) (by decide +kernel))⟩, (kwm 135 (by decide +kernel) (by decide +kernel)), kwm 794 (by decide +kernel) (by decide +kernel)⟩
theorem kh_X8_heardBits : yX8_heardBits.cls ≠ "java/lang/invoke/MethodHandle" ∧ yX8_heardBits.cls ≠ "java/lang/invoke/VarHandle" ∧ (parseMethodDescriptor yX8_heardBits.desc).map (fun d => d.parameters.length) = some 0 := by decide +kernel
theorem kc_RX6_64 : Cond.methodLink RX6 64 yX10_isSure ∈ ktG ∧ (Cond.instanceMethod yX10_isSure ∈ ktG ∧ Cond.selects yX10_isSure.cls yX10_isSure yX10_isSure ∈ ktG) ∧ Cond.initialized yX10_isSure.cls ∈ ktG ∧ Cond.code yX10_isSure cX10_isSure 3 (some .boolean) ∈ ktG := ⟨(kwm 1146 (by decide +kernel) (by decide +kernel)), ⟨(kwm 1008 (by decide +kernel) (by decide +kernel)), (kwm 1009 (by decide +kernel) (by decide +kernel))⟩, (kwm 138 (by decide +kernel) (by decide +kernel)), kwm 1010 (by decide +kernel) (by decide +kernel)⟩
theorem kh_X10_isSure : yX10_isSure.cls ≠ "java/lang/invoke/MethodHandle" ∧ yX10_isSure.cls ≠ "java/lang/invoke/VarHandle" ∧ (parseMethodDescriptor yX10_isSure.desc).map (fun d => d.parameters.length) = some 2 := by decide +kernel
theorem kc_RX6_68 : Cond.methodLink RX6 68 yX2_yieldBits ∈ ktG ∧ (Cond.instanceMethod yX2_yieldBits ∈ ktG ∧ Cond.selects yX2_yieldBits.cls yX2_yieldBits yX2_yieldBits ∈ ktG) ∧ Cond.initialized yX2_yieldBits.cls ∈ ktG ∧ Cond.code yX2_yieldBits cX2_yieldBits 7 (some .int) ∈ ktG := ⟨(kwm 1147 (by decide +kernel) (by decide +kernel)), ⟨(kwm 849 (by decide +kernel) (by decide +kernel)), (kwm 850 (by decide +kernel) (by decide +kernel))⟩, (kwm 134 (by decide +kernel) (by decide +kernel)), kwm 851 (by decide +kernel) (by decide +kernel)⟩
theorem kh_X2_yieldBits : yX2_yieldBits.cls ≠ "java/lang/invoke/MethodHandle" ∧ yX2_yieldBits.cls ≠ "java/lang/invoke/VarHandle" ∧ (parseMethodDescriptor yX2_yieldBits.desc).map (fun d => d.parameters.length) = some 2 := by decide +kernel
theorem kl_RX6_72 : KLk RX6 72 2 3 := ⟨RX2, TX2, 12, rfl, by decide, Or.inr (by decide +kernel)⟩
theorem kc_RX6_56 : Cond.methodLink RX6 56 yX10_meritOf ∈ ktG ∧ (Cond.instanceMethod yX10_meritOf ∈ ktG ∧ Cond.selects yX10_meritOf.cls yX10_meritOf yX10_meritOf ∈ ktG) ∧ Cond.initialized yX10_meritOf.cls ∈ ktG ∧ Cond.code yX10_meritOf cX10_meritOf 3 (some .long) ∈ ktG := ⟨(kwm 1144 (by decide +kernel) (by decide +kernel)), ⟨(kwm 966 (by decide +kernel) (by decide +kernel)), (kwm 967 (by decide +kernel) (by decide +kernel))⟩, (kwm 138 (by decide +kernel) (by decide +kernel)), kwm 968 (by decide +kernel) (by decide +kernel)⟩
theorem kh_X10_meritOf : yX10_meritOf.cls ≠ "java/lang/invoke/MethodHandle" ∧ yX10_meritOf.cls ≠ "java/lang/invoke/VarHandle" ∧ (parseMethodDescriptor yX10_meritOf.desc).map (fun d => d.parameters.length) = some 2 := by decide +kernel
theorem kl_RX6_42 : KLk RX6 42 8 4 := ⟨RX8, TX8, 6, rfl, by decide, Or.inr (by decide +kernel)⟩
def E_X6_setValues_l136 (v0 : Nat) (v1 : Nat) (v6 : Int32) : KH → Nat → List (Nat × Value) → List Value → KH → Prop := fun (e : KH) pc ls st hh => pc = 197 ∧ ls = [] ∧ st = [] ∧ e = hh
def B_X6_setValues_l136 (v0 : Nat) (v1 : Nat) (v6 : Int32) : ((Int32 × KH) ⊕ (KH)) → Nat → List (Nat × Value) → List Value → KH → Prop := Sum.elim (fun (s : Int32 × KH) pc ls st hh => pc = 136 ∧ ls = [(0, .ref v0), (1, .ref v1), (6, .int v6), (7, .int s.1)] ∧ st = [] ∧ hh = s.2) (E_X6_setValues_l136 v0 v1 v6)
def f_X6_setValues_b190 (h : KH) (v0 : Nat) (v1 : Nat) (v6 : Int32) (v7 : Int32) (w0 : Nat) (w1 : Int32) (w2 : Int32) : Option ((Int32 × KH) ⊕ (KH)) :=
  if kkind w0 = 20 then if (w1 < 0 ∨ klen w0 ≤ (w1).toNatClampNeg) then none else kl (ksI h w0 ((w1).toNatClampNeg) w2) fun h3 =>
  kl (v7 + (1 : Int32)) fun x6 =>
  some (.inl (x6, h3)) else none
set_option maxHeartbeats 4000000 in
set_option maxRecDepth 100000 in
theorem s_X6_setValues_b190 {Z : Nat → (Nat → Nat) → State → Prop} (h : KH) (v0 : Nat) (v1 : Nat) (v6 : Int32) (v7 : Int32) (w0 : Nat) (w1 : Int32) (w2 : Int32) {t : (Int32 × KH) ⊕ (KH)} (hn : h.1 = 243) (H : f_X6_setValues_b190 h v0 v1 v6 v7 w0 w1 w2 = some t) : KX Z RX6 cX6_setValues 9 false 6 (B_X6_setValues_l136 v0 v1 v6 t) 190 [(0, .ref v0), (1, .ref v1), (6, .int v6), (7, .int v7)] [.int w2, .int w1, .ref w0] h := by
  unfold f_X6_setValues_b190 at H
  replace H := kif H; obtain ⟨g1, H⟩ := H
  replace H := kifn H; obtain ⟨g2, H⟩ := H
  replace H := kle H; obtain ⟨h3, q4, H⟩ := H
  refine x_iast (q := 191) dX6_setValues_190 rfl (k243 g1 (by decide) hn) g2 ?_
  refine x_nmH q4 ?_
  have n5 : h3.1 = 243 := by rw [q4]; exact hn
  replace H := kle H; obtain ⟨x6, q7, H⟩ := H
  refine x_iinc (q := 194) (i := 7) (ls2 := [(7, .int x6), (0, .ref v0), (1, .ref v1), (6, .int v6)]) dX6_setValues_191 rfl rfl (by decide) (by rw [q7]; rfl) ?_
  refine x_goto dX6_setValues_194 (q := 136) (by decide) ?_
  cases H
  refine x_sub (ls2 := [(0, .ref v0), (1, .ref v1), (6, .int v6), (7, .int x6)]) [1, 2, 3, 0] rfl ?_
  exact x_end (x_cfg rfl)
def f_X6_setValues_l136 (v0 : Nat) (v1 : Nat) (v6 : Int32) (s : Int32 × KH) : Option ((Int32 × KH) ⊕ (KH)) :=
  if (6 : Int32) ≤ s.1 then
  some (.inr s.2)
  else
  kl (((v6 >>> (((2 : Int32) * s.1) &&& 31)) &&& (1 : Int32)) + ((v6 >>> ((((2 : Int32) * s.1) + (1 : Int32)) &&& 31)) &&& (1 : Int32))) fun x2 =>
  if kkind v0 = 6 then if (kR s.2 v0 1) < 999999 then if kkind v1 = 2 then if (kI s.2 v1 3) ≤ s.1 then
  f_X6_setValues_b190 s.2 v0 v1 v6 s.1 (kR s.2 v0 1) ((27 : Int32) + s.1) (0 : Int32)
  else
  f_X6_setValues_b190 s.2 v0 v1 v6 s.1 (kR s.2 v0 1) ((27 : Int32) + s.1) x2 else none else none else none
set_option maxHeartbeats 4000000 in
set_option maxRecDepth 100000 in
theorem s_X6_setValues_l136 {Z : Nat → (Nat → Nat) → State → Prop} (v0 : Nat) (v1 : Nat) (v6 : Int32) (s : Int32 × KH) (t : (Int32 × KH) ⊕ (KH)) (hn : (s.2).1 = 243) (H : f_X6_setValues_l136 v0 v1 v6 s = some t) : KX Z RX6 cX6_setValues 9 false 6 (B_X6_setValues_l136 v0 v1 v6 t) 136 [(0, .ref v0), (1, .ref v1), (6, .int v6), (7, .int s.1)] [] s.2 := by
  unfold f_X6_setValues_l136 at H
  refine x_iload (q := 138) dX6_setValues_136 rfl rfl ?_
  refine x_bipush (q := 140) (v := (6 : Int32)) dX6_setValues_138 rfl (by decide) ?_
  replace H := kite H; rcases H with ⟨g1, H⟩ | ⟨g1, H⟩
  · refine x_icmp_ge_t dX6_setValues_140 (q := 197) (by decide) g1 ?_
    cases H
    refine x_sub (ls2 := []) [] rfl ?_
    exact x_end (x_cfg rfl)
  · refine x_icmp_ge_f (q := 143) dX6_setValues_140 (t := 197) (by decide) rfl g1 ?_
    refine x_iload (q := 145) dX6_setValues_143 rfl rfl ?_
    refine x_iconst (q := 146) (v := (2 : Int32)) dX6_setValues_145 rfl (by decide) ?_
    refine x_iload (q := 148) dX6_setValues_146 rfl rfl ?_
    refine x_imul (q := 149) dX6_setValues_148 rfl ?_
    refine x_ishr (q := 150) dX6_setValues_149 rfl ?_
    refine x_iconst (q := 151) (v := (1 : Int32)) dX6_setValues_150 rfl (by decide) ?_
    refine x_iand (q := 152) dX6_setValues_151 rfl ?_
    refine x_iload (q := 154) dX6_setValues_152 rfl rfl ?_
    refine x_iconst (q := 155) (v := (2 : Int32)) dX6_setValues_154 rfl (by decide) ?_
    refine x_iload (q := 157) dX6_setValues_155 rfl rfl ?_
    refine x_imul (q := 158) dX6_setValues_157 rfl ?_
    refine x_iconst (q := 159) (v := (1 : Int32)) dX6_setValues_158 rfl (by decide) ?_
    refine x_iadd (q := 160) dX6_setValues_159 rfl ?_
    refine x_ishr (q := 161) dX6_setValues_160 rfl ?_
    refine x_iconst (q := 162) (v := (1 : Int32)) dX6_setValues_161 rfl (by decide) ?_
    refine x_iand (q := 163) dX6_setValues_162 rfl ?_
    refine x_iadd (q := 164) dX6_setValues_163 rfl ?_
    replace H := kle H; obtain ⟨x2, q3, H⟩ := H
    refine x_nmI q3 ?_
    refine x_istore (q := 166) (i := 8) (ls2 := [(8, .int x2), (0, .ref v0), (1, .ref v1), (6, .int v6), (7, .int s.1)]) dX6_setValues_164 rfl (by decide) rfl ?_
    refine x_aload_n (q := 167) dX6_setValues_166 rfl rfl ?_
    replace H := kif H; obtain ⟨g4, H⟩ := H
    replace H := kif H; obtain ⟨g5, H⟩ := H
    refine x_getR (q := 170) dX6_setValues_167 rfl kl_RX6_18 rfl (k243 g4 (by decide) hn) g5 ?_
    refine x_bipush (q := 172) (v := (27 : Int32)) dX6_setValues_170 rfl (by decide) ?_
    refine x_iload (q := 174) dX6_setValues_172 rfl rfl ?_
    refine x_iadd (q := 175) dX6_setValues_174 rfl ?_
    refine x_iload (q := 177) dX6_setValues_175 rfl rfl ?_
    refine x_aload_n (q := 178) dX6_setValues_177 rfl rfl ?_
    replace H := kif H; obtain ⟨g6, H⟩ := H
    refine x_getI (q := 181) dX6_setValues_178 rfl kl_RX6_72 (Or.inl rfl) (k243 g6 (by decide) hn) ?_
    replace H := kite H; rcases H with ⟨g7, H⟩ | ⟨g7, H⟩
    · refine x_icmp_ge_t dX6_setValues_181 (q := 189) (by decide) g7 ?_
      refine x_iconst (q := 190) (v := (0 : Int32)) dX6_setValues_189 rfl (by decide) ?_
      refine x_sub (ls2 := [(0, .ref v0), (1, .ref v1), (6, .int v6), (7, .int s.1)]) [1, 2, 3, 4] rfl ?_
      exact s_X6_setValues_b190 s.2 v0 v1 v6 s.1 (kR s.2 v0 1) ((27 : Int32) + s.1) (0 : Int32) hn H
    · refine x_icmp_ge_f (q := 184) dX6_setValues_181 (t := 189) (by decide) rfl g7 ?_
      refine x_iload (q := 186) dX6_setValues_184 rfl rfl ?_
      refine x_goto dX6_setValues_186 (q := 190) (by decide) ?_
      refine x_sub (ls2 := [(0, .ref v0), (1, .ref v1), (6, .int v6), (7, .int s.1)]) [1, 2, 3, 4] rfl ?_
      exact s_X6_setValues_b190 s.2 v0 v1 v6 s.1 (kR s.2 v0 1) ((27 : Int32) + s.1) x2 hn H
theorem sl_X6_setValues_l136 {Z : Nat → (Nat → Nat) → State → Prop} (v0 : Nat) (v1 : Nat) (v6 : Int32) (n : Nat) (s : Int32 × KH) (r : KH) (hn : (s.2).1 = 243) (H : kloop (f_X6_setValues_l136 v0 v1 v6) n s = some r) : KX Z RX6 cX6_setValues 9 false 6 (E_X6_setValues_l136 v0 v1 v6 r) 136 [(0, .ref v0), (1, .ref v1), (6, .int v6), (7, .int s.1)] [] s.2 :=
  k_loop (ls := (fun (s : Int32 × KH) => ([(0, .ref v0), (1, .ref v1), (6, .int v6), (7, .int s.1)] : List (Nat × Value)))) (hp := (fun (s : Int32 × KH) => (s.2 : KH))) (G := E_X6_setValues_l136 v0 v1 v6) (fun s t hn H => s_X6_setValues_l136 v0 v1 v6 s t hn H) n s r hn H
def f_X6_setValues_b117 (h : KH) (v0 : Nat) (v1 : Nat) (v2 : Nat) (v4 : Int32) (w0 : Nat) (w1 : Int32) (w2 : Int32) : Option (KH) :=
  if kkind w0 = 20 then if (w1 < 0 ∨ klen w0 ≤ (w1).toNatClampNeg) then none else kl (ksI h w0 ((w1).toNatClampNeg) w2) fun h3 =>
  if kkind v2 = 8 then if (kR h3 v2 3) < 999999 then if kkind (kR h3 v2 3) = 20 then if (v4 < 0 ∨ klen (kR h3 v2 3) ≤ (v4).toNatClampNeg) then none else if kkind v1 = 2 then kb (f_X2_yieldBits h3 v1 v4 (kI h3 (kR h3 v2 3) ((v4).toNatClampNeg))) fun r11 =>
  kb (kloop (f_X6_setValues_l136 v0 v1 r11.1) KF ((0 : Int32), r11.2)) fun e15 =>
  some e15 else none else none else none else none else none
set_option maxHeartbeats 4000000 in
set_option maxRecDepth 100000 in
theorem s_X6_setValues_b117 {Z : Nat → (Nat → Nat) → State → Prop} (h : KH) (v0 : Nat) (v1 : Nat) (v2 : Nat) (v4 : Int32) (w0 : Nat) (w1 : Int32) (w2 : Int32) {t : KH} (hn : h.1 = 243) (H : f_X6_setValues_b117 h v0 v1 v2 v4 w0 w1 w2 = some t) : KX Z RX6 cX6_setValues 9 false 6 (KRv cX6_setValues t) 117 [(0, .ref v0), (1, .ref v1), (2, .ref v2), (4, .int v4)] [.int w2, .int w1, .ref w0] h := by
  unfold f_X6_setValues_b117 at H
  replace H := kif H; obtain ⟨g1, H⟩ := H
  replace H := kifn H; obtain ⟨g2, H⟩ := H
  replace H := kle H; obtain ⟨h3, q4, H⟩ := H
  refine x_iast (q := 118) dX6_setValues_117 rfl (k243 g1 (by decide) hn) g2 ?_
  refine x_nmH q4 ?_
  have n5 : h3.1 = 243 := by rw [q4]; exact hn
  refine x_aload_n (q := 119) dX6_setValues_118 rfl rfl ?_
  refine x_iload (q := 121) dX6_setValues_119 rfl rfl ?_
  refine x_aload_n (q := 122) dX6_setValues_121 rfl rfl ?_
  replace H := kif H; obtain ⟨g6, H⟩ := H
  replace H := kif H; obtain ⟨g7, H⟩ := H
  refine x_getR (q := 125) dX6_setValues_122 rfl kl_RX6_53 rfl (k243 g6 (by decide) n5) g7 ?_
  refine x_iload (q := 127) dX6_setValues_125 rfl rfl ?_
  replace H := kif H; obtain ⟨g8, H⟩ := H
  replace H := kifn H; obtain ⟨g9, H⟩ := H
  refine x_iald (q := 128) dX6_setValues_127 rfl (k243 g8 (by decide) n5) g9 ?_
  replace H := kif H; obtain ⟨g10, H⟩ := H
  replace H := kbe H; obtain ⟨r11, c12, H⟩ := H
  have m13 := s_X2_yieldBits (Z := Z) h3 v1 v4 (kI h3 (kR h3 v2 3) ((v4).toNatClampNeg)) n5 c12
  refine x_callV (q := 131) (as := [.int v4, .int (kI h3 (kR h3 v2 3) ((v4).toNatClampNeg))]) (rest := []) dX6_setValues_128 rfl kc_RX6_68 kh_X2_yieldBits (by decide) (Nat.le_of_ble_eq_true rfl) m13 (ci := 2) (by exact ⟨rfl, by decide⟩) (k243 g10 (by decide) n5) ?_
  have n14 : (r11.2).1 = 243 := m13.1.full n5
  refine x_istore (q := 133) (i := 6) (ls2 := [(6, .int r11.1), (0, .ref v0), (1, .ref v1), (2, .ref v2), (4, .int v4)]) dX6_setValues_131 rfl (by decide) rfl ?_
  refine x_iconst (q := 134) (v := (0 : Int32)) dX6_setValues_133 rfl (by decide) ?_
  refine x_istore (q := 136) (i := 7) (ls2 := [(7, .int (0 : Int32)), (6, .int r11.1), (0, .ref v0), (1, .ref v1), (2, .ref v2), (4, .int v4)]) dX6_setValues_134 rfl (by decide) rfl ?_
  refine x_sub (ls2 := [(0, .ref v0), (1, .ref v1), (6, .int r11.1), (7, .int (0 : Int32))]) [2, 3, 1, 0] rfl ?_
  replace H := kbe H; obtain ⟨e15, c16, H⟩ := H
  refine x_app (sl_X6_setValues_l136 v0 v1 r11.1 KF ((0 : Int32), r11.2) e15 n14 c16) fun pc2 ls2 st2 h2 hg m17 => ?_
  obtain ⟨rfl, rfl, rfl, rfl⟩ := hg
  cases H
  exact x_end ⟨dX6_setValues_197, rfl, rfl⟩
def f_X6_setValues_b90 (h : KH) (v0 : Nat) (v1 : Nat) (v2 : Nat) (v3 : Nat) (v4 : Int32) (w0 : Nat) (w1 : Int32) (w2 : Int32) : Option (KH) :=
  if kkind w0 = 20 then if (w1 < 0 ∨ klen w0 ≤ (w1).toNatClampNeg) then none else kl (ksI h w0 ((w1).toNatClampNeg) w2) fun h3 =>
  if kkind v0 = 6 then if (kR h3 v0 1) < 999999 then if kkind v2 = 8 then kb (f_X8_heardBits h3 v2) fun r9 =>
  if kkind v3 = 10 then kb (f_X10_isSure h3 v3 ((1 : Int32) <<< (v4 &&& 31)) r9) fun r13 =>
  if r13.1 = 0 then
  f_X6_setValues_b117 r13.2 v0 v1 v2 v4 (kR h3 v0 1) (15 : Int32) (0 : Int32)
  else
  f_X6_setValues_b117 r13.2 v0 v1 v2 v4 (kR h3 v0 1) (15 : Int32) (1 : Int32) else none else none else none else none else none
set_option maxHeartbeats 4000000 in
set_option maxRecDepth 100000 in
theorem s_X6_setValues_b90 {Z : Nat → (Nat → Nat) → State → Prop} (h : KH) (v0 : Nat) (v1 : Nat) (v2 : Nat) (v3 : Nat) (v4 : Int32) (w0 : Nat) (w1 : Int32) (w2 : Int32) {t : KH} (hn : h.1 = 243) (H : f_X6_setValues_b90 h v0 v1 v2 v3 v4 w0 w1 w2 = some t) : KX Z RX6 cX6_setValues 9 false 6 (KRv cX6_setValues t) 90 [(0, .ref v0), (1, .ref v1), (2, .ref v2), (3, .ref v3), (4, .int v4)] [.int w2, .int w1, .ref w0] h := by
  unfold f_X6_setValues_b90 at H
  replace H := kif H; obtain ⟨g1, H⟩ := H
  replace H := kifn H; obtain ⟨g2, H⟩ := H
  replace H := kle H; obtain ⟨h3, q4, H⟩ := H
  refine x_iast (q := 91) dX6_setValues_90 rfl (k243 g1 (by decide) hn) g2 ?_
  refine x_nmH q4 ?_
  have n5 : h3.1 = 243 := by rw [q4]; exact hn
  refine x_aload_n (q := 92) dX6_setValues_91 rfl rfl ?_
  replace H := kif H; obtain ⟨g6, H⟩ := H
  replace H := kif H; obtain ⟨g7, H⟩ := H
  refine x_getR (q := 95) dX6_setValues_92 rfl kl_RX6_18 rfl (k243 g6 (by decide) n5) g7 ?_
  refine x_bipush (q := 97) (v := (15 : Int32)) dX6_setValues_95 rfl (by decide) ?_
  refine x_aload_n (q := 98) dX6_setValues_97 rfl rfl ?_
  refine x_iconst (q := 99) (v := (1 : Int32)) dX6_setValues_98 rfl (by decide) ?_
  refine x_iload (q := 101) dX6_setValues_99 rfl rfl ?_
  refine x_ishl (q := 102) dX6_setValues_101 rfl ?_
  refine x_aload_n (q := 103) dX6_setValues_102 rfl rfl ?_
  replace H := kif H; obtain ⟨g8, H⟩ := H
  replace H := kbe H; obtain ⟨r9, c10, H⟩ := H
  have m11 := s_X8_heardBits (Z := Z) h3 v2 n5 c10
  refine x_callV (q := 106) (as := []) (rest := [.int ((1 : Int32) <<< (v4 &&& 31)), .ref v3, .int (15 : Int32), .ref (kR h3 v0 1)]) dX6_setValues_103 rfl kc_RX6_60 kh_X8_heardBits (by decide) (Nat.le_of_ble_eq_true rfl) m11 (ci := 8) (by exact ⟨rfl, by decide⟩) (k243 g8 (by decide) n5) ?_
  replace H := kif H; obtain ⟨g12, H⟩ := H
  replace H := kbe H; obtain ⟨r13, c14, H⟩ := H
  have m15 := s_X10_isSure (Z := Z) h3 v3 ((1 : Int32) <<< (v4 &&& 31)) r9 n5 c14
  refine x_callV (q := 109) (as := [.int ((1 : Int32) <<< (v4 &&& 31)), .int r9]) (rest := [.int (15 : Int32), .ref (kR h3 v0 1)]) dX6_setValues_106 rfl kc_RX6_64 kh_X10_isSure (by decide) (Nat.le_of_ble_eq_true rfl) m15 (ci := 10) (by exact ⟨rfl, by decide⟩) (k243 g12 (by decide) n5) ?_
  have n16 : (r13.2).1 = 243 := m15.1.full n5
  replace H := kite H; rcases H with ⟨g17, H⟩ | ⟨g17, H⟩
  · refine x_if_eq_t dX6_setValues_109 (q := 116) (by decide) g17 ?_
    refine x_iconst (q := 117) (v := (0 : Int32)) dX6_setValues_116 rfl (by decide) ?_
    refine x_sub (ls2 := [(0, .ref v0), (1, .ref v1), (2, .ref v2), (4, .int v4)]) [0, 1, 2, 4] rfl ?_
    exact s_X6_setValues_b117 r13.2 v0 v1 v2 v4 (kR h3 v0 1) (15 : Int32) (0 : Int32) n16 H
  · refine x_if_eq_f (q := 112) dX6_setValues_109 (t := 116) (by decide) rfl g17 ?_
    refine x_iconst (q := 113) (v := (1 : Int32)) dX6_setValues_112 rfl (by decide) ?_
    refine x_goto dX6_setValues_113 (q := 117) (by decide) ?_
    refine x_sub (ls2 := [(0, .ref v0), (1, .ref v1), (2, .ref v2), (4, .int v4)]) [0, 1, 2, 4] rfl ?_
    exact s_X6_setValues_b117 r13.2 v0 v1 v2 v4 (kR h3 v0 1) (15 : Int32) (1 : Int32) n16 H
def f_X6_setValues_b24 (h : KH) (v0 : Nat) (v1 : Nat) (v2 : Nat) (v3 : Nat) (v4 : Int32) (w0 : Int32) : Option (KH) :=
  if kkind v0 = 6 then if (kR h v0 1) < 999999 then if kkind (kR h v0 1) = 20 then if klen (kR h v0 1) ≤ 13 then none else kl (ksI h (kR h v0 1) 13 v4) fun h5 =>
  if (kR h5 v0 1) < 999999 then if kkind v1 = 2 then if (kR h5 v1 1) < 999999 then if kkind (kR h5 v1 1) = 24 then if (v4 < 0 ∨ klen (kR h5 v1 1) ≤ (v4).toNatClampNeg) then none else if (kR h5 (kR h5 v1 1) ((v4).toNatClampNeg)) < 999999 then if kkind (kR h5 (kR h5 v1 1) ((v4).toNatClampNeg)) = 20 then if klen (kR h5 (kR h5 v1 1) ((v4).toNatClampNeg)) ≤ 1 then none else if kkind (kR h5 v0 1) = 20 then if klen (kR h5 v0 1) ≤ 6 then none else kl (ksI h5 (kR h5 v0 1) 6 (kI h5 (kR h5 (kR h5 v1 1) ((v4).toNatClampNeg)) 1)) fun h18 =>
  if (kR h18 v0 1) < 999999 then if kkind v2 = 8 then if (kR h18 v2 3) < 999999 then if kkind (kR h18 v2 3) = 20 then if (v4 < 0 ∨ klen (kR h18 v2 3) ≤ (v4).toNatClampNeg) then none else if kkind (kR h18 v0 1) = 20 then if klen (kR h18 v0 1) ≤ 11 then none else kl (ksI h18 (kR h18 v0 1) 11 (kI h18 (kR h18 v2 3) ((v4).toNatClampNeg))) fun h28 =>
  if (kR h28 v0 1) < 999999 then if w0 = 0 then
  f_X6_setValues_b90 h28 v0 v1 v2 v3 v4 (kR h28 v0 1) (14 : Int32) (0 : Int32)
  else
  if kkind v3 = 10 then kb (f_X10_meritOf h28 v3 v1 ((1 : Int32) <<< (v4 &&& 31))) fun r34 =>
  f_X6_setValues_b90 r34.2 v0 v1 v2 v3 v4 (kR h28 v0 1) (14 : Int32) ((r34.1).toInt32) else none else none else none else none else none else none else none else none else none else none else none else none else none else none else none else none else none
set_option maxHeartbeats 4000000 in
set_option maxRecDepth 100000 in
theorem s_X6_setValues_b24 {Z : Nat → (Nat → Nat) → State → Prop} (h : KH) (v0 : Nat) (v1 : Nat) (v2 : Nat) (v3 : Nat) (v4 : Int32) (w0 : Int32) {t : KH} (hn : h.1 = 243) (H : f_X6_setValues_b24 h v0 v1 v2 v3 v4 w0 = some t) : KX Z RX6 cX6_setValues 9 false 6 (KRv cX6_setValues t) 24 [(0, .ref v0), (1, .ref v1), (2, .ref v2), (3, .ref v3), (4, .int v4)] [.int w0] h := by
  unfold f_X6_setValues_b24 at H
  refine x_istore (q := 26) (i := 5) (ls2 := [(5, .int w0), (0, .ref v0), (1, .ref v1), (2, .ref v2), (3, .ref v3), (4, .int v4)]) dX6_setValues_24 rfl (by decide) rfl ?_
  refine x_aload_n (q := 27) dX6_setValues_26 rfl rfl ?_
  replace H := kif H; obtain ⟨g1, H⟩ := H
  replace H := kif H; obtain ⟨g2, H⟩ := H
  refine x_getR (q := 30) dX6_setValues_27 rfl kl_RX6_18 rfl (k243 g1 (by decide) hn) g2 ?_
  refine x_bipush (q := 32) (v := (13 : Int32)) dX6_setValues_30 rfl (by decide) ?_
  refine x_iload (q := 34) dX6_setValues_32 rfl rfl ?_
  replace H := kif H; obtain ⟨g3, H⟩ := H
  replace H := kifn H; obtain ⟨g4, H⟩ := H
  replace H := kle H; obtain ⟨h5, q6, H⟩ := H
  refine x_iast (q := 35) dX6_setValues_34 rfl (k243 g3 (by decide) hn) (fun z => z.elim (by decide) g4) ?_
  refine x_nmH q6 ?_
  have n7 : h5.1 = 243 := by rw [q6]; exact hn
  refine x_aload_n (q := 36) dX6_setValues_35 rfl rfl ?_
  replace H := kif H; obtain ⟨g8, H⟩ := H
  refine x_getR (q := 39) dX6_setValues_36 rfl kl_RX6_18 rfl (k243 g1 (by decide) n7) g8 ?_
  refine x_bipush (q := 41) (v := (6 : Int32)) dX6_setValues_39 rfl (by decide) ?_
  refine x_aload_n (q := 42) dX6_setValues_41 rfl rfl ?_
  replace H := kif H; obtain ⟨g9, H⟩ := H
  replace H := kif H; obtain ⟨g10, H⟩ := H
  refine x_getR (q := 45) dX6_setValues_42 rfl kl_RX6_47 rfl (k243 g9 (by decide) n7) g10 ?_
  refine x_iload (q := 47) dX6_setValues_45 rfl rfl ?_
  replace H := kif H; obtain ⟨g11, H⟩ := H
  replace H := kifn H; obtain ⟨g12, H⟩ := H
  replace H := kif H; obtain ⟨g13, H⟩ := H
  refine x_aald (q := 48) dX6_setValues_47 rfl (Or.inl rfl) (k243 g11 (by decide) n7) g12 g13 ?_
  refine x_iconst (q := 49) (v := (1 : Int32)) dX6_setValues_48 rfl (by decide) ?_
  replace H := kif H; obtain ⟨g14, H⟩ := H
  replace H := kifn H; obtain ⟨g15, H⟩ := H
  refine x_iald (q := 50) dX6_setValues_49 rfl (k243 g14 (by decide) n7) (fun z => z.elim (by decide) g15) ?_
  replace H := kif H; obtain ⟨g16, H⟩ := H
  replace H := kifn H; obtain ⟨g17, H⟩ := H
  replace H := kle H; obtain ⟨h18, q19, H⟩ := H
  refine x_iast (q := 51) dX6_setValues_50 rfl (k243 g16 (by decide) n7) (fun z => z.elim (by decide) g17) ?_
  refine x_nmH q19 ?_
  have n20 : h18.1 = 243 := by rw [q19]; exact n7
  refine x_aload_n (q := 52) dX6_setValues_51 rfl rfl ?_
  replace H := kif H; obtain ⟨g21, H⟩ := H
  refine x_getR (q := 55) dX6_setValues_52 rfl kl_RX6_18 rfl (k243 g1 (by decide) n20) g21 ?_
  refine x_bipush (q := 57) (v := (11 : Int32)) dX6_setValues_55 rfl (by decide) ?_
  refine x_aload_n (q := 58) dX6_setValues_57 rfl rfl ?_
  replace H := kif H; obtain ⟨g22, H⟩ := H
  replace H := kif H; obtain ⟨g23, H⟩ := H
  refine x_getR (q := 61) dX6_setValues_58 rfl kl_RX6_53 rfl (k243 g22 (by decide) n20) g23 ?_
  refine x_iload (q := 63) dX6_setValues_61 rfl rfl ?_
  replace H := kif H; obtain ⟨g24, H⟩ := H
  replace H := kifn H; obtain ⟨g25, H⟩ := H
  refine x_iald (q := 64) dX6_setValues_63 rfl (k243 g24 (by decide) n20) g25 ?_
  replace H := kif H; obtain ⟨g26, H⟩ := H
  replace H := kifn H; obtain ⟨g27, H⟩ := H
  replace H := kle H; obtain ⟨h28, q29, H⟩ := H
  refine x_iast (q := 65) dX6_setValues_64 rfl (k243 g26 (by decide) n20) (fun z => z.elim (by decide) g27) ?_
  refine x_nmH q29 ?_
  have n30 : h28.1 = 243 := by rw [q29]; exact n20
  refine x_aload_n (q := 66) dX6_setValues_65 rfl rfl ?_
  replace H := kif H; obtain ⟨g31, H⟩ := H
  refine x_getR (q := 69) dX6_setValues_66 rfl kl_RX6_18 rfl (k243 g1 (by decide) n30) g31 ?_
  refine x_bipush (q := 71) (v := (14 : Int32)) dX6_setValues_69 rfl (by decide) ?_
  refine x_iload (q := 73) dX6_setValues_71 rfl rfl ?_
  replace H := kite H; rcases H with ⟨g32, H⟩ | ⟨g32, H⟩
  · refine x_if_eq_t dX6_setValues_73 (q := 89) (by decide) g32 ?_
    refine x_iconst (q := 90) (v := (0 : Int32)) dX6_setValues_89 rfl (by decide) ?_
    refine x_sub (ls2 := [(0, .ref v0), (1, .ref v1), (2, .ref v2), (3, .ref v3), (4, .int v4)]) [1, 2, 3, 4, 5] rfl ?_
    exact s_X6_setValues_b90 h28 v0 v1 v2 v3 v4 (kR h28 v0 1) (14 : Int32) (0 : Int32) n30 H
  · refine x_if_eq_f (q := 76) dX6_setValues_73 (t := 89) (by decide) rfl g32 ?_
    refine x_aload_n (q := 77) dX6_setValues_76 rfl rfl ?_
    refine x_aload_n (q := 78) dX6_setValues_77 rfl rfl ?_
    refine x_iconst (q := 79) (v := (1 : Int32)) dX6_setValues_78 rfl (by decide) ?_
    refine x_iload (q := 81) dX6_setValues_79 rfl rfl ?_
    refine x_ishl (q := 82) dX6_setValues_81 rfl ?_
    replace H := kif H; obtain ⟨g33, H⟩ := H
    replace H := kbe H; obtain ⟨r34, c35, H⟩ := H
    have m36 := s_X10_meritOf (Z := Z) h28 v3 v1 ((1 : Int32) <<< (v4 &&& 31)) n30 c35
    refine x_callV (q := 85) (as := [.ref v1, .int ((1 : Int32) <<< (v4 &&& 31))]) (rest := [.int (14 : Int32), .ref (kR h28 v0 1)]) dX6_setValues_82 rfl kc_RX6_56 kh_X10_meritOf (by decide) (Nat.le_of_ble_eq_true rfl) m36 (ci := 10) (by exact ⟨rfl, by decide⟩) (k243 g33 (by decide) n30) ?_
    have n37 : (r34.2).1 = 243 := m36.1.full n30
    refine x_l2i (q := 86) dX6_setValues_85 rfl ?_
    refine x_goto dX6_setValues_86 (q := 90) (by decide) ?_
    refine x_sub (ls2 := [(0, .ref v0), (1, .ref v1), (2, .ref v2), (3, .ref v3), (4, .int v4)]) [1, 2, 3, 4, 5] rfl ?_
    exact s_X6_setValues_b90 r34.2 v0 v1 v2 v3 v4 (kR h28 v0 1) (14 : Int32) ((r34.1).toInt32) n37 H
def f_X6_setValues_b23 (h : KH) (v0 : Nat) (v1 : Nat) (v2 : Nat) (v3 : Nat) (v4 : Int32) : Option (KH) :=
  f_X6_setValues_b24 h v0 v1 v2 v3 v4 (0 : Int32)
set_option maxHeartbeats 4000000 in
set_option maxRecDepth 100000 in
theorem s_X6_setValues_b23 {Z : Nat → (Nat → Nat) → State → Prop} (h : KH) (v0 : Nat) (v1 : Nat) (v2 : Nat) (v3 : Nat) (v4 : Int32) {t : KH} (hn : h.1 = 243) (H : f_X6_setValues_b23 h v0 v1 v2 v3 v4 = some t) : KX Z RX6 cX6_setValues 9 false 6 (KRv cX6_setValues t) 23 [(0, .ref v0), (1, .ref v1), (2, .ref v2), (3, .ref v3), (4, .int v4)] [] h := by
  unfold f_X6_setValues_b23 at H
  refine x_iconst (q := 24) (v := (0 : Int32)) dX6_setValues_23 rfl (by decide) ?_
  refine x_sub (ls2 := [(0, .ref v0), (1, .ref v1), (2, .ref v2), (3, .ref v3), (4, .int v4)]) [0, 1, 2, 3, 4] rfl ?_
  exact s_X6_setValues_b24 h v0 v1 v2 v3 v4 (0 : Int32) hn H
def f_X6_setValues (h : KH) (v0 : Nat) (v1 : Nat) (v2 : Nat) (v3 : Nat) (v4 : Int32) : Option (KH) :=
  if kkind v3 = 10 then kb (f_X10_total h v3) fun r2 =>
  if (lg_cmp r2 (0 : Int64)) ≤ 0 then
  f_X6_setValues_b23 h v0 v1 v2 v3 v4
  else
  if kkind v2 = 8 then if (kR h v2 4) < 999999 then if kkind (kR h v2 4) = 20 then if (v4 < 0 ∨ klen (kR h v2 4) ≤ (v4).toNatClampNeg) then none else if (kI h (kR h v2 4) ((v4).toNatClampNeg)) = 0 then
  f_X6_setValues_b24 h v0 v1 v2 v3 v4 (1 : Int32)
  else
  f_X6_setValues_b23 h v0 v1 v2 v3 v4 else none else none else none else none
set_option maxHeartbeats 4000000 in
set_option maxRecDepth 100000 in
theorem s0_X6_setValues {Z : Nat → (Nat → Nat) → State → Prop} (h : KH) (v0 : Nat) (v1 : Nat) (v2 : Nat) (v3 : Nat) (v4 : Int32) {t : KH} (hn : h.1 = 243) (H : f_X6_setValues h v0 v1 v2 v3 v4 = some t) : KX Z RX6 cX6_setValues 9 false 6 (KRv cX6_setValues t) 0 [(0, .ref v0), (1, .ref v1), (2, .ref v2), (3, .ref v3), (4, .int v4)] [] h := by
  unfold f_X6_setValues at H
  refine x_aload_n (q := 1) dX6_setValues_0 rfl rfl ?_
  replace H := kif H; obtain ⟨g1, H⟩ := H
  replace H := kbe H; obtain ⟨r2, c3, H⟩ := H
  have m4 := s_X10_total (Z := Z) h v3 hn c3
  refine x_callV (q := 4) (as := []) (rest := []) dX6_setValues_1 rfl kc_RX6_36 kh_X10_total (by decide) (Nat.le_of_ble_eq_true rfl) m4 (ci := 10) (by exact ⟨rfl, by decide⟩) (k243 g1 (by decide) hn) ?_
  refine x_lconst (q := 5) (v := (0 : Int64)) dX6_setValues_4 rfl (by decide) ?_
  refine x_lcmp (q := 6) dX6_setValues_5 rfl ?_
  replace H := kite H; rcases H with ⟨g5, H⟩ | ⟨g5, H⟩
  · refine x_if_le_t dX6_setValues_6 (q := 23) (by decide) g5 ?_
    refine x_sub (ls2 := [(0, .ref v0), (1, .ref v1), (2, .ref v2), (3, .ref v3), (4, .int v4)]) [0, 1, 2, 3, 4] rfl ?_
    exact s_X6_setValues_b23 h v0 v1 v2 v3 v4 hn H
  · refine x_if_le_f (q := 9) dX6_setValues_6 (t := 23) (by decide) rfl g5 ?_
    refine x_aload_n (q := 10) dX6_setValues_9 rfl rfl ?_
    replace H := kif H; obtain ⟨g6, H⟩ := H
    replace H := kif H; obtain ⟨g7, H⟩ := H
    refine x_getR (q := 13) dX6_setValues_10 rfl kl_RX6_42 rfl (k243 g6 (by decide) hn) g7 ?_
    refine x_iload (q := 15) dX6_setValues_13 rfl rfl ?_
    replace H := kif H; obtain ⟨g8, H⟩ := H
    replace H := kifn H; obtain ⟨g9, H⟩ := H
    refine x_iald (q := 16) dX6_setValues_15 rfl (k243 g8 (by decide) hn) g9 ?_
    replace H := kite H; rcases H with ⟨g10, H⟩ | ⟨g10, H⟩
    · refine x_if_ne_f (q := 19) dX6_setValues_16 (t := 23) (by decide) rfl g10 ?_
      refine x_iconst (q := 20) (v := (1 : Int32)) dX6_setValues_19 rfl (by decide) ?_
      refine x_goto dX6_setValues_20 (q := 24) (by decide) ?_
      refine x_sub (ls2 := [(0, .ref v0), (1, .ref v1), (2, .ref v2), (3, .ref v3), (4, .int v4)]) [0, 1, 2, 3, 4] rfl ?_
      exact s_X6_setValues_b24 h v0 v1 v2 v3 v4 (1 : Int32) hn H
    · refine x_if_ne_t dX6_setValues_16 (q := 23) (by decide) g10 ?_
      refine x_sub (ls2 := [(0, .ref v0), (1, .ref v1), (2, .ref v2), (3, .ref v3), (4, .int v4)]) [0, 1, 2, 3, 4] rfl ?_
      exact s_X6_setValues_b23 h v0 v1 v2 v3 v4 hn H
theorem s_X6_setValues {Z : Nat → (Nat → Nat) → State → Prop} (h : KH) (v0 : Nat) (v1 : Nat) (v2 : Nat) (v3 : Nat) (v4 : Int32) {t : KH} (hn : h.1 = 243) (H : f_X6_setValues h v0 v1 v2 v3 v4 = some t) : KM Z yX6_setValues cX6_setValues 9 none 6 [.ref v0, .ref v1, .ref v2, .ref v3, .int v4] h none t :=
  kx_v (own := RX6) (ini := false) (by decide +kernel) (by decide +kernel) rfl (Nat.le_of_ble_eq_true rfl) (s0_X6_setValues h v0 v1 v2 v3 v4 hn H)
theorem dX6_take_0 : decode cX6_take 0 = .ok (.aload_n 0, 1) := by decide +kernel
theorem dX6_take_1 : decode cX6_take 1 = .ok (.getfield 12, 3) := by decide +kernel
theorem dX6_take_4 : decode cX6_take 4 = .ok (.aload_n 0, 1) := by decide +kernel
theorem dX6_take_5 : decode cX6_take 5 = .ok (.getfield 18, 3) := by decide +kernel
theorem dX6_take_8 : decode cX6_take 8 = .ok (.invokevirtual 75, 3) := by decide +kernel
theorem dX6_take_11 : decode cX6_take 11 = .ok (.istore_n 2, 1) := by decide +kernel
theorem dX6_take_12 : decode cX6_take 12 = .ok (.aload_n 0, 1) := by decide +kernel
theorem dX6_take_13 : decode cX6_take 13 = .ok (.getfield 22, 3) := by decide +kernel
theorem dX6_take_16 : decode cX6_take 16 = .ok (.bipush 9, 2) := by decide +kernel
theorem dX6_take_18 : decode cX6_take 18 = .ok (.if_icmp .ne 18, 3) := by decide +kernel
theorem dX6_take_21 : decode cX6_take 21 = .ok (.iload_n 2, 1) := by decide +kernel
theorem dX6_take_22 : decode cX6_take 22 = .ok (.ifCond .eq 14, 3) := by decide +kernel
theorem dX6_take_25 : decode cX6_take 25 = .ok (.aload_n 0, 1) := by decide +kernel
theorem dX6_take_26 : decode cX6_take 26 = .ok (.getfield 26, 3) := by decide +kernel
theorem dX6_take_29 : decode cX6_take 29 = .ok (.ldc2_w 34, 3) := by decide +kernel
theorem dX6_take_32 : decode cX6_take 32 = .ok (.lcmp, 1) := by decide +kernel
theorem dX6_take_33 : decode cX6_take 33 = .ok (.ifCond .eq 16, 3) := by decide +kernel
theorem dX6_take_36 : decode cX6_take 36 = .ok (.aload_n 0, 1) := by decide +kernel
theorem dX6_take_37 : decode cX6_take 37 = .ok (.getfield 22, 3) := by decide +kernel
theorem dX6_take_40 : decode cX6_take 40 = .ok (.bipush 22, 2) := by decide +kernel
theorem dX6_take_42 : decode cX6_take 42 = .ok (.if_icmp .ne 16, 3) := by decide +kernel
theorem dX6_take_45 : decode cX6_take 45 = .ok (.iload_n 2, 1) := by decide +kernel
theorem dX6_take_46 : decode cX6_take 46 = .ok (.ifCond .eq 12, 3) := by decide +kernel
theorem dX6_take_49 : decode cX6_take 49 = .ok (.aload_n 0, 1) := by decide +kernel
theorem dX6_take_50 : decode cX6_take 50 = .ok (.iload_n 1, 1) := by decide +kernel
theorem dX6_take_51 : decode cX6_take 51 = .ok (.i2l, 1) := by decide +kernel
theorem dX6_take_52 : decode cX6_take 52 = .ok (.putfield 26, 3) := by decide +kernel
theorem dX6_take_55 : decode cX6_take 55 = .ok (.goto 106, 3) := by decide +kernel
theorem dX6_take_58 : decode cX6_take 58 = .ok (.aload_n 0, 1) := by decide +kernel
theorem dX6_take_59 : decode cX6_take 59 = .ok (.getfield 22, 3) := by decide +kernel
theorem dX6_take_62 : decode cX6_take 62 = .ok (.bipush 23, 2) := by decide +kernel
theorem dX6_take_64 : decode cX6_take 64 = .ok (.if_icmp .eq 12, 3) := by decide +kernel
theorem dX6_take_67 : decode cX6_take 67 = .ok (.aload_n 0, 1) := by decide +kernel
theorem dX6_take_68 : decode cX6_take 68 = .ok (.getfield 22, 3) := by decide +kernel
theorem dX6_take_71 : decode cX6_take 71 = .ok (.bipush 24, 2) := by decide +kernel
theorem dX6_take_73 : decode cX6_take 73 = .ok (.if_icmp .ne 17, 3) := by decide +kernel
theorem dX6_take_76 : decode cX6_take 76 = .ok (.aload_n 0, 1) := by decide +kernel
theorem dX6_take_77 : decode cX6_take 77 = .ok (.dup, 1) := by decide +kernel
theorem dX6_take_78 : decode cX6_take 78 = .ok (.getfield 26, 3) := by decide +kernel
theorem dX6_take_81 : decode cX6_take 81 = .ok (.iload_n 2, 1) := by decide +kernel
theorem dX6_take_82 : decode cX6_take 82 = .ok (.i2l, 1) := by decide +kernel
theorem dX6_take_83 : decode cX6_take 83 = .ok (.ladd, 1) := by decide +kernel
theorem dX6_take_84 : decode cX6_take 84 = .ok (.putfield 26, 3) := by decide +kernel
theorem dX6_take_87 : decode cX6_take 87 = .ok (.goto 74, 3) := by decide +kernel
theorem dX6_take_90 : decode cX6_take 90 = .ok (.aload_n 0, 1) := by decide +kernel
theorem dX6_take_91 : decode cX6_take 91 = .ok (.getfield 22, 3) := by decide +kernel
theorem dX6_take_94 : decode cX6_take 94 = .ok (.bipush 25, 2) := by decide +kernel
theorem dX6_take_96 : decode cX6_take 96 = .ok (.if_icmp .ne 31, 3) := by decide +kernel
theorem dX6_take_99 : decode cX6_take 99 = .ok (.aload_n 0, 1) := by decide +kernel
theorem dX6_take_100 : decode cX6_take 100 = .ok (.aload_n 0, 1) := by decide +kernel
theorem dX6_take_101 : decode cX6_take 101 = .ok (.getfield 30, 3) := by decide +kernel
theorem dX6_take_104 : decode cX6_take 104 = .ok (.ifCond .eq 8, 3) := by decide +kernel
theorem dX6_take_107 : decode cX6_take 107 = .ok (.iload_n 2, 1) := by decide +kernel
theorem dX6_take_108 : decode cX6_take 108 = .ok (.i2l, 1) := by decide +kernel
theorem dX6_take_109 : decode cX6_take 109 = .ok (.goto 12, 3) := by decide +kernel
theorem dX6_take_112 : decode cX6_take 112 = .ok (.aload_n 0, 1) := by decide +kernel
theorem dX6_take_113 : decode cX6_take 113 = .ok (.getfield 26, 3) := by decide +kernel
theorem dX6_take_116 : decode cX6_take 116 = .ok (.iload_n 2, 1) := by decide +kernel
theorem dX6_take_117 : decode cX6_take 117 = .ok (.i2l, 1) := by decide +kernel
theorem dX6_take_118 : decode cX6_take 118 = .ok (.invokestatic 79, 3) := by decide +kernel
theorem dX6_take_121 : decode cX6_take 121 = .ok (.putfield 26, 3) := by decide +kernel
theorem dX6_take_124 : decode cX6_take 124 = .ok (.goto 37, 3) := by decide +kernel
theorem dX6_take_127 : decode cX6_take 127 = .ok (.aload_n 0, 1) := by decide +kernel
theorem dX6_take_128 : decode cX6_take 128 = .ok (.getfield 22, 3) := by decide +kernel
theorem dX6_take_131 : decode cX6_take 131 = .ok (.bipush 26, 2) := by decide +kernel
theorem dX6_take_133 : decode cX6_take 133 = .ok (.if_icmp .ne 28, 3) := by decide +kernel
theorem dX6_take_136 : decode cX6_take 136 = .ok (.aload_n 0, 1) := by decide +kernel
theorem dX6_take_137 : decode cX6_take 137 = .ok (.aload_n 0, 1) := by decide +kernel
theorem dX6_take_138 : decode cX6_take 138 = .ok (.getfield 30, 3) := by decide +kernel
theorem dX6_take_141 : decode cX6_take 141 = .ok (.ifCond .eq 8, 3) := by decide +kernel
theorem dX6_take_144 : decode cX6_take 144 = .ok (.iload_n 2, 1) := by decide +kernel
theorem dX6_take_145 : decode cX6_take 145 = .ok (.i2l, 1) := by decide +kernel
theorem dX6_take_146 : decode cX6_take 146 = .ok (.goto 12, 3) := by decide +kernel
theorem dX6_take_149 : decode cX6_take 149 = .ok (.aload_n 0, 1) := by decide +kernel
theorem dX6_take_150 : decode cX6_take 150 = .ok (.getfield 26, 3) := by decide +kernel
theorem dX6_take_153 : decode cX6_take 153 = .ok (.iload_n 2, 1) := by decide +kernel
theorem dX6_take_154 : decode cX6_take 154 = .ok (.i2l, 1) := by decide +kernel
theorem dX6_take_155 : decode cX6_take 155 = .ok (.invokestatic 85, 3) := by decide +kernel
theorem dX6_take_158 : decode cX6_take 158 = .ok (.putfield 26, 3) := by decide +kernel
theorem dX6_take_161 : decode cX6_take 161 = .ok (.aload_n 0, 1) := by decide +kernel
theorem dX6_take_162 : decode cX6_take 162 = .ok (.iconst 0, 1) := by decide +kernel
theorem dX6_take_163 : decode cX6_take 163 = .ok (.putfield 30, 3) := by decide +kernel
theorem dX6_take_166 : decode cX6_take 166 = .ok (.return_, 1) := by decide +kernel
theorem kl_RX6_12 : KLk RX6 12 6 0 := ⟨RX6, TX6, 5, rfl, by decide, Or.inl (kwm 192 (by decide +kernel) (by decide +kernel))⟩
theorem kc_RX6_75 : Cond.methodLink RX6 75 yX1_resultFor ∈ ktG ∧ (Cond.instanceMethod yX1_resultFor ∈ ktG ∧ Cond.selects yX1_resultFor.cls yX1_resultFor yX1_resultFor ∈ ktG) ∧ Cond.initialized yX1_resultFor.cls ∈ ktG ∧ Cond.code yX1_resultFor cX1_resultFor 8 (some .int) ∈ ktG := ⟨(kwm 1152 (by decide +kernel) (by decide +kernel)), ⟨(kwm 853 (by decide +kernel) (by decide +kernel)), (kwm 854 (by decide +kernel) (by decide +kernel))⟩, (kwm 126 (by decide +kernel) (by decide +kernel)), kwm 855 (by decide +kernel) (by decide +kernel)⟩
theorem kc_RX6_85 : Cond.methodLink RX6 85 yJ9_min_f86c9 ∈ ktG ∧ Cond.static yJ9_min_f86c9 ∈ ktG ∧ Cond.initialized yJ9_min_f86c9.cls ∈ ktG ∧ Cond.code yJ9_min_f86c9 cJ9_min_f86c9 4 (some .long) ∈ ktG := ⟨(kwm 1154 (by decide +kernel) (by decide +kernel)), (kwm 878 (by decide +kernel) (by decide +kernel)), (kwm 142 (by decide +kernel) (by decide +kernel)), kwm 879 (by decide +kernel) (by decide +kernel)⟩
theorem kc_RX6_79 : Cond.methodLink RX6 79 yJ9_max_f86c9 ∈ ktG ∧ Cond.static yJ9_max_f86c9 ∈ ktG ∧ Cond.initialized yJ9_max_f86c9.cls ∈ ktG ∧ Cond.code yJ9_max_f86c9 cJ9_max_f86c9 4 (some .long) ∈ ktG := ⟨(kwm 1153 (by decide +kernel) (by decide +kernel)), (kwm 881 (by decide +kernel) (by decide +kernel)), (kwm 142 (by decide +kernel) (by decide +kernel)), kwm 882 (by decide +kernel) (by decide +kernel)⟩
def f_X6_take_b161 (h : KH) (v0 : Nat) : Option (KH) :=
  if kkind v0 = 6 then kl (ksI h v0 4 (0 : Int32)) fun h2 =>
  some h2 else none
set_option maxHeartbeats 4000000 in
set_option maxRecDepth 100000 in
theorem s_X6_take_b161 {Z : Nat → (Nat → Nat) → State → Prop} (h : KH) (v0 : Nat) {t : KH} (hn : h.1 = 243) (H : f_X6_take_b161 h v0 = some t) : KX Z RX6 cX6_take 3 false 5 (KRv cX6_take t) 161 [(0, .ref v0)] [] h := by
  unfold f_X6_take_b161 at H
  refine x_aload_n (q := 162) dX6_take_161 rfl rfl ?_
  refine x_iconst (q := 163) (v := (0 : Int32)) dX6_take_162 rfl (by decide) ?_
  replace H := kif H; obtain ⟨g1, H⟩ := H
  replace H := kle H; obtain ⟨h2, q3, H⟩ := H
  refine x_putZ (q := 166) dX6_take_163 rfl kl_RX6_30 (Or.inl rfl) rfl (by decide) (k243 g1 (by decide) hn) ?_
  refine x_nmH q3 ?_
  have n4 : h2.1 = 243 := by rw [q3]; exact hn
  cases H
  exact x_end ⟨dX6_take_166, rfl, rfl⟩
def f_X6_take_b76 (h : KH) (v0 : Nat) (v2 : Int32) : Option (KH) :=
  if kkind v0 = 6 then kl (ksL h v0 3 ((kL h v0 3) + ((v2).toInt64))) fun h2 =>
  f_X6_take_b161 h2 v0 else none
set_option maxHeartbeats 4000000 in
set_option maxRecDepth 100000 in
theorem s_X6_take_b76 {Z : Nat → (Nat → Nat) → State → Prop} (h : KH) (v0 : Nat) (v2 : Int32) {t : KH} (hn : h.1 = 243) (H : f_X6_take_b76 h v0 v2 = some t) : KX Z RX6 cX6_take 3 false 5 (KRv cX6_take t) 76 [(0, .ref v0), (2, .int v2)] [] h := by
  unfold f_X6_take_b76 at H
  refine x_aload_n (q := 77) dX6_take_76 rfl rfl ?_
  refine x_dup (q := 78) dX6_take_77 rfl rfl ?_
  replace H := kif H; obtain ⟨g1, H⟩ := H
  refine x_getL (q := 81) dX6_take_78 rfl kl_RX6_26 rfl (k243 g1 (by decide) hn) ?_
  refine x_iload_n (q := 82) dX6_take_81 rfl rfl ?_
  refine x_i2l (q := 83) dX6_take_82 rfl ?_
  refine x_ladd (q := 84) dX6_take_83 rfl ?_
  replace H := kle H; obtain ⟨h2, q3, H⟩ := H
  refine x_putL (q := 87) dX6_take_84 rfl kl_RX6_26 (Or.inl rfl) rfl (k243 g1 (by decide) hn) ?_
  refine x_nmH q3 ?_
  have n4 : h2.1 = 243 := by rw [q3]; exact hn
  refine x_goto dX6_take_87 (q := 161) (by decide) ?_
  refine x_sub (ls2 := [(0, .ref v0)]) [0] rfl ?_
  exact s_X6_take_b161 h2 v0 n4 H
def f_X6_take_b158 (h : KH) (v0 : Nat) (w0 : Nat) (w1 : Int64) : Option (KH) :=
  if kkind w0 = 6 then kl (ksL h w0 3 w1) fun h2 =>
  f_X6_take_b161 h2 v0 else none
set_option maxHeartbeats 4000000 in
set_option maxRecDepth 100000 in
theorem s_X6_take_b158 {Z : Nat → (Nat → Nat) → State → Prop} (h : KH) (v0 : Nat) (w0 : Nat) (w1 : Int64) {t : KH} (hn : h.1 = 243) (H : f_X6_take_b158 h v0 w0 w1 = some t) : KX Z RX6 cX6_take 3 false 5 (KRv cX6_take t) 158 [(0, .ref v0)] [.long w1, .ref w0] h := by
  unfold f_X6_take_b158 at H
  replace H := kif H; obtain ⟨g1, H⟩ := H
  replace H := kle H; obtain ⟨h2, q3, H⟩ := H
  refine x_putL (q := 161) dX6_take_158 rfl kl_RX6_26 (Or.inl rfl) rfl (k243 g1 (by decide) hn) ?_
  refine x_nmH q3 ?_
  have n4 : h2.1 = 243 := by rw [q3]; exact hn
  refine x_sub (ls2 := [(0, .ref v0)]) [0] rfl ?_
  exact s_X6_take_b161 h2 v0 n4 H
def f_X6_take_b121 (h : KH) (v0 : Nat) (w0 : Nat) (w1 : Int64) : Option (KH) :=
  if kkind w0 = 6 then kl (ksL h w0 3 w1) fun h2 =>
  f_X6_take_b161 h2 v0 else none
set_option maxHeartbeats 4000000 in
set_option maxRecDepth 100000 in
theorem s_X6_take_b121 {Z : Nat → (Nat → Nat) → State → Prop} (h : KH) (v0 : Nat) (w0 : Nat) (w1 : Int64) {t : KH} (hn : h.1 = 243) (H : f_X6_take_b121 h v0 w0 w1 = some t) : KX Z RX6 cX6_take 3 false 5 (KRv cX6_take t) 121 [(0, .ref v0)] [.long w1, .ref w0] h := by
  unfold f_X6_take_b121 at H
  replace H := kif H; obtain ⟨g1, H⟩ := H
  replace H := kle H; obtain ⟨h2, q3, H⟩ := H
  refine x_putL (q := 124) dX6_take_121 rfl kl_RX6_26 (Or.inl rfl) rfl (k243 g1 (by decide) hn) ?_
  refine x_nmH q3 ?_
  have n4 : h2.1 = 243 := by rw [q3]; exact hn
  refine x_goto dX6_take_124 (q := 161) (by decide) ?_
  refine x_sub (ls2 := [(0, .ref v0)]) [0] rfl ?_
  exact s_X6_take_b161 h2 v0 n4 H
def f_X6_take_b58 (h : KH) (v0 : Nat) (v2 : Int32) : Option (KH) :=
  if kkind v0 = 6 then if (kI h v0 2) = (23 : Int32) then
  f_X6_take_b76 h v0 v2
  else
  if (kI h v0 2) = (24 : Int32) then
  f_X6_take_b76 h v0 v2
  else
  if (kI h v0 2) = (25 : Int32) then
  if (kI h v0 4) = 0 then
  kb (f_J9_max_f86c9 h (kL h v0 3) ((v2).toInt64)) fun r11 =>
  f_X6_take_b121 h v0 v0 r11
  else
  f_X6_take_b121 h v0 v0 ((v2).toInt64)
  else
  if (kI h v0 2) = (26 : Int32) then
  if (kI h v0 4) = 0 then
  kb (f_J9_min_f86c9 h (kL h v0 3) ((v2).toInt64)) fun r7 =>
  f_X6_take_b158 h v0 v0 r7
  else
  f_X6_take_b158 h v0 v0 ((v2).toInt64)
  else
  f_X6_take_b161 h v0 else none
set_option maxHeartbeats 4000000 in
set_option maxRecDepth 100000 in
theorem s_X6_take_b58 {Z : Nat → (Nat → Nat) → State → Prop} (h : KH) (v0 : Nat) (v2 : Int32) {t : KH} (hn : h.1 = 243) (H : f_X6_take_b58 h v0 v2 = some t) : KX Z RX6 cX6_take 3 false 5 (KRv cX6_take t) 58 [(0, .ref v0), (2, .int v2)] [] h := by
  unfold f_X6_take_b58 at H
  refine x_aload_n (q := 59) dX6_take_58 rfl rfl ?_
  replace H := kif H; obtain ⟨g1, H⟩ := H
  refine x_getI (q := 62) dX6_take_59 rfl kl_RX6_22 (Or.inl rfl) (k243 g1 (by decide) hn) ?_
  refine x_bipush (q := 64) (v := (23 : Int32)) dX6_take_62 rfl (by decide) ?_
  replace H := kite H; rcases H with ⟨g2, H⟩ | ⟨g2, H⟩
  · refine x_icmp_eq_t dX6_take_64 (q := 76) (by decide) g2 ?_
    refine x_sub (ls2 := [(0, .ref v0), (2, .int v2)]) [0, 1] rfl ?_
    exact s_X6_take_b76 h v0 v2 hn H
  · refine x_icmp_eq_f (q := 67) dX6_take_64 (t := 76) (by decide) rfl g2 ?_
    refine x_aload_n (q := 68) dX6_take_67 rfl rfl ?_
    refine x_getI (q := 71) dX6_take_68 rfl kl_RX6_22 (Or.inl rfl) (k243 g1 (by decide) hn) ?_
    refine x_bipush (q := 73) (v := (24 : Int32)) dX6_take_71 rfl (by decide) ?_
    replace H := kite H; rcases H with ⟨g3, H⟩ | ⟨g3, H⟩
    · refine x_icmp_ne_f (q := 76) dX6_take_73 (t := 90) (by decide) rfl g3 ?_
      refine x_sub (ls2 := [(0, .ref v0), (2, .int v2)]) [0, 1] rfl ?_
      exact s_X6_take_b76 h v0 v2 hn H
    · refine x_icmp_ne_t dX6_take_73 (q := 90) (by decide) g3 ?_
      refine x_aload_n (q := 91) dX6_take_90 rfl rfl ?_
      refine x_getI (q := 94) dX6_take_91 rfl kl_RX6_22 (Or.inl rfl) (k243 g1 (by decide) hn) ?_
      refine x_bipush (q := 96) (v := (25 : Int32)) dX6_take_94 rfl (by decide) ?_
      replace H := kite H; rcases H with ⟨g4, H⟩ | ⟨g4, H⟩
      · refine x_icmp_ne_f (q := 99) dX6_take_96 (t := 127) (by decide) rfl g4 ?_
        refine x_aload_n (q := 100) dX6_take_99 rfl rfl ?_
        refine x_aload_n (q := 101) dX6_take_100 rfl rfl ?_
        refine x_getI (q := 104) dX6_take_101 rfl kl_RX6_30 (Or.inr rfl) (k243 g1 (by decide) hn) ?_
        replace H := kite H; rcases H with ⟨g10, H⟩ | ⟨g10, H⟩
        · refine x_if_eq_t dX6_take_104 (q := 112) (by decide) g10 ?_
          refine x_aload_n (q := 113) dX6_take_112 rfl rfl ?_
          refine x_getL (q := 116) dX6_take_113 rfl kl_RX6_26 rfl (k243 g1 (by decide) hn) ?_
          refine x_iload_n (q := 117) dX6_take_116 rfl rfl ?_
          refine x_i2l (q := 118) dX6_take_117 rfl ?_
          replace H := kbe H; obtain ⟨r11, c12, H⟩ := H
          have m13 := s_J9_max_f86c9 (Z := Z) h (kL h v0 3) ((v2).toInt64) hn c12
          refine x_callS (q := 121) (as := [.long (kL h v0 3), .long ((v2).toInt64)]) (rest := [.ref v0]) dX6_take_118 rfl kc_RX6_79 kh_J9_max_f86c9 (by decide) (Nat.le_of_ble_eq_true rfl) m13 ?_
          refine x_sub (ls2 := [(0, .ref v0)]) [0] rfl ?_
          exact s_X6_take_b121 h v0 v0 r11 hn H
        · refine x_if_eq_f (q := 107) dX6_take_104 (t := 112) (by decide) rfl g10 ?_
          refine x_iload_n (q := 108) dX6_take_107 rfl rfl ?_
          refine x_i2l (q := 109) dX6_take_108 rfl ?_
          refine x_goto dX6_take_109 (q := 121) (by decide) ?_
          refine x_sub (ls2 := [(0, .ref v0)]) [0] rfl ?_
          exact s_X6_take_b121 h v0 v0 ((v2).toInt64) hn H
      · refine x_icmp_ne_t dX6_take_96 (q := 127) (by decide) g4 ?_
        refine x_aload_n (q := 128) dX6_take_127 rfl rfl ?_
        refine x_getI (q := 131) dX6_take_128 rfl kl_RX6_22 (Or.inl rfl) (k243 g1 (by decide) hn) ?_
        refine x_bipush (q := 133) (v := (26 : Int32)) dX6_take_131 rfl (by decide) ?_
        replace H := kite H; rcases H with ⟨g5, H⟩ | ⟨g5, H⟩
        · refine x_icmp_ne_f (q := 136) dX6_take_133 (t := 161) (by decide) rfl g5 ?_
          refine x_aload_n (q := 137) dX6_take_136 rfl rfl ?_
          refine x_aload_n (q := 138) dX6_take_137 rfl rfl ?_
          refine x_getI (q := 141) dX6_take_138 rfl kl_RX6_30 (Or.inr rfl) (k243 g1 (by decide) hn) ?_
          replace H := kite H; rcases H with ⟨g6, H⟩ | ⟨g6, H⟩
          · refine x_if_eq_t dX6_take_141 (q := 149) (by decide) g6 ?_
            refine x_aload_n (q := 150) dX6_take_149 rfl rfl ?_
            refine x_getL (q := 153) dX6_take_150 rfl kl_RX6_26 rfl (k243 g1 (by decide) hn) ?_
            refine x_iload_n (q := 154) dX6_take_153 rfl rfl ?_
            refine x_i2l (q := 155) dX6_take_154 rfl ?_
            replace H := kbe H; obtain ⟨r7, c8, H⟩ := H
            have m9 := s_J9_min_f86c9 (Z := Z) h (kL h v0 3) ((v2).toInt64) hn c8
            refine x_callS (q := 158) (as := [.long (kL h v0 3), .long ((v2).toInt64)]) (rest := [.ref v0]) dX6_take_155 rfl kc_RX6_85 kh_J9_min_f86c9 (by decide) (Nat.le_of_ble_eq_true rfl) m9 ?_
            refine x_sub (ls2 := [(0, .ref v0)]) [0] rfl ?_
            exact s_X6_take_b158 h v0 v0 r7 hn H
          · refine x_if_eq_f (q := 144) dX6_take_141 (t := 149) (by decide) rfl g6 ?_
            refine x_iload_n (q := 145) dX6_take_144 rfl rfl ?_
            refine x_i2l (q := 146) dX6_take_145 rfl ?_
            refine x_goto dX6_take_146 (q := 158) (by decide) ?_
            refine x_sub (ls2 := [(0, .ref v0)]) [0] rfl ?_
            exact s_X6_take_b158 h v0 v0 ((v2).toInt64) hn H
        · refine x_icmp_ne_t dX6_take_133 (q := 161) (by decide) g5 ?_
          refine x_sub (ls2 := [(0, .ref v0)]) [0] rfl ?_
          exact s_X6_take_b161 h v0 hn H
def f_X6_take_b49 (h : KH) (v0 : Nat) (v1 : Int32) : Option (KH) :=
  if kkind v0 = 6 then kl (ksL h v0 3 ((v1).toInt64)) fun h2 =>
  f_X6_take_b161 h2 v0 else none
set_option maxHeartbeats 4000000 in
set_option maxRecDepth 100000 in
theorem s_X6_take_b49 {Z : Nat → (Nat → Nat) → State → Prop} (h : KH) (v0 : Nat) (v1 : Int32) {t : KH} (hn : h.1 = 243) (H : f_X6_take_b49 h v0 v1 = some t) : KX Z RX6 cX6_take 3 false 5 (KRv cX6_take t) 49 [(0, .ref v0), (1, .int v1)] [] h := by
  unfold f_X6_take_b49 at H
  refine x_aload_n (q := 50) dX6_take_49 rfl rfl ?_
  refine x_iload_n (q := 51) dX6_take_50 rfl rfl ?_
  refine x_i2l (q := 52) dX6_take_51 rfl ?_
  replace H := kif H; obtain ⟨g1, H⟩ := H
  replace H := kle H; obtain ⟨h2, q3, H⟩ := H
  refine x_putL (q := 55) dX6_take_52 rfl kl_RX6_26 (Or.inl rfl) rfl (k243 g1 (by decide) hn) ?_
  refine x_nmH q3 ?_
  have n4 : h2.1 = 243 := by rw [q3]; exact hn
  refine x_goto dX6_take_55 (q := 161) (by decide) ?_
  refine x_sub (ls2 := [(0, .ref v0)]) [0] rfl ?_
  exact s_X6_take_b161 h2 v0 n4 H
def f_X6_take_b36 (h : KH) (v0 : Nat) (v1 : Int32) (v2 : Int32) : Option (KH) :=
  if kkind v0 = 6 then if (kI h v0 2) = (22 : Int32) then
  if v2 = 0 then
  f_X6_take_b58 h v0 v2
  else
  f_X6_take_b49 h v0 v1
  else
  f_X6_take_b58 h v0 v2 else none
set_option maxHeartbeats 4000000 in
set_option maxRecDepth 100000 in
theorem s_X6_take_b36 {Z : Nat → (Nat → Nat) → State → Prop} (h : KH) (v0 : Nat) (v1 : Int32) (v2 : Int32) {t : KH} (hn : h.1 = 243) (H : f_X6_take_b36 h v0 v1 v2 = some t) : KX Z RX6 cX6_take 3 false 5 (KRv cX6_take t) 36 [(0, .ref v0), (1, .int v1), (2, .int v2)] [] h := by
  unfold f_X6_take_b36 at H
  refine x_aload_n (q := 37) dX6_take_36 rfl rfl ?_
  replace H := kif H; obtain ⟨g1, H⟩ := H
  refine x_getI (q := 40) dX6_take_37 rfl kl_RX6_22 (Or.inl rfl) (k243 g1 (by decide) hn) ?_
  refine x_bipush (q := 42) (v := (22 : Int32)) dX6_take_40 rfl (by decide) ?_
  replace H := kite H; rcases H with ⟨g2, H⟩ | ⟨g2, H⟩
  · refine x_icmp_ne_f (q := 45) dX6_take_42 (t := 58) (by decide) rfl g2 ?_
    refine x_iload_n (q := 46) dX6_take_45 rfl rfl ?_
    replace H := kite H; rcases H with ⟨g3, H⟩ | ⟨g3, H⟩
    · refine x_if_eq_t dX6_take_46 (q := 58) (by decide) g3 ?_
      refine x_sub (ls2 := [(0, .ref v0), (2, .int v2)]) [0, 2] rfl ?_
      exact s_X6_take_b58 h v0 v2 hn H
    · refine x_if_eq_f (q := 49) dX6_take_46 (t := 58) (by decide) rfl g3 ?_
      refine x_sub (ls2 := [(0, .ref v0), (1, .int v1)]) [0, 1] rfl ?_
      exact s_X6_take_b49 h v0 v1 hn H
  · refine x_icmp_ne_t dX6_take_42 (q := 58) (by decide) g2 ?_
    refine x_sub (ls2 := [(0, .ref v0), (2, .int v2)]) [0, 2] rfl ?_
    exact s_X6_take_b58 h v0 v2 hn H
def f_X6_take (h : KH) (v0 : Nat) (v1 : Int32) : Option (KH) :=
  if kkind v0 = 6 then if (kR h v0 0) < 999999 then if (kR h v0 1) < 999999 then if kkind (kR h v0 0) = 1 then kb (f_X1_resultFor h (kR h v0 0) (kR h v0 1)) fun r5 =>
  if (kI r5.2 v0 2) = (9 : Int32) then
  if r5.1 = 0 then
  f_X6_take_b36 r5.2 v0 v1 r5.1
  else
  if (lg_cmp (kL r5.2 v0 3) (-1 : Int64)) = 0 then
  f_X6_take_b49 r5.2 v0 v1
  else
  f_X6_take_b36 r5.2 v0 v1 r5.1
  else
  f_X6_take_b36 r5.2 v0 v1 r5.1 else none else none else none else none
set_option maxHeartbeats 4000000 in
set_option maxRecDepth 100000 in
theorem s0_X6_take {Z : Nat → (Nat → Nat) → State → Prop} (h : KH) (v0 : Nat) (v1 : Int32) {t : KH} (hn : h.1 = 243) (H : f_X6_take h v0 v1 = some t) : KX Z RX6 cX6_take 3 false 5 (KRv cX6_take t) 0 [(0, .ref v0), (1, .int v1)] [] h := by
  unfold f_X6_take at H
  refine x_aload_n (q := 1) dX6_take_0 rfl rfl ?_
  replace H := kif H; obtain ⟨g1, H⟩ := H
  replace H := kif H; obtain ⟨g2, H⟩ := H
  refine x_getR (q := 4) dX6_take_1 rfl kl_RX6_12 rfl (k243 g1 (by decide) hn) g2 ?_
  refine x_aload_n (q := 5) dX6_take_4 rfl rfl ?_
  replace H := kif H; obtain ⟨g3, H⟩ := H
  refine x_getR (q := 8) dX6_take_5 rfl kl_RX6_18 rfl (k243 g1 (by decide) hn) g3 ?_
  replace H := kif H; obtain ⟨g4, H⟩ := H
  replace H := kbe H; obtain ⟨r5, c6, H⟩ := H
  have m7 := s_X1_resultFor (Z := Z) h (kR h v0 0) (kR h v0 1) hn c6
  refine x_callV (q := 11) (as := [.ref (kR h v0 1)]) (rest := []) dX6_take_8 rfl kc_RX6_75 kh_X1_resultFor (by decide) (Nat.le_of_ble_eq_true rfl) m7 (ci := 1) (by exact ⟨rfl, by decide⟩) (k243 g4 (by decide) hn) ?_
  have n8 : (r5.2).1 = 243 := m7.1.full hn
  refine x_istore_n (q := 12) (i := 2) (ls2 := [(2, .int r5.1), (0, .ref v0), (1, .int v1)]) dX6_take_11 rfl rfl (by decide) rfl ?_
  refine x_aload_n (q := 13) dX6_take_12 rfl rfl ?_
  refine x_getI (q := 16) dX6_take_13 rfl kl_RX6_22 (Or.inl rfl) (k243 g1 (by decide) n8) ?_
  refine x_bipush (q := 18) (v := (9 : Int32)) dX6_take_16 rfl (by decide) ?_
  replace H := kite H; rcases H with ⟨g9, H⟩ | ⟨g9, H⟩
  · refine x_icmp_ne_f (q := 21) dX6_take_18 (t := 36) (by decide) rfl g9 ?_
    refine x_iload_n (q := 22) dX6_take_21 rfl rfl ?_
    replace H := kite H; rcases H with ⟨g10, H⟩ | ⟨g10, H⟩
    · refine x_if_eq_t dX6_take_22 (q := 36) (by decide) g10 ?_
      refine x_sub (ls2 := [(0, .ref v0), (1, .int v1), (2, .int r5.1)]) [1, 2, 0] rfl ?_
      exact s_X6_take_b36 r5.2 v0 v1 r5.1 n8 H
    · refine x_if_eq_f (q := 25) dX6_take_22 (t := 36) (by decide) rfl g10 ?_
      refine x_aload_n (q := 26) dX6_take_25 rfl rfl ?_
      refine x_getL (q := 29) dX6_take_26 rfl kl_RX6_26 rfl (k243 g1 (by decide) n8) ?_
      refine x_ldc2 (q := 32) (v := (-1 : Int64)) dX6_take_29 rfl kk_RX6_34 ?_
      refine x_lcmp (q := 33) dX6_take_32 rfl ?_
      replace H := kite H; rcases H with ⟨g11, H⟩ | ⟨g11, H⟩
      · refine x_if_eq_t dX6_take_33 (q := 49) (by decide) g11 ?_
        refine x_sub (ls2 := [(0, .ref v0), (1, .int v1)]) [1, 2] rfl ?_
        exact s_X6_take_b49 r5.2 v0 v1 n8 H
      · refine x_if_eq_f (q := 36) dX6_take_33 (t := 49) (by decide) rfl g11 ?_
        refine x_sub (ls2 := [(0, .ref v0), (1, .int v1), (2, .int r5.1)]) [1, 2, 0] rfl ?_
        exact s_X6_take_b36 r5.2 v0 v1 r5.1 n8 H
  · refine x_icmp_ne_t dX6_take_18 (q := 36) (by decide) g9 ?_
    refine x_sub (ls2 := [(0, .ref v0), (1, .int v1), (2, .int r5.1)]) [1, 2, 0] rfl ?_
    exact s_X6_take_b36 r5.2 v0 v1 r5.1 n8 H
theorem s_X6_take {Z : Nat → (Nat → Nat) → State → Prop} (h : KH) (v0 : Nat) (v1 : Int32) {t : KH} (hn : h.1 = 243) (H : f_X6_take h v0 v1 = some t) : KM Z yX6_take cX6_take 3 none 5 [.ref v0, .int v1] h none t :=
  kx_v (own := RX6) (ini := false) (by decide +kernel) (by decide +kernel) rfl (Nat.le_of_ble_eq_true rfl) (s0_X6_take h v0 v1 hn H)
theorem dX7_begin_0 : decode cX7_begin 0 = .ok (.aload_n 0, 1) := by decide +kernel
theorem dX7_begin_1 : decode cX7_begin 1 = .ok (.iconst 0, 1) := by decide +kernel
theorem dX7_begin_2 : decode cX7_begin 2 = .ok (.putfield 15, 3) := by decide +kernel
theorem dX7_begin_5 : decode cX7_begin 5 = .ok (.aload_n 0, 1) := by decide +kernel
theorem dX7_begin_6 : decode cX7_begin 6 = .ok (.iconst 0, 1) := by decide +kernel
theorem dX7_begin_7 : decode cX7_begin 7 = .ok (.putfield 19, 3) := by decide +kernel
theorem dX7_begin_10 : decode cX7_begin 10 = .ok (.aload_n 0, 1) := by decide +kernel
theorem dX7_begin_11 : decode cX7_begin 11 = .ok (.iconst 0, 1) := by decide +kernel
theorem dX7_begin_12 : decode cX7_begin 12 = .ok (.putfield 31, 3) := by decide +kernel
theorem dX7_begin_15 : decode cX7_begin 15 = .ok (.aload_n 0, 1) := by decide +kernel
theorem dX7_begin_16 : decode cX7_begin 16 = .ok (.iconst (-1), 1) := by decide +kernel
theorem dX7_begin_17 : decode cX7_begin 17 = .ok (.putfield 34, 3) := by decide +kernel
theorem dX7_begin_20 : decode cX7_begin 20 = .ok (.aload_n 0, 1) := by decide +kernel
theorem dX7_begin_21 : decode cX7_begin 21 = .ok (.invokevirtual 67, 3) := by decide +kernel
theorem dX7_begin_24 : decode cX7_begin 24 = .ok (.return_, 1) := by decide +kernel
def f_X7_begin (h : KH) (v0 : Nat) : Option (KH) :=
  if kkind v0 = 7 then kl (ksI h v0 2 (0 : Int32)) fun h2 =>
  kl (ksI h2 v0 3 (0 : Int32)) fun h5 =>
  kl (ksI h5 v0 7 (0 : Int32)) fun h8 =>
  kl (ksI h8 v0 8 (-1 : Int32)) fun h11 =>
  kb (f_X7_next h11 v0) fun r14 =>
  some r14 else none
set_option maxHeartbeats 4000000 in
set_option maxRecDepth 100000 in
theorem s0_X7_begin {Z : Nat → (Nat → Nat) → State → Prop} (h : KH) (v0 : Nat) {t : KH} (hn : h.1 = 243) (H : f_X7_begin h v0 = some t) : KX Z RX7 cX7_begin 1 false 4 (KRv cX7_begin t) 0 [(0, .ref v0)] [] h := by
  unfold f_X7_begin at H
  refine x_aload_n (q := 1) dX7_begin_0 rfl rfl ?_
  refine x_iconst (q := 2) (v := (0 : Int32)) dX7_begin_1 rfl (by decide) ?_
  replace H := kif H; obtain ⟨g1, H⟩ := H
  replace H := kle H; obtain ⟨h2, q3, H⟩ := H
  refine x_putI (q := 5) dX7_begin_2 rfl kl_RX7_15 (Or.inl rfl) rfl (k243 g1 (by decide) hn) ?_
  refine x_nmH q3 ?_
  have n4 : h2.1 = 243 := by rw [q3]; exact hn
  refine x_aload_n (q := 6) dX7_begin_5 rfl rfl ?_
  refine x_iconst (q := 7) (v := (0 : Int32)) dX7_begin_6 rfl (by decide) ?_
  replace H := kle H; obtain ⟨h5, q6, H⟩ := H
  refine x_putI (q := 10) dX7_begin_7 rfl kl_RX7_19 (Or.inl rfl) rfl (k243 g1 (by decide) n4) ?_
  refine x_nmH q6 ?_
  have n7 : h5.1 = 243 := by rw [q6]; exact n4
  refine x_aload_n (q := 11) dX7_begin_10 rfl rfl ?_
  refine x_iconst (q := 12) (v := (0 : Int32)) dX7_begin_11 rfl (by decide) ?_
  replace H := kle H; obtain ⟨h8, q9, H⟩ := H
  refine x_putI (q := 15) dX7_begin_12 rfl kl_RX7_31 (Or.inl rfl) rfl (k243 g1 (by decide) n7) ?_
  refine x_nmH q9 ?_
  have n10 : h8.1 = 243 := by rw [q9]; exact n7
  refine x_aload_n (q := 16) dX7_begin_15 rfl rfl ?_
  refine x_iconst (q := 17) (v := (-1 : Int32)) dX7_begin_16 rfl (by decide) ?_
  replace H := kle H; obtain ⟨h11, q12, H⟩ := H
  refine x_putI (q := 20) dX7_begin_17 rfl kl_RX7_34 (Or.inl rfl) rfl (k243 g1 (by decide) n10) ?_
  refine x_nmH q12 ?_
  have n13 : h11.1 = 243 := by rw [q12]; exact n10
  refine x_aload_n (q := 21) dX7_begin_20 rfl rfl ?_
  replace H := kbe H; obtain ⟨r14, c15, H⟩ := H
  have m16 := s_X7_next (Z := Z) h11 v0 n13 c15
  refine x_callV (q := 24) (as := []) (rest := []) dX7_begin_21 rfl kc_RX7_67 kh_X7_next (by decide) (Nat.le_of_ble_eq_true rfl) m16 (ci := 7) (by exact ⟨rfl, by decide⟩) (k243 g1 (by decide) n13) ?_
  have n17 : (r14).1 = 243 := m16.1.full n13
  cases H
  exact x_end ⟨dX7_begin_24, rfl, rfl⟩
theorem s_X7_begin {Z : Nat → (Nat → Nat) → State → Prop} (h : KH) (v0 : Nat) {t : KH} (hn : h.1 = 243) (H : f_X7_begin h v0 = some t) : KM Z yX7_begin cX7_begin 1 none 4 [.ref v0] h none t :=
  kx_v (own := RX7) (ini := false) (by decide +kernel) (by decide +kernel) rfl (Nat.le_of_ble_eq_true rfl) (s0_X7_begin h v0 hn H)
theorem dX7_goesOn_0 : decode cX7_goesOn 0 = .ok (.aload_n 0, 1) := by decide +kernel
theorem dX7_goesOn_1 : decode cX7_goesOn 1 = .ok (.getfield 19, 3) := by decide +kernel
theorem dX7_goesOn_4 : decode cX7_goesOn 4 = .ok (.iconst 1, 1) := by decide +kernel
theorem dX7_goesOn_5 : decode cX7_goesOn 5 = .ok (.if_icmp .eq 16, 3) := by decide +kernel
theorem dX7_goesOn_8 : decode cX7_goesOn 8 = .ok (.aload_n 0, 1) := by decide +kernel
theorem dX7_goesOn_9 : decode cX7_goesOn 9 = .ok (.getfield 19, 3) := by decide +kernel
theorem dX7_goesOn_12 : decode cX7_goesOn 12 = .ok (.bipush 6, 2) := by decide +kernel
theorem dX7_goesOn_14 : decode cX7_goesOn 14 = .ok (.if_icmp .eq 7, 3) := by decide +kernel
theorem dX7_goesOn_17 : decode cX7_goesOn 17 = .ok (.iconst 1, 1) := by decide +kernel
theorem dX7_goesOn_18 : decode cX7_goesOn 18 = .ok (.goto 4, 3) := by decide +kernel
theorem dX7_goesOn_21 : decode cX7_goesOn 21 = .ok (.iconst 0, 1) := by decide +kernel
theorem dX7_goesOn_22 : decode cX7_goesOn 22 = .ok (.ireturn, 1) := by decide +kernel
def f_X7_goesOn (h : KH) (v0 : Nat) : Option (Int32) :=
  if kkind v0 = 7 then if (kI h v0 3) = (1 : Int32) then
  some (0 : Int32)
  else
  if (kI h v0 3) = (6 : Int32) then
  some (0 : Int32)
  else
  some (1 : Int32) else none
set_option maxHeartbeats 4000000 in
set_option maxRecDepth 100000 in
theorem s0_X7_goesOn {Z : Nat → (Nat → Nat) → State → Prop} (h : KH) (v0 : Nat) {t : Int32} (hn : h.1 = 243) (H : f_X7_goesOn h v0 = some t) : KX Z RX7 cX7_goesOn 1 false 1 (KRz cX7_goesOn t h) 0 [(0, .ref v0)] [] h := by
  unfold f_X7_goesOn at H
  refine x_aload_n (q := 1) dX7_goesOn_0 rfl rfl ?_
  replace H := kif H; obtain ⟨g1, H⟩ := H
  refine x_getI (q := 4) dX7_goesOn_1 rfl kl_RX7_19 (Or.inl rfl) (k243 g1 (by decide) hn) ?_
  refine x_iconst (q := 5) (v := (1 : Int32)) dX7_goesOn_4 rfl (by decide) ?_
  replace H := kite H; rcases H with ⟨g2, H⟩ | ⟨g2, H⟩
  · refine x_icmp_eq_t dX7_goesOn_5 (q := 21) (by decide) g2 ?_
    refine x_iconst (q := 22) (v := (0 : Int32)) dX7_goesOn_21 rfl (by decide) ?_
    cases H
    exact x_end ⟨(Or.inl rfl), dX7_goesOn_22, rfl, rfl⟩
  · refine x_icmp_eq_f (q := 8) dX7_goesOn_5 (t := 21) (by decide) rfl g2 ?_
    refine x_aload_n (q := 9) dX7_goesOn_8 rfl rfl ?_
    refine x_getI (q := 12) dX7_goesOn_9 rfl kl_RX7_19 (Or.inl rfl) (k243 g1 (by decide) hn) ?_
    refine x_bipush (q := 14) (v := (6 : Int32)) dX7_goesOn_12 rfl (by decide) ?_
    replace H := kite H; rcases H with ⟨g3, H⟩ | ⟨g3, H⟩
    · refine x_icmp_eq_t dX7_goesOn_14 (q := 21) (by decide) g3 ?_
      refine x_iconst (q := 22) (v := (0 : Int32)) dX7_goesOn_21 rfl (by decide) ?_
      cases H
      exact x_end ⟨(Or.inl rfl), dX7_goesOn_22, rfl, rfl⟩
    · refine x_icmp_eq_f (q := 17) dX7_goesOn_14 (t := 21) (by decide) rfl g3 ?_
      refine x_iconst (q := 18) (v := (1 : Int32)) dX7_goesOn_17 rfl (by decide) ?_
      refine x_goto dX7_goesOn_18 (q := 22) (by decide) ?_
      cases H
      exact x_end ⟨(Or.inr rfl), dX7_goesOn_22, rfl, rfl⟩
theorem s_X7_goesOn {Z : Nat → (Nat → Nat) → State → Prop} (h : KH) (v0 : Nat) {t : Int32} (hn : h.1 = 243) (H : f_X7_goesOn h v0 = some t) : KM Z yX7_goesOn cX7_goesOn 1 (some .boolean) 1 [.ref v0] h (some (.int t)) h :=
  kx_z (own := RX7) (ini := false) (by decide +kernel) (by decide +kernel) rfl (Nat.le_of_ble_eq_true rfl) (s0_X7_goesOn h v0 hn H)
theorem dX7_isAtSign_0 : decode cX7_isAtSign 0 = .ok (.aload_n 0, 1) := by decide +kernel
theorem dX7_isAtSign_1 : decode cX7_isAtSign 1 = .ok (.getfield 19, 3) := by decide +kernel
theorem dX7_isAtSign_4 : decode cX7_isAtSign 4 = .ok (.iconst 4, 1) := by decide +kernel
theorem dX7_isAtSign_5 : decode cX7_isAtSign 5 = .ok (.if_icmp .ne 15, 3) := by decide +kernel
theorem dX7_isAtSign_8 : decode cX7_isAtSign 8 = .ok (.aload_n 0, 1) := by decide +kernel
theorem dX7_isAtSign_9 : decode cX7_isAtSign 9 = .ok (.getfield 28, 3) := by decide +kernel
theorem dX7_isAtSign_12 : decode cX7_isAtSign 12 = .ok (.iload_n 1, 1) := by decide +kernel
theorem dX7_isAtSign_13 : decode cX7_isAtSign 13 = .ok (.if_icmp .ne 7, 3) := by decide +kernel
theorem dX7_isAtSign_16 : decode cX7_isAtSign 16 = .ok (.iconst 1, 1) := by decide +kernel
theorem dX7_isAtSign_17 : decode cX7_isAtSign 17 = .ok (.goto 4, 3) := by decide +kernel
theorem dX7_isAtSign_20 : decode cX7_isAtSign 20 = .ok (.iconst 0, 1) := by decide +kernel
theorem dX7_isAtSign_21 : decode cX7_isAtSign 21 = .ok (.ireturn, 1) := by decide +kernel
def f_X7_isAtSign (h : KH) (v0 : Nat) (v1 : Int32) : Option (Int32) :=
  if kkind v0 = 7 then if (kI h v0 3) = (4 : Int32) then
  if (kI h v0 6) = v1 then
  some (1 : Int32)
  else
  some (0 : Int32)
  else
  some (0 : Int32) else none
set_option maxHeartbeats 4000000 in
set_option maxRecDepth 100000 in
theorem s0_X7_isAtSign {Z : Nat → (Nat → Nat) → State → Prop} (h : KH) (v0 : Nat) (v1 : Int32) {t : Int32} (hn : h.1 = 243) (H : f_X7_isAtSign h v0 v1 = some t) : KX Z RX7 cX7_isAtSign 2 false 1 (KRz cX7_isAtSign t h) 0 [(0, .ref v0), (1, .int v1)] [] h := by
  unfold f_X7_isAtSign at H
  refine x_aload_n (q := 1) dX7_isAtSign_0 rfl rfl ?_
  replace H := kif H; obtain ⟨g1, H⟩ := H
  refine x_getI (q := 4) dX7_isAtSign_1 rfl kl_RX7_19 (Or.inl rfl) (k243 g1 (by decide) hn) ?_
  refine x_iconst (q := 5) (v := (4 : Int32)) dX7_isAtSign_4 rfl (by decide) ?_
  replace H := kite H; rcases H with ⟨g2, H⟩ | ⟨g2, H⟩
  · refine x_icmp_ne_f (q := 8) dX7_isAtSign_5 (t := 20) (by decide) rfl g2 ?_
    refine x_aload_n (q := 9) dX7_isAtSign_8 rfl rfl ?_
    refine x_getI (q := 12) dX7_isAtSign_9 rfl kl_RX7_28 (Or.inl rfl) (k243 g1 (by decide) hn) ?_
    refine x_iload_n (q := 13) dX7_isAtSign_12 rfl rfl ?_
    replace H := kite H; rcases H with ⟨g3, H⟩ | ⟨g3, H⟩
    · refine x_icmp_ne_f (q := 16) dX7_isAtSign_13 (t := 20) (by decide) rfl g3 ?_
      refine x_iconst (q := 17) (v := (1 : Int32)) dX7_isAtSign_16 rfl (by decide) ?_
      refine x_goto dX7_isAtSign_17 (q := 21) (by decide) ?_
      cases H
      exact x_end ⟨(Or.inr rfl), dX7_isAtSign_21, rfl, rfl⟩
    · refine x_icmp_ne_t dX7_isAtSign_13 (q := 20) (by decide) g3 ?_
      refine x_iconst (q := 21) (v := (0 : Int32)) dX7_isAtSign_20 rfl (by decide) ?_
      cases H
      exact x_end ⟨(Or.inl rfl), dX7_isAtSign_21, rfl, rfl⟩
  · refine x_icmp_ne_t dX7_isAtSign_5 (q := 20) (by decide) g2 ?_
    refine x_iconst (q := 21) (v := (0 : Int32)) dX7_isAtSign_20 rfl (by decide) ?_
    cases H
    exact x_end ⟨(Or.inl rfl), dX7_isAtSign_21, rfl, rfl⟩
theorem s_X7_isAtSign {Z : Nat → (Nat → Nat) → State → Prop} (h : KH) (v0 : Nat) (v1 : Int32) {t : Int32} (hn : h.1 = 243) (H : f_X7_isAtSign h v0 v1 = some t) : KM Z yX7_isAtSign cX7_isAtSign 2 (some .boolean) 1 [.ref v0, .int v1] h (some (.int t)) h :=
  kx_z (own := RX7) (ini := false) (by decide +kernel) (by decide +kernel) rfl (Nat.le_of_ble_eq_true rfl) (s0_X7_isAtSign h v0 v1 hn H)
theorem dX7_takeSign_0 : decode cX7_takeSign 0 = .ok (.aload_n 0, 1) := by decide +kernel
theorem dX7_takeSign_1 : decode cX7_takeSign 1 = .ok (.iload_n 1, 1) := by decide +kernel
theorem dX7_takeSign_2 : decode cX7_takeSign 2 = .ok (.invokevirtual 100, 3) := by decide +kernel
theorem dX7_takeSign_5 : decode cX7_takeSign 5 = .ok (.ifCond .eq 10, 3) := by decide +kernel
theorem dX7_takeSign_8 : decode cX7_takeSign 8 = .ok (.aload_n 0, 1) := by decide +kernel
theorem dX7_takeSign_9 : decode cX7_takeSign 9 = .ok (.invokevirtual 67, 3) := by decide +kernel
theorem dX7_takeSign_12 : decode cX7_takeSign 12 = .ok (.goto 12, 3) := by decide +kernel
theorem dX7_takeSign_15 : decode cX7_takeSign 15 = .ok (.aload_n 0, 1) := by decide +kernel
theorem dX7_takeSign_16 : decode cX7_takeSign 16 = .ok (.iconst 1, 1) := by decide +kernel
theorem dX7_takeSign_17 : decode cX7_takeSign 17 = .ok (.aload_n 0, 1) := by decide +kernel
theorem dX7_takeSign_18 : decode cX7_takeSign 18 = .ok (.getfield 22, 3) := by decide +kernel
theorem dX7_takeSign_21 : decode cX7_takeSign 21 = .ok (.invokevirtual 96, 3) := by decide +kernel
theorem dX7_takeSign_24 : decode cX7_takeSign 24 = .ok (.return_, 1) := by decide +kernel
theorem kc_RX7_100 : Cond.methodLink RX7 100 yX7_isAtSign ∈ ktG ∧ (Cond.instanceMethod yX7_isAtSign ∈ ktG ∧ Cond.selects yX7_isAtSign.cls yX7_isAtSign yX7_isAtSign ∈ ktG) ∧ Cond.initialized yX7_isAtSign.cls ∈ ktG ∧ Cond.code yX7_isAtSign cX7_isAtSign 2 (some .boolean) ∈ ktG := ⟨(kwm 745 (by decide +kernel) (by decide +kernel)), ⟨(kwm 737 (by decide +kernel) (by decide +kernel)), (kwm 738 (by decide +kernel) (by decide +kernel))⟩, (kwm 127 (by decide +kernel) (by decide +kernel)), kwm 739 (by decide +kernel) (by decide +kernel)⟩
theorem kh_X7_isAtSign : yX7_isAtSign.cls ≠ "java/lang/invoke/MethodHandle" ∧ yX7_isAtSign.cls ≠ "java/lang/invoke/VarHandle" ∧ (parseMethodDescriptor yX7_isAtSign.desc).map (fun d => d.parameters.length) = some 1 := by decide +kernel
def f_X7_takeSign (h : KH) (v0 : Nat) (v1 : Int32) : Option (KH) :=
  if kkind v0 = 7 then kb (f_X7_isAtSign h v0 v1) fun r2 =>
  if r2 = 0 then
  kb (f_X7_stop h v0 (1 : Int32) (kI h v0 4)) fun r6 =>
  some r6
  else
  kb (f_X7_next h v0) fun r10 =>
  some r10 else none
set_option maxHeartbeats 4000000 in
set_option maxRecDepth 100000 in
theorem s0_X7_takeSign {Z : Nat → (Nat → Nat) → State → Prop} (h : KH) (v0 : Nat) (v1 : Int32) {t : KH} (hn : h.1 = 243) (H : f_X7_takeSign h v0 v1 = some t) : KX Z RX7 cX7_takeSign 2 false 4 (KRv cX7_takeSign t) 0 [(0, .ref v0), (1, .int v1)] [] h := by
  unfold f_X7_takeSign at H
  refine x_aload_n (q := 1) dX7_takeSign_0 rfl rfl ?_
  refine x_iload_n (q := 2) dX7_takeSign_1 rfl rfl ?_
  replace H := kif H; obtain ⟨g1, H⟩ := H
  replace H := kbe H; obtain ⟨r2, c3, H⟩ := H
  have m4 := s_X7_isAtSign (Z := Z) h v0 v1 hn c3
  refine x_callV (q := 5) (as := [.int v1]) (rest := []) dX7_takeSign_2 rfl kc_RX7_100 kh_X7_isAtSign (by decide) (Nat.le_of_ble_eq_true rfl) m4 (ci := 7) (by exact ⟨rfl, by decide⟩) (k243 g1 (by decide) hn) ?_
  replace H := kite H; rcases H with ⟨g5, H⟩ | ⟨g5, H⟩
  · refine x_if_eq_t dX7_takeSign_5 (q := 15) (by decide) g5 ?_
    refine x_aload_n (q := 16) dX7_takeSign_15 rfl rfl ?_
    refine x_iconst (q := 17) (v := (1 : Int32)) dX7_takeSign_16 rfl (by decide) ?_
    refine x_aload_n (q := 18) dX7_takeSign_17 rfl rfl ?_
    refine x_getI (q := 21) dX7_takeSign_18 rfl kl_RX7_22 (Or.inl rfl) (k243 g1 (by decide) hn) ?_
    replace H := kbe H; obtain ⟨r6, c7, H⟩ := H
    have m8 := s_X7_stop (Z := Z) h v0 (1 : Int32) (kI h v0 4) hn c7
    refine x_callV (q := 24) (as := [.int (1 : Int32), .int (kI h v0 4)]) (rest := []) dX7_takeSign_21 rfl kc_RX7_96 kh_X7_stop (by decide) (Nat.le_of_ble_eq_true rfl) m8 (ci := 7) (by exact ⟨rfl, by decide⟩) (k243 g1 (by decide) hn) ?_
    have n9 : (r6).1 = 243 := m8.1.full hn
    cases H
    exact x_end ⟨dX7_takeSign_24, rfl, rfl⟩
  · refine x_if_eq_f (q := 8) dX7_takeSign_5 (t := 15) (by decide) rfl g5 ?_
    refine x_aload_n (q := 9) dX7_takeSign_8 rfl rfl ?_
    replace H := kbe H; obtain ⟨r10, c11, H⟩ := H
    have m12 := s_X7_next (Z := Z) h v0 hn c11
    refine x_callV (q := 12) (as := []) (rest := []) dX7_takeSign_9 rfl kc_RX7_67 kh_X7_next (by decide) (Nat.le_of_ble_eq_true rfl) m12 (ci := 7) (by exact ⟨rfl, by decide⟩) (k243 g1 (by decide) hn) ?_
    have n13 : (r10).1 = 243 := m12.1.full hn
    refine x_goto dX7_takeSign_12 (q := 24) (by decide) ?_
    cases H
    exact x_end ⟨dX7_takeSign_24, rfl, rfl⟩
theorem s_X7_takeSign {Z : Nat → (Nat → Nat) → State → Prop} (h : KH) (v0 : Nat) (v1 : Int32) {t : KH} (hn : h.1 = 243) (H : f_X7_takeSign h v0 v1 = some t) : KM Z yX7_takeSign cX7_takeSign 2 none 4 [.ref v0, .int v1] h none t :=
  kx_v (own := RX7) (ini := false) (by decide +kernel) (by decide +kernel) rfl (Nat.le_of_ble_eq_true rfl) (s0_X7_takeSign h v0 v1 hn H)
theorem dX8_forgetCase_0 : decode cX8_forgetCase 0 = .ok (.aload_n 0, 1) := by decide +kernel
theorem dX8_forgetCase_1 : decode cX8_forgetCase 1 = .ok (.getfield 25, 3) := by decide +kernel
theorem dX8_forgetCase_4 : decode cX8_forgetCase 4 = .ok (.iconst 0, 1) := by decide +kernel
theorem dX8_forgetCase_5 : decode cX8_forgetCase 5 = .ok (.invokestatic 31, 3) := by decide +kernel
theorem dX8_forgetCase_8 : decode cX8_forgetCase 8 = .ok (.aload_n 0, 1) := by decide +kernel
theorem dX8_forgetCase_9 : decode cX8_forgetCase 9 = .ok (.getfield 28, 3) := by decide +kernel
theorem dX8_forgetCase_12 : decode cX8_forgetCase 12 = .ok (.iconst 0, 1) := by decide +kernel
theorem dX8_forgetCase_13 : decode cX8_forgetCase 13 = .ok (.invokestatic 31, 3) := by decide +kernel
theorem dX8_forgetCase_16 : decode cX8_forgetCase 16 = .ok (.return_, 1) := by decide +kernel
theorem kc_RX8_31 : Cond.methodLink RX8 31 yJ7_fill_53178 ∈ ktG ∧ Cond.static yJ7_fill_53178 ∈ ktG ∧ Cond.initialized yJ7_fill_53178.cls ∈ ktG ∧ Cond.code yJ7_fill_53178 cJ7_fill_53178 4 none ∈ ktG := ⟨(kwm 778 (by decide +kernel) (by decide +kernel)), (kwm 612 (by decide +kernel) (by decide +kernel)), (kwm 140 (by decide +kernel) (by decide +kernel)), kwm 613 (by decide +kernel) (by decide +kernel)⟩
def f_X8_forgetCase (h : KH) (v0 : Nat) : Option (KH) :=
  if kkind v0 = 8 then if (kR h v0 4) < 999999 then kb (f_J7_fill_53178 h (kR h v0 4) (0 : Int32)) fun r3 =>
  if (kR r3 v0 5) < 999999 then kb (f_J7_fill_53178 r3 (kR r3 v0 5) (0 : Int32)) fun r8 =>
  some r8 else none else none else none
set_option maxHeartbeats 4000000 in
set_option maxRecDepth 100000 in
theorem s0_X8_forgetCase {Z : Nat → (Nat → Nat) → State → Prop} (h : KH) (v0 : Nat) {t : KH} (hn : h.1 = 243) (H : f_X8_forgetCase h v0 = some t) : KX Z RX8 cX8_forgetCase 1 false 2 (KRv cX8_forgetCase t) 0 [(0, .ref v0)] [] h := by
  unfold f_X8_forgetCase at H
  refine x_aload_n (q := 1) dX8_forgetCase_0 rfl rfl ?_
  replace H := kif H; obtain ⟨g1, H⟩ := H
  replace H := kif H; obtain ⟨g2, H⟩ := H
  refine x_getR (q := 4) dX8_forgetCase_1 rfl kl_RX8_25 rfl (k243 g1 (by decide) hn) g2 ?_
  refine x_iconst (q := 5) (v := (0 : Int32)) dX8_forgetCase_4 rfl (by decide) ?_
  replace H := kbe H; obtain ⟨r3, c4, H⟩ := H
  have m5 := s_J7_fill_53178 (Z := Z) h (kR h v0 4) (0 : Int32) hn c4
  refine x_callS (q := 8) (as := [.ref (kR h v0 4), .int (0 : Int32)]) (rest := []) dX8_forgetCase_5 rfl kc_RX8_31 kh_J7_fill_53178 (by decide) (Nat.le_of_ble_eq_true rfl) m5 ?_
  have n6 : (r3).1 = 243 := m5.1.full hn
  refine x_aload_n (q := 9) dX8_forgetCase_8 rfl rfl ?_
  replace H := kif H; obtain ⟨g7, H⟩ := H
  refine x_getR (q := 12) dX8_forgetCase_9 rfl kl_RX8_28 rfl (k243 g1 (by decide) n6) g7 ?_
  refine x_iconst (q := 13) (v := (0 : Int32)) dX8_forgetCase_12 rfl (by decide) ?_
  replace H := kbe H; obtain ⟨r8, c9, H⟩ := H
  have m10 := s_J7_fill_53178 (Z := Z) r3 (kR r3 v0 5) (0 : Int32) n6 c9
  refine x_callS (q := 16) (as := [.ref (kR r3 v0 5), .int (0 : Int32)]) (rest := []) dX8_forgetCase_13 rfl kc_RX8_31 kh_J7_fill_53178 (by decide) (Nat.le_of_ble_eq_true rfl) m10 ?_
  have n11 : (r8).1 = 243 := m10.1.full n6
  cases H
  exact x_end ⟨dX8_forgetCase_16, rfl, rfl⟩
theorem s_X8_forgetCase {Z : Nat → (Nat → Nat) → State → Prop} (h : KH) (v0 : Nat) {t : KH} (hn : h.1 = 243) (H : f_X8_forgetCase h v0 = some t) : KM Z yX8_forgetCase cX8_forgetCase 1 none 2 [.ref v0] h none t :=
  kx_v (own := RX8) (ini := false) (by decide +kernel) (by decide +kernel) rfl (Nat.le_of_ble_eq_true rfl) (s0_X8_forgetCase h v0 hn H)
theorem dX8_clear_0 : decode cX8_clear 0 = .ok (.aload_n 0, 1) := by decide +kernel
theorem dX8_clear_1 : decode cX8_clear 1 = .ok (.iconst 0, 1) := by decide +kernel
theorem dX8_clear_2 : decode cX8_clear 2 = .ok (.putfield 9, 3) := by decide +kernel
theorem dX8_clear_5 : decode cX8_clear 5 = .ok (.aload_n 0, 1) := by decide +kernel
theorem dX8_clear_6 : decode cX8_clear 6 = .ok (.iconst 0, 1) := by decide +kernel
theorem dX8_clear_7 : decode cX8_clear 7 = .ok (.putfield 15, 3) := by decide +kernel
theorem dX8_clear_10 : decode cX8_clear 10 = .ok (.aload_n 0, 1) := by decide +kernel
theorem dX8_clear_11 : decode cX8_clear 11 = .ok (.iconst 0, 1) := by decide +kernel
theorem dX8_clear_12 : decode cX8_clear 12 = .ok (.putfield 18, 3) := by decide +kernel
theorem dX8_clear_15 : decode cX8_clear 15 = .ok (.aload_n 0, 1) := by decide +kernel
theorem dX8_clear_16 : decode cX8_clear 16 = .ok (.getfield 21, 3) := by decide +kernel
theorem dX8_clear_19 : decode cX8_clear 19 = .ok (.iconst 0, 1) := by decide +kernel
theorem dX8_clear_20 : decode cX8_clear 20 = .ok (.invokestatic 31, 3) := by decide +kernel
theorem dX8_clear_23 : decode cX8_clear 23 = .ok (.aload_n 0, 1) := by decide +kernel
theorem dX8_clear_24 : decode cX8_clear 24 = .ok (.invokevirtual 37, 3) := by decide +kernel
theorem dX8_clear_27 : decode cX8_clear 27 = .ok (.return_, 1) := by decide +kernel
theorem kc_RX8_37 : Cond.methodLink RX8 37 yX8_forgetCase ∈ ktG ∧ (Cond.instanceMethod yX8_forgetCase ∈ ktG ∧ Cond.selects yX8_forgetCase.cls yX8_forgetCase yX8_forgetCase ∈ ktG) ∧ Cond.initialized yX8_forgetCase.cls ∈ ktG ∧ Cond.code yX8_forgetCase cX8_forgetCase 1 none ∈ ktG := ⟨(kwm 779 (by decide +kernel) (by decide +kernel)), ⟨(kwm 780 (by decide +kernel) (by decide +kernel)), (kwm 781 (by decide +kernel) (by decide +kernel))⟩, (kwm 135 (by decide +kernel) (by decide +kernel)), kwm 782 (by decide +kernel) (by decide +kernel)⟩
theorem kh_X8_forgetCase : yX8_forgetCase.cls ≠ "java/lang/invoke/MethodHandle" ∧ yX8_forgetCase.cls ≠ "java/lang/invoke/VarHandle" ∧ (parseMethodDescriptor yX8_forgetCase.desc).map (fun d => d.parameters.length) = some 0 := by decide +kernel
def f_X8_clear (h : KH) (v0 : Nat) : Option (KH) :=
  if kkind v0 = 8 then kl (ksI h v0 0 (0 : Int32)) fun h2 =>
  kl (ksI h2 v0 1 (0 : Int32)) fun h5 =>
  kl (ksI h5 v0 2 (0 : Int32)) fun h8 =>
  if (kR h8 v0 3) < 999999 then kb (f_J7_fill_53178 h8 (kR h8 v0 3) (0 : Int32)) fun r12 =>
  kb (f_X8_forgetCase r12 v0) fun r16 =>
  some r16 else none else none
set_option maxHeartbeats 4000000 in
set_option maxRecDepth 100000 in
theorem s0_X8_clear {Z : Nat → (Nat → Nat) → State → Prop} (h : KH) (v0 : Nat) {t : KH} (hn : h.1 = 243) (H : f_X8_clear h v0 = some t) : KX Z RX8 cX8_clear 1 false 3 (KRv cX8_clear t) 0 [(0, .ref v0)] [] h := by
  unfold f_X8_clear at H
  refine x_aload_n (q := 1) dX8_clear_0 rfl rfl ?_
  refine x_iconst (q := 2) (v := (0 : Int32)) dX8_clear_1 rfl (by decide) ?_
  replace H := kif H; obtain ⟨g1, H⟩ := H
  replace H := kle H; obtain ⟨h2, q3, H⟩ := H
  refine x_putI (q := 5) dX8_clear_2 rfl kl_RX8_9 (Or.inl rfl) rfl (k243 g1 (by decide) hn) ?_
  refine x_nmH q3 ?_
  have n4 : h2.1 = 243 := by rw [q3]; exact hn
  refine x_aload_n (q := 6) dX8_clear_5 rfl rfl ?_
  refine x_iconst (q := 7) (v := (0 : Int32)) dX8_clear_6 rfl (by decide) ?_
  replace H := kle H; obtain ⟨h5, q6, H⟩ := H
  refine x_putI (q := 10) dX8_clear_7 rfl kl_RX8_15 (Or.inl rfl) rfl (k243 g1 (by decide) n4) ?_
  refine x_nmH q6 ?_
  have n7 : h5.1 = 243 := by rw [q6]; exact n4
  refine x_aload_n (q := 11) dX8_clear_10 rfl rfl ?_
  refine x_iconst (q := 12) (v := (0 : Int32)) dX8_clear_11 rfl (by decide) ?_
  replace H := kle H; obtain ⟨h8, q9, H⟩ := H
  refine x_putI (q := 15) dX8_clear_12 rfl kl_RX8_18 (Or.inl rfl) rfl (k243 g1 (by decide) n7) ?_
  refine x_nmH q9 ?_
  have n10 : h8.1 = 243 := by rw [q9]; exact n7
  refine x_aload_n (q := 16) dX8_clear_15 rfl rfl ?_
  replace H := kif H; obtain ⟨g11, H⟩ := H
  refine x_getR (q := 19) dX8_clear_16 rfl kl_RX8_21 rfl (k243 g1 (by decide) n10) g11 ?_
  refine x_iconst (q := 20) (v := (0 : Int32)) dX8_clear_19 rfl (by decide) ?_
  replace H := kbe H; obtain ⟨r12, c13, H⟩ := H
  have m14 := s_J7_fill_53178 (Z := Z) h8 (kR h8 v0 3) (0 : Int32) n10 c13
  refine x_callS (q := 23) (as := [.ref (kR h8 v0 3), .int (0 : Int32)]) (rest := []) dX8_clear_20 rfl kc_RX8_31 kh_J7_fill_53178 (by decide) (Nat.le_of_ble_eq_true rfl) m14 ?_
  have n15 : (r12).1 = 243 := m14.1.full n10
  refine x_aload_n (q := 24) dX8_clear_23 rfl rfl ?_
  replace H := kbe H; obtain ⟨r16, c17, H⟩ := H
  have m18 := s_X8_forgetCase (Z := Z) r12 v0 n15 c17
  refine x_callV (q := 27) (as := []) (rest := []) dX8_clear_24 rfl kc_RX8_37 kh_X8_forgetCase (by decide) (Nat.le_of_ble_eq_true rfl) m18 (ci := 8) (by exact ⟨rfl, by decide⟩) (k243 g1 (by decide) n15) ?_
  have n19 : (r16).1 = 243 := m18.1.full n15
  cases H
  exact x_end ⟨dX8_clear_27, rfl, rfl⟩
theorem s_X8_clear {Z : Nat → (Nat → Nat) → State → Prop} (h : KH) (v0 : Nat) {t : KH} (hn : h.1 = 243) (H : f_X8_clear h v0 = some t) : KM Z yX8_clear cX8_clear 1 none 3 [.ref v0] h none t :=
  kx_v (own := RX8) (ini := false) (by decide +kernel) (by decide +kernel) rfl (Nat.le_of_ble_eq_true rfl) (s0_X8_clear h v0 hn H)
theorem dX8_lookedCount_0 : decode cX8_lookedCount 0 = .ok (.iconst 0, 1) := by decide +kernel
theorem dX8_lookedCount_1 : decode cX8_lookedCount 1 = .ok (.istore_n 1, 1) := by decide +kernel
theorem dX8_lookedCount_2 : decode cX8_lookedCount 2 = .ok (.iconst 0, 1) := by decide +kernel
theorem dX8_lookedCount_3 : decode cX8_lookedCount 3 = .ok (.istore_n 2, 1) := by decide +kernel
theorem dX8_lookedCount_4 : decode cX8_lookedCount 4 = .ok (.iload_n 2, 1) := by decide +kernel
theorem dX8_lookedCount_5 : decode cX8_lookedCount 5 = .ok (.bipush 10, 2) := by decide +kernel
theorem dX8_lookedCount_7 : decode cX8_lookedCount 7 = .ok (.if_icmp .ge 21, 3) := by decide +kernel
theorem dX8_lookedCount_10 : decode cX8_lookedCount 10 = .ok (.aload_n 0, 1) := by decide +kernel
theorem dX8_lookedCount_11 : decode cX8_lookedCount 11 = .ok (.getfield 28, 3) := by decide +kernel
theorem dX8_lookedCount_14 : decode cX8_lookedCount 14 = .ok (.iload_n 2, 1) := by decide +kernel
theorem dX8_lookedCount_15 : decode cX8_lookedCount 15 = .ok (.iaload, 1) := by decide +kernel
theorem dX8_lookedCount_16 : decode cX8_lookedCount 16 = .ok (.ifCond .eq 6, 3) := by decide +kernel
theorem dX8_lookedCount_19 : decode cX8_lookedCount 19 = .ok (.iinc 1 1, 3) := by decide +kernel
theorem dX8_lookedCount_22 : decode cX8_lookedCount 22 = .ok (.iinc 2 1, 3) := by decide +kernel
theorem dX8_lookedCount_25 : decode cX8_lookedCount 25 = .ok (.goto (-21), 3) := by decide +kernel
theorem dX8_lookedCount_28 : decode cX8_lookedCount 28 = .ok (.iload_n 1, 1) := by decide +kernel
theorem dX8_lookedCount_29 : decode cX8_lookedCount 29 = .ok (.ireturn, 1) := by decide +kernel
def E_X8_lookedCount_l4 (h : KH) (v0 : Nat) : Int32 → Nat → List (Nat × Value) → List Value → KH → Prop := fun (e : Int32) pc ls st hh => pc = 28 ∧ ls = [(1, .int e)] ∧ st = [] ∧ h = hh
def B_X8_lookedCount_l4 (h : KH) (v0 : Nat) : ((Int32 × Int32) ⊕ (Int32)) → Nat → List (Nat × Value) → List Value → KH → Prop := Sum.elim (fun (s : Int32 × Int32) pc ls st hh => pc = 4 ∧ ls = [(0, .ref v0), (1, .int s.1), (2, .int s.2)] ∧ st = [] ∧ hh = h) (E_X8_lookedCount_l4 h v0)
def f_X8_lookedCount_b22 (h : KH) (v0 : Nat) (v1 : Int32) (v2 : Int32) : Option ((Int32 × Int32) ⊕ (Int32)) :=
  kl (v2 + (1 : Int32)) fun x1 =>
  some (.inl (v1, x1))
set_option maxHeartbeats 4000000 in
set_option maxRecDepth 100000 in
theorem s_X8_lookedCount_b22 {Z : Nat → (Nat → Nat) → State → Prop} (h : KH) (v0 : Nat) (v1 : Int32) (v2 : Int32) {t : (Int32 × Int32) ⊕ (Int32)} (hn : h.1 = 243) (H : f_X8_lookedCount_b22 h v0 v1 v2 = some t) : KX Z RX8 cX8_lookedCount 3 false 1 (B_X8_lookedCount_l4 h v0 t) 22 [(0, .ref v0), (1, .int v1), (2, .int v2)] [] h := by
  unfold f_X8_lookedCount_b22 at H
  replace H := kle H; obtain ⟨x1, q2, H⟩ := H
  refine x_iinc (q := 25) (i := 2) (ls2 := [(2, .int x1), (0, .ref v0), (1, .int v1)]) dX8_lookedCount_22 rfl rfl (by decide) (by rw [q2]; rfl) ?_
  refine x_goto dX8_lookedCount_25 (q := 4) (by decide) ?_
  cases H
  refine x_sub (ls2 := [(0, .ref v0), (1, .int v1), (2, .int x1)]) [1, 2, 0] rfl ?_
  exact x_end (x_cfg rfl)
def f_X8_lookedCount_l4 (h : KH) (v0 : Nat) (s : Int32 × Int32) : Option ((Int32 × Int32) ⊕ (Int32)) :=
  if (10 : Int32) ≤ s.2 then
  some (.inr s.1)
  else
  if kkind v0 = 8 then if (kR h v0 5) < 999999 then if kkind (kR h v0 5) = 20 then if (s.2 < 0 ∨ klen (kR h v0 5) ≤ (s.2).toNatClampNeg) then none else if (kI h (kR h v0 5) ((s.2).toNatClampNeg)) = 0 then
  f_X8_lookedCount_b22 h v0 s.1 s.2
  else
  kl (s.1 + (1 : Int32)) fun x7 =>
  f_X8_lookedCount_b22 h v0 x7 s.2 else none else none else none
set_option maxHeartbeats 4000000 in
set_option maxRecDepth 100000 in
theorem s_X8_lookedCount_l4 {Z : Nat → (Nat → Nat) → State → Prop} (h : KH) (v0 : Nat) (s : Int32 × Int32) (t : (Int32 × Int32) ⊕ (Int32)) (hn : (h).1 = 243) (H : f_X8_lookedCount_l4 h v0 s = some t) : KX Z RX8 cX8_lookedCount 3 false 1 (B_X8_lookedCount_l4 h v0 t) 4 [(0, .ref v0), (1, .int s.1), (2, .int s.2)] [] h := by
  unfold f_X8_lookedCount_l4 at H
  refine x_iload_n (q := 5) dX8_lookedCount_4 rfl rfl ?_
  refine x_bipush (q := 7) (v := (10 : Int32)) dX8_lookedCount_5 rfl (by decide) ?_
  replace H := kite H; rcases H with ⟨g1, H⟩ | ⟨g1, H⟩
  · refine x_icmp_ge_t dX8_lookedCount_7 (q := 28) (by decide) g1 ?_
    cases H
    refine x_sub (ls2 := [(1, .int s.1)]) [1] rfl ?_
    exact x_end (x_cfg rfl)
  · refine x_icmp_ge_f (q := 10) dX8_lookedCount_7 (t := 28) (by decide) rfl g1 ?_
    refine x_aload_n (q := 11) dX8_lookedCount_10 rfl rfl ?_
    replace H := kif H; obtain ⟨g2, H⟩ := H
    replace H := kif H; obtain ⟨g3, H⟩ := H
    refine x_getR (q := 14) dX8_lookedCount_11 rfl kl_RX8_28 rfl (k243 g2 (by decide) hn) g3 ?_
    refine x_iload_n (q := 15) dX8_lookedCount_14 rfl rfl ?_
    replace H := kif H; obtain ⟨g4, H⟩ := H
    replace H := kifn H; obtain ⟨g5, H⟩ := H
    refine x_iald (q := 16) dX8_lookedCount_15 rfl (k243 g4 (by decide) hn) g5 ?_
    replace H := kite H; rcases H with ⟨g6, H⟩ | ⟨g6, H⟩
    · refine x_if_eq_t dX8_lookedCount_16 (q := 22) (by decide) g6 ?_
      refine x_sub (ls2 := [(0, .ref v0), (1, .int s.1), (2, .int s.2)]) [0, 1, 2] rfl ?_
      exact s_X8_lookedCount_b22 h v0 s.1 s.2 hn H
    · refine x_if_eq_f (q := 19) dX8_lookedCount_16 (t := 22) (by decide) rfl g6 ?_
      replace H := kle H; obtain ⟨x7, q8, H⟩ := H
      refine x_iinc (q := 22) (i := 1) (ls2 := [(1, .int x7), (0, .ref v0), (2, .int s.2)]) dX8_lookedCount_19 rfl rfl (by decide) (by rw [q8]; rfl) ?_
      refine x_sub (ls2 := [(0, .ref v0), (1, .int x7), (2, .int s.2)]) [1, 0, 2] rfl ?_
      exact s_X8_lookedCount_b22 h v0 x7 s.2 hn H
theorem sl_X8_lookedCount_l4 {Z : Nat → (Nat → Nat) → State → Prop} (h : KH) (v0 : Nat) (n : Nat) (s : Int32 × Int32) (r : Int32) (hn : (h).1 = 243) (H : kloop (f_X8_lookedCount_l4 h v0) n s = some r) : KX Z RX8 cX8_lookedCount 3 false 1 (E_X8_lookedCount_l4 h v0 r) 4 [(0, .ref v0), (1, .int s.1), (2, .int s.2)] [] h :=
  k_loop (ls := (fun (s : Int32 × Int32) => ([(0, .ref v0), (1, .int s.1), (2, .int s.2)] : List (Nat × Value)))) (hp := (fun (s : Int32 × Int32) => (h : KH))) (G := E_X8_lookedCount_l4 h v0) (fun s t hn H => s_X8_lookedCount_l4 h v0 s t hn H) n s r hn H
def f_X8_lookedCount (h : KH) (v0 : Nat) : Option (Int32) :=
  kb (kloop (f_X8_lookedCount_l4 h v0) KF ((0 : Int32), (0 : Int32))) fun e1 =>
  some e1
set_option maxHeartbeats 4000000 in
set_option maxRecDepth 100000 in
theorem s0_X8_lookedCount {Z : Nat → (Nat → Nat) → State → Prop} (h : KH) (v0 : Nat) {t : Int32} (hn : h.1 = 243) (H : f_X8_lookedCount h v0 = some t) : KX Z RX8 cX8_lookedCount 3 false 1 (KRi cX8_lookedCount t h) 0 [(0, .ref v0)] [] h := by
  unfold f_X8_lookedCount at H
  refine x_iconst (q := 1) (v := (0 : Int32)) dX8_lookedCount_0 rfl (by decide) ?_
  refine x_istore_n (q := 2) (i := 1) (ls2 := [(1, .int (0 : Int32)), (0, .ref v0)]) dX8_lookedCount_1 rfl rfl (by decide) rfl ?_
  refine x_iconst (q := 3) (v := (0 : Int32)) dX8_lookedCount_2 rfl (by decide) ?_
  refine x_istore_n (q := 4) (i := 2) (ls2 := [(2, .int (0 : Int32)), (1, .int (0 : Int32)), (0, .ref v0)]) dX8_lookedCount_3 rfl rfl (by decide) rfl ?_
  refine x_sub (ls2 := [(0, .ref v0), (1, .int (0 : Int32)), (2, .int (0 : Int32))]) [2, 1, 0] rfl ?_
  replace H := kbe H; obtain ⟨e1, c2, H⟩ := H
  refine x_app (sl_X8_lookedCount_l4 h v0 KF ((0 : Int32), (0 : Int32)) e1 hn c2) fun pc2 ls2 st2 h2 hg m3 => ?_
  obtain ⟨rfl, rfl, rfl, rfl⟩ := hg
  refine x_iload_n (q := 29) dX8_lookedCount_28 rfl rfl ?_
  cases H
  exact x_end ⟨dX8_lookedCount_29, rfl, rfl⟩
theorem s_X8_lookedCount {Z : Nat → (Nat → Nat) → State → Prop} (h : KH) (v0 : Nat) {t : Int32} (hn : h.1 = 243) (H : f_X8_lookedCount h v0 = some t) : KM Z yX8_lookedCount cX8_lookedCount 3 (some .int) 1 [.ref v0] h (some (.int t)) h :=
  kx_i (own := RX8) (ini := false) (by decide +kernel) (by decide +kernel) rfl (Nat.le_of_ble_eq_true rfl) (s0_X8_lookedCount h v0 hn H)
theorem dX8_hearOnceMore_0 : decode cX8_hearOnceMore 0 = .ok (.iconst 0, 1) := by decide +kernel
theorem dX8_hearOnceMore_1 : decode cX8_hearOnceMore 1 = .ok (.istore_n 2, 1) := by decide +kernel
theorem dX8_hearOnceMore_2 : decode cX8_hearOnceMore 2 = .ok (.iload_n 2, 1) := by decide +kernel
theorem dX8_hearOnceMore_3 : decode cX8_hearOnceMore 3 = .ok (.bipush 6, 2) := by decide +kernel
theorem dX8_hearOnceMore_5 : decode cX8_hearOnceMore 5 = .ok (.if_icmp .ge 36, 3) := by decide +kernel
theorem dX8_hearOnceMore_8 : decode cX8_hearOnceMore 8 = .ok (.iload_n 1, 1) := by decide +kernel
theorem dX8_hearOnceMore_9 : decode cX8_hearOnceMore 9 = .ok (.iload_n 2, 1) := by decide +kernel
theorem dX8_hearOnceMore_10 : decode cX8_hearOnceMore 10 = .ok (.ishr, 1) := by decide +kernel
theorem dX8_hearOnceMore_11 : decode cX8_hearOnceMore 11 = .ok (.iconst 1, 1) := by decide +kernel
theorem dX8_hearOnceMore_12 : decode cX8_hearOnceMore 12 = .ok (.iand, 1) := by decide +kernel
theorem dX8_hearOnceMore_13 : decode cX8_hearOnceMore 13 = .ok (.ifCond .eq 22, 3) := by decide +kernel
theorem dX8_hearOnceMore_16 : decode cX8_hearOnceMore 16 = .ok (.aload_n 0, 1) := by decide +kernel
theorem dX8_hearOnceMore_17 : decode cX8_hearOnceMore 17 = .ok (.getfield 21, 3) := by decide +kernel
theorem dX8_hearOnceMore_20 : decode cX8_hearOnceMore 20 = .ok (.iload_n 2, 1) := by decide +kernel
theorem dX8_hearOnceMore_21 : decode cX8_hearOnceMore 21 = .ok (.bipush 99, 2) := by decide +kernel
theorem dX8_hearOnceMore_23 : decode cX8_hearOnceMore 23 = .ok (.aload_n 0, 1) := by decide +kernel
theorem dX8_hearOnceMore_24 : decode cX8_hearOnceMore 24 = .ok (.getfield 21, 3) := by decide +kernel
theorem dX8_hearOnceMore_27 : decode cX8_hearOnceMore 27 = .ok (.iload_n 2, 1) := by decide +kernel
theorem dX8_hearOnceMore_28 : decode cX8_hearOnceMore 28 = .ok (.iaload, 1) := by decide +kernel
theorem dX8_hearOnceMore_29 : decode cX8_hearOnceMore 29 = .ok (.iconst 1, 1) := by decide +kernel
theorem dX8_hearOnceMore_30 : decode cX8_hearOnceMore 30 = .ok (.iadd, 1) := by decide +kernel
theorem dX8_hearOnceMore_31 : decode cX8_hearOnceMore 31 = .ok (.invokestatic 46, 3) := by decide +kernel
theorem dX8_hearOnceMore_34 : decode cX8_hearOnceMore 34 = .ok (.iastore, 1) := by decide +kernel
theorem dX8_hearOnceMore_35 : decode cX8_hearOnceMore 35 = .ok (.iinc 2 1, 3) := by decide +kernel
theorem dX8_hearOnceMore_38 : decode cX8_hearOnceMore 38 = .ok (.goto (-36), 3) := by decide +kernel
theorem dX8_hearOnceMore_41 : decode cX8_hearOnceMore 41 = .ok (.return_, 1) := by decide +kernel
theorem kc_RX8_46 : Cond.methodLink RX8 46 yJ9_min_7cf53 ∈ ktG ∧ Cond.static yJ9_min_7cf53 ∈ ktG ∧ Cond.initialized yJ9_min_7cf53.cls ∈ ktG ∧ Cond.code yJ9_min_7cf53 cJ9_min_7cf53 2 (some .int) ∈ ktG := ⟨(kwm 1031 (by decide +kernel) (by decide +kernel)), (kwm 810 (by decide +kernel) (by decide +kernel)), (kwm 142 (by decide +kernel) (by decide +kernel)), kwm 811 (by decide +kernel) (by decide +kernel)⟩
def E_X8_hearOnceMore_l2 (v0 : Nat) (v1 : Int32) : KH → Nat → List (Nat × Value) → List Value → KH → Prop := fun (e : KH) pc ls st hh => pc = 41 ∧ ls = [] ∧ st = [] ∧ e = hh
def B_X8_hearOnceMore_l2 (v0 : Nat) (v1 : Int32) : ((Int32 × KH) ⊕ (KH)) → Nat → List (Nat × Value) → List Value → KH → Prop := Sum.elim (fun (s : Int32 × KH) pc ls st hh => pc = 2 ∧ ls = [(0, .ref v0), (1, .int v1), (2, .int s.1)] ∧ st = [] ∧ hh = s.2) (E_X8_hearOnceMore_l2 v0 v1)
def f_X8_hearOnceMore_b35 (h : KH) (v0 : Nat) (v1 : Int32) (v2 : Int32) : Option ((Int32 × KH) ⊕ (KH)) :=
  kl (v2 + (1 : Int32)) fun x1 =>
  some (.inl (x1, h))
set_option maxHeartbeats 4000000 in
set_option maxRecDepth 100000 in
theorem s_X8_hearOnceMore_b35 {Z : Nat → (Nat → Nat) → State → Prop} (h : KH) (v0 : Nat) (v1 : Int32) (v2 : Int32) {t : (Int32 × KH) ⊕ (KH)} (hn : h.1 = 243) (H : f_X8_hearOnceMore_b35 h v0 v1 v2 = some t) : KX Z RX8 cX8_hearOnceMore 3 false 2 (B_X8_hearOnceMore_l2 v0 v1 t) 35 [(0, .ref v0), (1, .int v1), (2, .int v2)] [] h := by
  unfold f_X8_hearOnceMore_b35 at H
  replace H := kle H; obtain ⟨x1, q2, H⟩ := H
  refine x_iinc (q := 38) (i := 2) (ls2 := [(2, .int x1), (0, .ref v0), (1, .int v1)]) dX8_hearOnceMore_35 rfl rfl (by decide) (by rw [q2]; rfl) ?_
  refine x_goto dX8_hearOnceMore_38 (q := 2) (by decide) ?_
  cases H
  refine x_sub (ls2 := [(0, .ref v0), (1, .int v1), (2, .int x1)]) [1, 2, 0] rfl ?_
  exact x_end (x_cfg rfl)
def f_X8_hearOnceMore_l2 (v0 : Nat) (v1 : Int32) (s : Int32 × KH) : Option ((Int32 × KH) ⊕ (KH)) :=
  if (6 : Int32) ≤ s.1 then
  some (.inr s.2)
  else
  if ((v1 >>> (s.1 &&& 31)) &&& (1 : Int32)) = 0 then
  f_X8_hearOnceMore_b35 s.2 v0 v1 s.1
  else
  if kkind v0 = 8 then if (kR s.2 v0 3) < 999999 then if kkind (kR s.2 v0 3) = 20 then if (s.1 < 0 ∨ klen (kR s.2 v0 3) ≤ (s.1).toNatClampNeg) then none else kb (f_J9_min_7cf53 s.2 (99 : Int32) ((kI s.2 (kR s.2 v0 3) ((s.1).toNatClampNeg)) + (1 : Int32))) fun r7 =>
  kl (ksI s.2 (kR s.2 v0 3) ((s.1).toNatClampNeg) r7) fun h10 =>
  f_X8_hearOnceMore_b35 h10 v0 v1 s.1 else none else none else none
set_option maxHeartbeats 4000000 in
set_option maxRecDepth 100000 in
theorem s_X8_hearOnceMore_l2 {Z : Nat → (Nat → Nat) → State → Prop} (v0 : Nat) (v1 : Int32) (s : Int32 × KH) (t : (Int32 × KH) ⊕ (KH)) (hn : (s.2).1 = 243) (H : f_X8_hearOnceMore_l2 v0 v1 s = some t) : KX Z RX8 cX8_hearOnceMore 3 false 2 (B_X8_hearOnceMore_l2 v0 v1 t) 2 [(0, .ref v0), (1, .int v1), (2, .int s.1)] [] s.2 := by
  unfold f_X8_hearOnceMore_l2 at H
  refine x_iload_n (q := 3) dX8_hearOnceMore_2 rfl rfl ?_
  refine x_bipush (q := 5) (v := (6 : Int32)) dX8_hearOnceMore_3 rfl (by decide) ?_
  replace H := kite H; rcases H with ⟨g1, H⟩ | ⟨g1, H⟩
  · refine x_icmp_ge_t dX8_hearOnceMore_5 (q := 41) (by decide) g1 ?_
    cases H
    refine x_sub (ls2 := []) [] rfl ?_
    exact x_end (x_cfg rfl)
  · refine x_icmp_ge_f (q := 8) dX8_hearOnceMore_5 (t := 41) (by decide) rfl g1 ?_
    refine x_iload_n (q := 9) dX8_hearOnceMore_8 rfl rfl ?_
    refine x_iload_n (q := 10) dX8_hearOnceMore_9 rfl rfl ?_
    refine x_ishr (q := 11) dX8_hearOnceMore_10 rfl ?_
    refine x_iconst (q := 12) (v := (1 : Int32)) dX8_hearOnceMore_11 rfl (by decide) ?_
    refine x_iand (q := 13) dX8_hearOnceMore_12 rfl ?_
    replace H := kite H; rcases H with ⟨g2, H⟩ | ⟨g2, H⟩
    · refine x_if_eq_t dX8_hearOnceMore_13 (q := 35) (by decide) g2 ?_
      refine x_sub (ls2 := [(0, .ref v0), (1, .int v1), (2, .int s.1)]) [0, 1, 2] rfl ?_
      exact s_X8_hearOnceMore_b35 s.2 v0 v1 s.1 hn H
    · refine x_if_eq_f (q := 16) dX8_hearOnceMore_13 (t := 35) (by decide) rfl g2 ?_
      refine x_aload_n (q := 17) dX8_hearOnceMore_16 rfl rfl ?_
      replace H := kif H; obtain ⟨g3, H⟩ := H
      replace H := kif H; obtain ⟨g4, H⟩ := H
      refine x_getR (q := 20) dX8_hearOnceMore_17 rfl kl_RX8_21 rfl (k243 g3 (by decide) hn) g4 ?_
      refine x_iload_n (q := 21) dX8_hearOnceMore_20 rfl rfl ?_
      refine x_bipush (q := 23) (v := (99 : Int32)) dX8_hearOnceMore_21 rfl (by decide) ?_
      refine x_aload_n (q := 24) dX8_hearOnceMore_23 rfl rfl ?_
      refine x_getR (q := 27) dX8_hearOnceMore_24 rfl kl_RX8_21 rfl (k243 g3 (by decide) hn) g4 ?_
      refine x_iload_n (q := 28) dX8_hearOnceMore_27 rfl rfl ?_
      replace H := kif H; obtain ⟨g5, H⟩ := H
      replace H := kifn H; obtain ⟨g6, H⟩ := H
      refine x_iald (q := 29) dX8_hearOnceMore_28 rfl (k243 g5 (by decide) hn) g6 ?_
      refine x_iconst (q := 30) (v := (1 : Int32)) dX8_hearOnceMore_29 rfl (by decide) ?_
      refine x_iadd (q := 31) dX8_hearOnceMore_30 rfl ?_
      replace H := kbe H; obtain ⟨r7, c8, H⟩ := H
      have m9 := s_J9_min_7cf53 (Z := Z) s.2 (99 : Int32) ((kI s.2 (kR s.2 v0 3) ((s.1).toNatClampNeg)) + (1 : Int32)) hn c8
      refine x_callS (q := 34) (as := [.int (99 : Int32), .int ((kI s.2 (kR s.2 v0 3) ((s.1).toNatClampNeg)) + (1 : Int32))]) (rest := [.int s.1, .ref (kR s.2 v0 3)]) dX8_hearOnceMore_31 rfl kc_RX8_46 kh_J9_min_7cf53 (by decide) (Nat.le_of_ble_eq_true rfl) m9 ?_
      replace H := kle H; obtain ⟨h10, q11, H⟩ := H
      refine x_iast (q := 35) dX8_hearOnceMore_34 rfl (k243 g5 (by decide) hn) g6 ?_
      refine x_nmH q11 ?_
      have n12 : h10.1 = 243 := by rw [q11]; exact hn
      refine x_sub (ls2 := [(0, .ref v0), (1, .int v1), (2, .int s.1)]) [0, 1, 2] rfl ?_
      exact s_X8_hearOnceMore_b35 h10 v0 v1 s.1 n12 H
theorem sl_X8_hearOnceMore_l2 {Z : Nat → (Nat → Nat) → State → Prop} (v0 : Nat) (v1 : Int32) (n : Nat) (s : Int32 × KH) (r : KH) (hn : (s.2).1 = 243) (H : kloop (f_X8_hearOnceMore_l2 v0 v1) n s = some r) : KX Z RX8 cX8_hearOnceMore 3 false 2 (E_X8_hearOnceMore_l2 v0 v1 r) 2 [(0, .ref v0), (1, .int v1), (2, .int s.1)] [] s.2 :=
  k_loop (ls := (fun (s : Int32 × KH) => ([(0, .ref v0), (1, .int v1), (2, .int s.1)] : List (Nat × Value)))) (hp := (fun (s : Int32 × KH) => (s.2 : KH))) (G := E_X8_hearOnceMore_l2 v0 v1) (fun s t hn H => s_X8_hearOnceMore_l2 v0 v1 s t hn H) n s r hn H
def f_X8_hearOnceMore (h : KH) (v0 : Nat) (v1 : Int32) : Option (KH) :=
  kb (kloop (f_X8_hearOnceMore_l2 v0 v1) KF ((0 : Int32), h)) fun e1 =>
  some e1
set_option maxHeartbeats 4000000 in
set_option maxRecDepth 100000 in
theorem s0_X8_hearOnceMore {Z : Nat → (Nat → Nat) → State → Prop} (h : KH) (v0 : Nat) (v1 : Int32) {t : KH} (hn : h.1 = 243) (H : f_X8_hearOnceMore h v0 v1 = some t) : KX Z RX8 cX8_hearOnceMore 3 false 2 (KRv cX8_hearOnceMore t) 0 [(0, .ref v0), (1, .int v1)] [] h := by
  unfold f_X8_hearOnceMore at H
  refine x_iconst (q := 1) (v := (0 : Int32)) dX8_hearOnceMore_0 rfl (by decide) ?_
  refine x_istore_n (q := 2) (i := 2) (ls2 := [(2, .int (0 : Int32)), (0, .ref v0), (1, .int v1)]) dX8_hearOnceMore_1 rfl rfl (by decide) rfl ?_
  refine x_sub (ls2 := [(0, .ref v0), (1, .int v1), (2, .int (0 : Int32))]) [1, 2, 0] rfl ?_
  replace H := kbe H; obtain ⟨e1, c2, H⟩ := H
  refine x_app (sl_X8_hearOnceMore_l2 v0 v1 KF ((0 : Int32), h) e1 hn c2) fun pc2 ls2 st2 h2 hg m3 => ?_
  obtain ⟨rfl, rfl, rfl, rfl⟩ := hg
  cases H
  exact x_end ⟨dX8_hearOnceMore_41, rfl, rfl⟩
theorem s_X8_hearOnceMore {Z : Nat → (Nat → Nat) → State → Prop} (h : KH) (v0 : Nat) (v1 : Int32) {t : KH} (hn : h.1 = 243) (H : f_X8_hearOnceMore h v0 v1 = some t) : KM Z yX8_hearOnceMore cX8_hearOnceMore 3 none 2 [.ref v0, .int v1] h none t :=
  kx_v (own := RX8) (ini := false) (by decide +kernel) (by decide +kernel) rfl (Nat.le_of_ble_eq_true rfl) (s0_X8_hearOnceMore h v0 v1 hn H)
theorem dX9_addNumber_0 : decode cX9_addNumber 0 = .ok (.bipush 24, 2) := by decide +kernel
theorem dX9_addNumber_2 : decode cX9_addNumber 2 = .ok (.istore_n 2, 1) := by decide +kernel
theorem dX9_addNumber_3 : decode cX9_addNumber 3 = .ok (.iload_n 2, 1) := by decide +kernel
theorem dX9_addNumber_4 : decode cX9_addNumber 4 = .ok (.ifCond .lt 44, 3) := by decide +kernel
theorem dX9_addNumber_7 : decode cX9_addNumber 7 = .ok (.aload_n 0, 1) := by decide +kernel
theorem dX9_addNumber_8 : decode cX9_addNumber 8 = .ok (.getfield 15, 3) := by decide +kernel
theorem dX9_addNumber_11 : decode cX9_addNumber 11 = .ok (.aload_n 0, 1) := by decide +kernel
theorem dX9_addNumber_12 : decode cX9_addNumber 12 = .ok (.getfield 9, 3) := by decide +kernel
theorem dX9_addNumber_15 : decode cX9_addNumber 15 = .ok (.arraylength, 1) := by decide +kernel
theorem dX9_addNumber_16 : decode cX9_addNumber 16 = .ok (.if_icmp .ge 26, 3) := by decide +kernel
theorem dX9_addNumber_19 : decode cX9_addNumber 19 = .ok (.aload_n 0, 1) := by decide +kernel
theorem dX9_addNumber_20 : decode cX9_addNumber 20 = .ok (.getfield 9, 3) := by decide +kernel
theorem dX9_addNumber_23 : decode cX9_addNumber 23 = .ok (.aload_n 0, 1) := by decide +kernel
theorem dX9_addNumber_24 : decode cX9_addNumber 24 = .ok (.getfield 15, 3) := by decide +kernel
theorem dX9_addNumber_27 : decode cX9_addNumber 27 = .ok (.iload_n 1, 1) := by decide +kernel
theorem dX9_addNumber_28 : decode cX9_addNumber 28 = .ok (.iload_n 2, 1) := by decide +kernel
theorem dX9_addNumber_29 : decode cX9_addNumber 29 = .ok (.ishr, 1) := by decide +kernel
theorem dX9_addNumber_30 : decode cX9_addNumber 30 = .ok (.i2b, 1) := by decide +kernel
theorem dX9_addNumber_31 : decode cX9_addNumber 31 = .ok (.bastore, 1) := by decide +kernel
theorem dX9_addNumber_32 : decode cX9_addNumber 32 = .ok (.aload_n 0, 1) := by decide +kernel
theorem dX9_addNumber_33 : decode cX9_addNumber 33 = .ok (.dup, 1) := by decide +kernel
theorem dX9_addNumber_34 : decode cX9_addNumber 34 = .ok (.getfield 15, 3) := by decide +kernel
theorem dX9_addNumber_37 : decode cX9_addNumber 37 = .ok (.iconst 1, 1) := by decide +kernel
theorem dX9_addNumber_38 : decode cX9_addNumber 38 = .ok (.iadd, 1) := by decide +kernel
theorem dX9_addNumber_39 : decode cX9_addNumber 39 = .ok (.putfield 15, 3) := by decide +kernel
theorem dX9_addNumber_42 : decode cX9_addNumber 42 = .ok (.iinc 2 (-8), 3) := by decide +kernel
theorem dX9_addNumber_45 : decode cX9_addNumber 45 = .ok (.goto (-42), 3) := by decide +kernel
theorem dX9_addNumber_48 : decode cX9_addNumber 48 = .ok (.return_, 1) := by decide +kernel
theorem kl_RX9_15 : KLk RX9 15 9 1 := ⟨RX9, TX9, 2, rfl, by decide, Or.inl (kwm 159 (by decide +kernel) (by decide +kernel))⟩
def E_X9_addNumber_l3 (v0 : Nat) (v1 : Int32) : KH → Nat → List (Nat × Value) → List Value → KH → Prop := fun (e : KH) pc ls st hh => pc = 48 ∧ ls = [] ∧ st = [] ∧ e = hh
def B_X9_addNumber_l3 (v0 : Nat) (v1 : Int32) : ((Int32 × KH) ⊕ (KH)) → Nat → List (Nat × Value) → List Value → KH → Prop := Sum.elim (fun (s : Int32 × KH) pc ls st hh => pc = 3 ∧ ls = [(0, .ref v0), (1, .int v1), (2, .int s.1)] ∧ st = [] ∧ hh = s.2) (E_X9_addNumber_l3 v0 v1)
def f_X9_addNumber_b42 (h : KH) (v0 : Nat) (v1 : Int32) (v2 : Int32) : Option ((Int32 × KH) ⊕ (KH)) :=
  kl (v2 + (-8 : Int32)) fun x1 =>
  some (.inl (x1, h))
set_option maxHeartbeats 4000000 in
set_option maxRecDepth 100000 in
theorem s_X9_addNumber_b42 {Z : Nat → (Nat → Nat) → State → Prop} (h : KH) (v0 : Nat) (v1 : Int32) (v2 : Int32) {t : (Int32 × KH) ⊕ (KH)} (hn : h.1 = 243) (H : f_X9_addNumber_b42 h v0 v1 v2 = some t) : KX Z RX9 cX9_addNumber 3 false 1 (B_X9_addNumber_l3 v0 v1 t) 42 [(0, .ref v0), (1, .int v1), (2, .int v2)] [] h := by
  unfold f_X9_addNumber_b42 at H
  replace H := kle H; obtain ⟨x1, q2, H⟩ := H
  refine x_iinc (q := 45) (i := 2) (ls2 := [(2, .int x1), (0, .ref v0), (1, .int v1)]) dX9_addNumber_42 rfl rfl (by decide) (by rw [q2]; rfl) ?_
  refine x_goto dX9_addNumber_45 (q := 3) (by decide) ?_
  cases H
  refine x_sub (ls2 := [(0, .ref v0), (1, .int v1), (2, .int x1)]) [1, 2, 0] rfl ?_
  exact x_end (x_cfg rfl)
def f_X9_addNumber_l3 (v0 : Nat) (v1 : Int32) (s : Int32 × KH) : Option ((Int32 × KH) ⊕ (KH)) :=
  if s.1 < 0 then
  some (.inr s.2)
  else
  if kkind v0 = 9 then if (kR s.2 v0 0) < 999999 then if kkind (kR s.2 v0 0) = 23 then if (Int32.ofNat (klen (kR s.2 v0 0))) ≤ (kI s.2 v0 1) then
  f_X9_addNumber_b42 s.2 v0 v1 s.1
  else
  if ((kI s.2 v0 1) < 0 ∨ klen (kR s.2 v0 0) ≤ ((kI s.2 v0 1)).toNatClampNeg) then none else kl (ksI s.2 (kR s.2 v0 0) (((kI s.2 v0 1)).toNatClampNeg) (vp_nar .byte (((v1 >>> (s.1 &&& 31))).toInt8.toInt32))) fun h7 =>
  kl (ksI h7 v0 1 ((kI h7 v0 1) + (1 : Int32))) fun h10 =>
  f_X9_addNumber_b42 h10 v0 v1 s.1 else none else none else none
set_option maxHeartbeats 4000000 in
set_option maxRecDepth 100000 in
theorem s_X9_addNumber_l3 {Z : Nat → (Nat → Nat) → State → Prop} (v0 : Nat) (v1 : Int32) (s : Int32 × KH) (t : (Int32 × KH) ⊕ (KH)) (hn : (s.2).1 = 243) (H : f_X9_addNumber_l3 v0 v1 s = some t) : KX Z RX9 cX9_addNumber 3 false 1 (B_X9_addNumber_l3 v0 v1 t) 3 [(0, .ref v0), (1, .int v1), (2, .int s.1)] [] s.2 := by
  unfold f_X9_addNumber_l3 at H
  refine x_iload_n (q := 4) dX9_addNumber_3 rfl rfl ?_
  replace H := kite H; rcases H with ⟨g1, H⟩ | ⟨g1, H⟩
  · refine x_if_lt_t dX9_addNumber_4 (q := 48) (by decide) g1 ?_
    cases H
    refine x_sub (ls2 := []) [] rfl ?_
    exact x_end (x_cfg rfl)
  · refine x_if_lt_f (q := 7) dX9_addNumber_4 (t := 48) (by decide) rfl g1 ?_
    refine x_aload_n (q := 8) dX9_addNumber_7 rfl rfl ?_
    replace H := kif H; obtain ⟨g2, H⟩ := H
    refine x_getI (q := 11) dX9_addNumber_8 rfl kl_RX9_15 (Or.inl rfl) (k243 g2 (by decide) hn) ?_
    refine x_aload_n (q := 12) dX9_addNumber_11 rfl rfl ?_
    replace H := kif H; obtain ⟨g3, H⟩ := H
    refine x_getR (q := 15) dX9_addNumber_12 rfl kl_RX9_9 rfl (k243 g2 (by decide) hn) g3 ?_
    replace H := kif H; obtain ⟨g4, H⟩ := H
    refine x_alen (q := 16) dX9_addNumber_15 rfl (by decide) (k243 g4 (by decide) hn) ?_
    replace H := kite H; rcases H with ⟨g5, H⟩ | ⟨g5, H⟩
    · refine x_icmp_ge_t dX9_addNumber_16 (q := 42) (by decide) g5 ?_
      refine x_sub (ls2 := [(0, .ref v0), (1, .int v1), (2, .int s.1)]) [0, 1, 2] rfl ?_
      exact s_X9_addNumber_b42 s.2 v0 v1 s.1 hn H
    · refine x_icmp_ge_f (q := 19) dX9_addNumber_16 (t := 42) (by decide) rfl g5 ?_
      refine x_aload_n (q := 20) dX9_addNumber_19 rfl rfl ?_
      refine x_getR (q := 23) dX9_addNumber_20 rfl kl_RX9_9 rfl (k243 g2 (by decide) hn) g3 ?_
      refine x_aload_n (q := 24) dX9_addNumber_23 rfl rfl ?_
      refine x_getI (q := 27) dX9_addNumber_24 rfl kl_RX9_15 (Or.inl rfl) (k243 g2 (by decide) hn) ?_
      refine x_iload_n (q := 28) dX9_addNumber_27 rfl rfl ?_
      refine x_iload_n (q := 29) dX9_addNumber_28 rfl rfl ?_
      refine x_ishr (q := 30) dX9_addNumber_29 rfl ?_
      refine x_i2b (q := 31) dX9_addNumber_30 rfl ?_
      replace H := kifn H; obtain ⟨g6, H⟩ := H
      replace H := kle H; obtain ⟨h7, q8, H⟩ := H
      refine x_bast (q := 32) dX9_addNumber_31 rfl (k243 g4 (by decide) hn) g6 ?_
      refine x_nmH q8 ?_
      have n9 : h7.1 = 243 := by rw [q8]; exact hn
      refine x_aload_n (q := 33) dX9_addNumber_32 rfl rfl ?_
      refine x_dup (q := 34) dX9_addNumber_33 rfl rfl ?_
      refine x_getI (q := 37) dX9_addNumber_34 rfl kl_RX9_15 (Or.inl rfl) (k243 g2 (by decide) n9) ?_
      refine x_iconst (q := 38) (v := (1 : Int32)) dX9_addNumber_37 rfl (by decide) ?_
      refine x_iadd (q := 39) dX9_addNumber_38 rfl ?_
      replace H := kle H; obtain ⟨h10, q11, H⟩ := H
      refine x_putI (q := 42) dX9_addNumber_39 rfl kl_RX9_15 (Or.inl rfl) rfl (k243 g2 (by decide) n9) ?_
      refine x_nmH q11 ?_
      have n12 : h10.1 = 243 := by rw [q11]; exact n9
      refine x_sub (ls2 := [(0, .ref v0), (1, .int v1), (2, .int s.1)]) [0, 1, 2] rfl ?_
      exact s_X9_addNumber_b42 h10 v0 v1 s.1 n12 H
theorem sl_X9_addNumber_l3 {Z : Nat → (Nat → Nat) → State → Prop} (v0 : Nat) (v1 : Int32) (n : Nat) (s : Int32 × KH) (r : KH) (hn : (s.2).1 = 243) (H : kloop (f_X9_addNumber_l3 v0 v1) n s = some r) : KX Z RX9 cX9_addNumber 3 false 1 (E_X9_addNumber_l3 v0 v1 r) 3 [(0, .ref v0), (1, .int v1), (2, .int s.1)] [] s.2 :=
  k_loop (ls := (fun (s : Int32 × KH) => ([(0, .ref v0), (1, .int v1), (2, .int s.1)] : List (Nat × Value)))) (hp := (fun (s : Int32 × KH) => (s.2 : KH))) (G := E_X9_addNumber_l3 v0 v1) (fun s t hn H => s_X9_addNumber_l3 v0 v1 s t hn H) n s r hn H
def f_X9_addNumber (h : KH) (v0 : Nat) (v1 : Int32) : Option (KH) :=
  kb (kloop (f_X9_addNumber_l3 v0 v1) KF ((24 : Int32), h)) fun e1 =>
  some e1
set_option maxHeartbeats 4000000 in
set_option maxRecDepth 100000 in
theorem s0_X9_addNumber {Z : Nat → (Nat → Nat) → State → Prop} (h : KH) (v0 : Nat) (v1 : Int32) {t : KH} (hn : h.1 = 243) (H : f_X9_addNumber h v0 v1 = some t) : KX Z RX9 cX9_addNumber 3 false 1 (KRv cX9_addNumber t) 0 [(0, .ref v0), (1, .int v1)] [] h := by
  unfold f_X9_addNumber at H
  refine x_bipush (q := 2) (v := (24 : Int32)) dX9_addNumber_0 rfl (by decide) ?_
  refine x_istore_n (q := 3) (i := 2) (ls2 := [(2, .int (24 : Int32)), (0, .ref v0), (1, .int v1)]) dX9_addNumber_2 rfl rfl (by decide) rfl ?_
  refine x_sub (ls2 := [(0, .ref v0), (1, .int v1), (2, .int (24 : Int32))]) [1, 2, 0] rfl ?_
  replace H := kbe H; obtain ⟨e1, c2, H⟩ := H
  refine x_app (sl_X9_addNumber_l3 v0 v1 KF ((24 : Int32), h) e1 hn c2) fun pc2 ls2 st2 h2 hg m3 => ?_
  obtain ⟨rfl, rfl, rfl, rfl⟩ := hg
  cases H
  exact x_end ⟨dX9_addNumber_48, rfl, rfl⟩
theorem s_X9_addNumber {Z : Nat → (Nat → Nat) → State → Prop} (h : KH) (v0 : Nat) (v1 : Int32) {t : KH} (hn : h.1 = 243) (H : f_X9_addNumber h v0 v1 = some t) : KM Z yX9_addNumber cX9_addNumber 3 none 1 [.ref v0, .int v1] h none t :=
  kx_v (own := RX9) (ini := false) (by decide +kernel) (by decide +kernel) rfl (Nat.le_of_ble_eq_true rfl) (s0_X9_addNumber h v0 v1 hn H)
theorem dX9_pairAt_0 : decode cX9_pairAt 0 = .ok (.aload_n 0, 1) := by decide +kernel
theorem dX9_pairAt_1 : decode cX9_pairAt 1 = .ok (.iload_n 1, 1) := by decide +kernel
theorem dX9_pairAt_2 : decode cX9_pairAt 2 = .ok (.invokevirtual 19, 3) := by decide +kernel
theorem dX9_pairAt_5 : decode cX9_pairAt 5 = .ok (.bipush 8, 2) := by decide +kernel
theorem dX9_pairAt_7 : decode cX9_pairAt 7 = .ok (.ishl, 1) := by decide +kernel
theorem dX9_pairAt_8 : decode cX9_pairAt 8 = .ok (.aload_n 0, 1) := by decide +kernel
theorem dX9_pairAt_9 : decode cX9_pairAt 9 = .ok (.iload_n 1, 1) := by decide +kernel
theorem dX9_pairAt_10 : decode cX9_pairAt 10 = .ok (.iconst 1, 1) := by decide +kernel
theorem dX9_pairAt_11 : decode cX9_pairAt 11 = .ok (.iadd, 1) := by decide +kernel
theorem dX9_pairAt_12 : decode cX9_pairAt 12 = .ok (.invokevirtual 19, 3) := by decide +kernel
theorem dX9_pairAt_15 : decode cX9_pairAt 15 = .ok (.ior, 1) := by decide +kernel
theorem dX9_pairAt_16 : decode cX9_pairAt 16 = .ok (.ireturn, 1) := by decide +kernel
theorem kc_RX9_19 : Cond.methodLink RX9 19 yX9_byteAt ∈ ktG ∧ (Cond.instanceMethod yX9_byteAt ∈ ktG ∧ Cond.selects yX9_byteAt.cls yX9_byteAt yX9_byteAt ∈ ktG) ∧ Cond.initialized yX9_byteAt.cls ∈ ktG ∧ Cond.code yX9_byteAt cX9_byteAt 2 (some .int) ∈ ktG := ⟨(kwm 1182 (by decide +kernel) (by decide +kernel)), ⟨(kwm 623 (by decide +kernel) (by decide +kernel)), (kwm 624 (by decide +kernel) (by decide +kernel))⟩, (kwm 124 (by decide +kernel) (by decide +kernel)), kwm 625 (by decide +kernel) (by decide +kernel)⟩
def f_X9_pairAt (h : KH) (v0 : Nat) (v1 : Int32) : Option (Int32) :=
  if kkind v0 = 9 then kb (f_X9_byteAt h v0 v1) fun r2 =>
  kb (f_X9_byteAt h v0 (v1 + (1 : Int32))) fun r5 =>
  some ((r2 <<< ((8 : Int32) &&& 31)) ||| r5) else none
set_option maxHeartbeats 4000000 in
set_option maxRecDepth 100000 in
theorem s0_X9_pairAt {Z : Nat → (Nat → Nat) → State → Prop} (h : KH) (v0 : Nat) (v1 : Int32) {t : Int32} (hn : h.1 = 243) (H : f_X9_pairAt h v0 v1 = some t) : KX Z RX9 cX9_pairAt 2 false 2 (KRi cX9_pairAt t h) 0 [(0, .ref v0), (1, .int v1)] [] h := by
  unfold f_X9_pairAt at H
  refine x_aload_n (q := 1) dX9_pairAt_0 rfl rfl ?_
  refine x_iload_n (q := 2) dX9_pairAt_1 rfl rfl ?_
  replace H := kif H; obtain ⟨g1, H⟩ := H
  replace H := kbe H; obtain ⟨r2, c3, H⟩ := H
  have m4 := s_X9_byteAt (Z := Z) h v0 v1 hn c3
  refine x_callV (q := 5) (as := [.int v1]) (rest := []) dX9_pairAt_2 rfl kc_RX9_19 kh_X9_byteAt (by decide) (Nat.le_of_ble_eq_true rfl) m4 (ci := 9) (by exact ⟨rfl, by decide⟩) (k243 g1 (by decide) hn) ?_
  refine x_bipush (q := 7) (v := (8 : Int32)) dX9_pairAt_5 rfl (by decide) ?_
  refine x_ishl (q := 8) dX9_pairAt_7 rfl ?_
  refine x_aload_n (q := 9) dX9_pairAt_8 rfl rfl ?_
  refine x_iload_n (q := 10) dX9_pairAt_9 rfl rfl ?_
  refine x_iconst (q := 11) (v := (1 : Int32)) dX9_pairAt_10 rfl (by decide) ?_
  refine x_iadd (q := 12) dX9_pairAt_11 rfl ?_
  replace H := kbe H; obtain ⟨r5, c6, H⟩ := H
  have m7 := s_X9_byteAt (Z := Z) h v0 (v1 + (1 : Int32)) hn c6
  refine x_callV (q := 15) (as := [.int (v1 + (1 : Int32))]) (rest := [.int (r2 <<< ((8 : Int32) &&& 31))]) dX9_pairAt_12 rfl kc_RX9_19 kh_X9_byteAt (by decide) (Nat.le_of_ble_eq_true rfl) m7 (ci := 9) (by exact ⟨rfl, by decide⟩) (k243 g1 (by decide) hn) ?_
  refine x_ior (q := 16) dX9_pairAt_15 rfl ?_
  cases H
  exact x_end ⟨dX9_pairAt_16, rfl, rfl⟩
theorem s_X9_pairAt {Z : Nat → (Nat → Nat) → State → Prop} (h : KH) (v0 : Nat) (v1 : Int32) {t : Int32} (hn : h.1 = 243) (H : f_X9_pairAt h v0 v1 = some t) : KM Z yX9_pairAt cX9_pairAt 2 (some .int) 2 [.ref v0, .int v1] h (some (.int t)) h :=
  kx_i (own := RX9) (ini := false) (by decide +kernel) (by decide +kernel) rfl (Nat.le_of_ble_eq_true rfl) (s0_X9_pairAt h v0 v1 hn H)
theorem dJ7_fill_d0a16_0 : decode cJ7_fill_d0a16 0 = .ok (.iconst 0, 1) := by decide +kernel
theorem dJ7_fill_d0a16_1 : decode cJ7_fill_d0a16 1 = .ok (.istore_n 3, 1) := by decide +kernel
theorem dJ7_fill_d0a16_2 : decode cJ7_fill_d0a16 2 = .ok (.aload_n 0, 1) := by decide +kernel
theorem dJ7_fill_d0a16_3 : decode cJ7_fill_d0a16 3 = .ok (.arraylength, 1) := by decide +kernel
theorem dJ7_fill_d0a16_4 : decode cJ7_fill_d0a16 4 = .ok (.istore 4, 2) := by decide +kernel
theorem dJ7_fill_d0a16_6 : decode cJ7_fill_d0a16 6 = .ok (.iload_n 3, 1) := by decide +kernel
theorem dJ7_fill_d0a16_7 : decode cJ7_fill_d0a16 7 = .ok (.iload 4, 2) := by decide +kernel
theorem dJ7_fill_d0a16_9 : decode cJ7_fill_d0a16 9 = .ok (.if_icmp .ge 13, 3) := by decide +kernel
theorem dJ7_fill_d0a16_12 : decode cJ7_fill_d0a16 12 = .ok (.aload_n 0, 1) := by decide +kernel
theorem dJ7_fill_d0a16_13 : decode cJ7_fill_d0a16 13 = .ok (.iload_n 3, 1) := by decide +kernel
theorem dJ7_fill_d0a16_14 : decode cJ7_fill_d0a16 14 = .ok (.lload_n 1, 1) := by decide +kernel
theorem dJ7_fill_d0a16_15 : decode cJ7_fill_d0a16 15 = .ok (.lastore, 1) := by decide +kernel
theorem dJ7_fill_d0a16_16 : decode cJ7_fill_d0a16 16 = .ok (.iinc 3 1, 3) := by decide +kernel
theorem dJ7_fill_d0a16_19 : decode cJ7_fill_d0a16 19 = .ok (.goto (-13), 3) := by decide +kernel
theorem dJ7_fill_d0a16_22 : decode cJ7_fill_d0a16 22 = .ok (.return_, 1) := by decide +kernel
def E_J7_fill_d0a16_l6 (v0 : Nat) (v1 : Int64) (v4 : Int32) : KH → Nat → List (Nat × Value) → List Value → KH → Prop := fun (e : KH) pc ls st hh => pc = 22 ∧ ls = [] ∧ st = [] ∧ e = hh
def B_J7_fill_d0a16_l6 (v0 : Nat) (v1 : Int64) (v4 : Int32) : ((Int32 × KH) ⊕ (KH)) → Nat → List (Nat × Value) → List Value → KH → Prop := Sum.elim (fun (s : Int32 × KH) pc ls st hh => pc = 6 ∧ ls = [(0, .ref v0), (1, .long v1), (3, .int s.1), (4, .int v4)] ∧ st = [] ∧ hh = s.2) (E_J7_fill_d0a16_l6 v0 v1 v4)
def f_J7_fill_d0a16_l6 (v0 : Nat) (v1 : Int64) (v4 : Int32) (s : Int32 × KH) : Option ((Int32 × KH) ⊕ (KH)) :=
  if v4 ≤ s.1 then
  some (.inr s.2)
  else
  if kkind v0 = 21 then if (s.1 < 0 ∨ klen v0 ≤ (s.1).toNatClampNeg) then none else kl (ksL s.2 v0 ((s.1).toNatClampNeg) v1) fun h4 =>
  kl (s.1 + (1 : Int32)) fun x7 =>
  some (.inl (x7, h4)) else none
set_option maxHeartbeats 4000000 in
set_option maxRecDepth 100000 in
theorem s_J7_fill_d0a16_l6 {Z : Nat → (Nat → Nat) → State → Prop} (v0 : Nat) (v1 : Int64) (v4 : Int32) (s : Int32 × KH) (t : (Int32 × KH) ⊕ (KH)) (hn : (s.2).1 = 243) (H : f_J7_fill_d0a16_l6 v0 v1 v4 s = some t) : KX Z RJ7 cJ7_fill_d0a16 5 false 1 (B_J7_fill_d0a16_l6 v0 v1 v4 t) 6 [(0, .ref v0), (1, .long v1), (3, .int s.1), (4, .int v4)] [] s.2 := by
  unfold f_J7_fill_d0a16_l6 at H
  refine x_iload_n (q := 7) dJ7_fill_d0a16_6 rfl rfl ?_
  refine x_iload (q := 9) dJ7_fill_d0a16_7 rfl rfl ?_
  replace H := kite H; rcases H with ⟨g1, H⟩ | ⟨g1, H⟩
  · refine x_icmp_ge_t dJ7_fill_d0a16_9 (q := 22) (by decide) g1 ?_
    cases H
    refine x_sub (ls2 := []) [] rfl ?_
    exact x_end (x_cfg rfl)
  · refine x_icmp_ge_f (q := 12) dJ7_fill_d0a16_9 (t := 22) (by decide) rfl g1 ?_
    refine x_aload_n (q := 13) dJ7_fill_d0a16_12 rfl rfl ?_
    refine x_iload_n (q := 14) dJ7_fill_d0a16_13 rfl rfl ?_
    refine x_lload_n (q := 15) dJ7_fill_d0a16_14 rfl rfl ?_
    replace H := kif H; obtain ⟨g2, H⟩ := H
    replace H := kifn H; obtain ⟨g3, H⟩ := H
    replace H := kle H; obtain ⟨h4, q5, H⟩ := H
    refine x_last (q := 16) dJ7_fill_d0a16_15 rfl (k243 g2 (by decide) hn) g3 ?_
    refine x_nmH q5 ?_
    have n6 : h4.1 = 243 := by rw [q5]; exact hn
    replace H := kle H; obtain ⟨x7, q8, H⟩ := H
    refine x_iinc (q := 19) (i := 3) (ls2 := [(3, .int x7), (0, .ref v0), (1, .long v1), (4, .int v4)]) dJ7_fill_d0a16_16 rfl rfl (by decide) (by rw [q8]; rfl) ?_
    refine x_goto dJ7_fill_d0a16_19 (q := 6) (by decide) ?_
    cases H
    refine x_sub (ls2 := [(0, .ref v0), (1, .long v1), (3, .int x7), (4, .int v4)]) [1, 2, 0, 3] rfl ?_
    exact x_end (x_cfg rfl)
theorem sl_J7_fill_d0a16_l6 {Z : Nat → (Nat → Nat) → State → Prop} (v0 : Nat) (v1 : Int64) (v4 : Int32) (n : Nat) (s : Int32 × KH) (r : KH) (hn : (s.2).1 = 243) (H : kloop (f_J7_fill_d0a16_l6 v0 v1 v4) n s = some r) : KX Z RJ7 cJ7_fill_d0a16 5 false 1 (E_J7_fill_d0a16_l6 v0 v1 v4 r) 6 [(0, .ref v0), (1, .long v1), (3, .int s.1), (4, .int v4)] [] s.2 :=
  k_loop (ls := (fun (s : Int32 × KH) => ([(0, .ref v0), (1, .long v1), (3, .int s.1), (4, .int v4)] : List (Nat × Value)))) (hp := (fun (s : Int32 × KH) => (s.2 : KH))) (G := E_J7_fill_d0a16_l6 v0 v1 v4) (fun s t hn H => s_J7_fill_d0a16_l6 v0 v1 v4 s t hn H) n s r hn H
def f_J7_fill_d0a16 (h : KH) (v0 : Nat) (v1 : Int64) : Option (KH) :=
  if kkind v0 = 21 then kl (Int32.ofNat (klen v0)) fun x2 =>
  kb (kloop (f_J7_fill_d0a16_l6 v0 v1 x2) KF ((0 : Int32), h)) fun e4 =>
  some e4 else none
set_option maxHeartbeats 4000000 in
set_option maxRecDepth 100000 in
theorem s0_J7_fill_d0a16 {Z : Nat → (Nat → Nat) → State → Prop} (h : KH) (v0 : Nat) (v1 : Int64) {t : KH} (hn : h.1 = 243) (H : f_J7_fill_d0a16 h v0 v1 = some t) : KX Z RJ7 cJ7_fill_d0a16 5 false 1 (KRv cJ7_fill_d0a16 t) 0 [(0, .ref v0), (1, .long v1)] [] h := by
  unfold f_J7_fill_d0a16 at H
  refine x_iconst (q := 1) (v := (0 : Int32)) dJ7_fill_d0a16_0 rfl (by decide) ?_
  refine x_istore_n (q := 2) (i := 3) (ls2 := [(3, .int (0 : Int32)), (0, .ref v0), (1, .long v1)]) dJ7_fill_d0a16_1 rfl rfl (by decide) rfl ?_
  refine x_aload_n (q := 3) dJ7_fill_d0a16_2 rfl rfl ?_
  replace H := kif H; obtain ⟨g1, H⟩ := H
  refine x_alen (q := 4) dJ7_fill_d0a16_3 rfl (by decide) (k243 g1 (by decide) hn) ?_
  replace H := kle H; obtain ⟨x2, q3, H⟩ := H
  refine x_nmI q3 ?_
  refine x_istore (q := 6) (i := 4) (ls2 := [(4, .int x2), (3, .int (0 : Int32)), (0, .ref v0), (1, .long v1)]) dJ7_fill_d0a16_4 rfl (by decide) rfl ?_
  refine x_sub (ls2 := [(0, .ref v0), (1, .long v1), (3, .int (0 : Int32)), (4, .int x2)]) [2, 3, 1, 0] rfl ?_
  replace H := kbe H; obtain ⟨e4, c5, H⟩ := H
  refine x_app (sl_J7_fill_d0a16_l6 v0 v1 x2 KF ((0 : Int32), h) e4 hn c5) fun pc2 ls2 st2 h2 hg m6 => ?_
  obtain ⟨rfl, rfl, rfl, rfl⟩ := hg
  cases H
  exact x_end ⟨dJ7_fill_d0a16_22, rfl, rfl⟩
theorem s_J7_fill_d0a16 {Z : Nat → (Nat → Nat) → State → Prop} (h : KH) (v0 : Nat) (v1 : Int64) {t : KH} (hn : h.1 = 243) (H : f_J7_fill_d0a16 h v0 v1 = some t) : KM Z yJ7_fill_d0a16 cJ7_fill_d0a16 5 none 1 [.ref v0, .long v1] h none t :=
  kx_v (own := RJ7) (ini := false) (by decide +kernel) (by decide +kernel) rfl (Nat.le_of_ble_eq_true rfl) (s0_J7_fill_d0a16 h v0 v1 hn H)
