/-- the inner arrays' labels -/
def kmnaOK (a N K : Nat) : Bool := (List.range N).all fun i => kkind (a + i) == 20 && klen (a + i) == K
theorem kmna_of {a N K : Nat} (h : kmnaOK a N K = true) : ∀ i, i < N → kkind (a + i) = 20 ∧ klen (a + i) = K := fun i hi => by
  have h1 := List.all_eq_true.mp h i (List.mem_range.mpr hi)
  simpa using h1
/-! String.length and charAt at the two constants -/
def f_strlen (v : Nat) : Option Int32 := if v = klab 0 then some 111 else if v = klab 1 then some 27 else none
def f_strchar (v : Nat) (i : Int32) : Option Int32 :=
  if v = klab 0 then (if i < 0 ∨ 111 ≤ i.toNatClampNeg then none else some ((kbyts.getD 0 []).getD i.toNatClampNeg 0))
  else if v = klab 1 then (if i < 0 ∨ 27 ≤ i.toNatClampNeg then none else some ((kbyts.getD 1 []).getD i.toNatClampNeg 0)) else none
section KST2
variable {xs : Nat → Int32} {L : Nat}
theorem s_strlen (v : Nat) (h : KH) {t : Int32} (c : f_strlen v = some t) : KM (KZs xs L) yJ0_length_8abf5 cJ0_length_8abf5 1 (some .int) 2 [.ref v] h (some (.int t)) h := by
  unfold f_strlen at c
  split at c
  · rename_i hv; subst hv; cases c; exact s_strlen0 (k := 0) (by decide) h
  · split at c
    · rename_i hv; subst hv; cases c; exact s_strlen0 (k := 1) (by decide) h
    · cases c
theorem kz_recvL (v : Nat) {t : Int32} (c : f_strlen v = some t) : ∀ (base : Nat) (sA : Nat → Nat) (s : State) (H : Heap) (locs : List Loc), KZs xs L base sA s → va_S (fun q => base ≤ q) s.heap H locs → ∃ cell : Cell, H[kadr base sA v]? = some cell ∧ cell.vm.isStatics = false ∧ s.vm.findClass yJ0_length_8abf5.cls = some cell.cls := by
  unfold f_strlen at c
  split at c
  · rename_i hv; subst hv; exact kz_recv (k := 0) (by decide)
  · split at c
    · rename_i hv; subst hv; exact kz_recv (k := 1) (by decide)
    · cases c
theorem kz_recvC (v : Nat) (i : Int32) {t : Int32} (c : f_strchar v i = some t) : ∀ (base : Nat) (sA : Nat → Nat) (s : State) (H : Heap) (locs : List Loc), KZs xs L base sA s → va_S (fun q => base ≤ q) s.heap H locs → ∃ cell : Cell, H[kadr base sA v]? = some cell ∧ cell.vm.isStatics = false ∧ s.vm.findClass yJ0_charAt_5068e.cls = some cell.cls := by
  unfold f_strchar at c
  split at c
  · rename_i hv; subst hv; exact kz_recv (k := 0) (by decide)
  · split at c
    · rename_i hv; subst hv; exact kz_recv (k := 1) (by decide)
    · cases c
theorem kilt {i : Int32} {n : Nat} (h : ¬ (i < 0 ∨ n ≤ i.toNatClampNeg)) (hn : n < 2 ^ 31) : i < Int32.ofNat n := by
  obtain ⟨j, hj, rfl⟩ := vp_in_of (x := i) (n := n) h hn
  exact nI_lt hj hn
theorem kmemD {l : List Int32} {j : Nat} (h : j < l.length) : l.getD j 0 ∈ l := by
  rw [List.getD_eq_getElem?_getD, List.getElem?_eq_getElem h]
  exact List.getElem_mem h
theorem s_strchar (v : Nat) (i : Int32) (h : KH) {t : Int32} (c : f_strchar v i = some t) : KM (KZs xs L) yJ0_charAt_5068e cJ0_charAt_5068e 2 (some .char) 4 [.ref v, .int i] h (some (.int t)) h := by
  unfold f_strchar at c
  split at c
  · rename_i hv; subst hv
    obtain ⟨g, c⟩ := kifn c
    cases c
    have hl := Nat.not_le.mp (fun z => g (Or.inr z))
    exact s_strchar0 (k := 0) (by decide) h i g (kilt g (by decide)) ⟨kmemD (l := kbyts.getD 0 []) hl, List.mem_cons_self⟩
  · split at c
    · rename_i hv; subst hv
      obtain ⟨g, c⟩ := kifn c
      cases c
      have hl := Nat.not_le.mp (fun z => g (Or.inr z))
      exact s_strchar0 (k := 1) (by decide) h i g (kilt g (by decide)) ⟨kmemD (l := kbyts.getD 1 []) hl, List.mem_cons_of_mem _ List.mem_cons_self⟩
    · cases c
end KST2
theorem dX9_init_0 : decode cX9_init 0 = .ok (.aload_n 0, 1) := by decide +kernel
theorem dX9_init_1 : decode cX9_init 1 = .ok (.invokespecial 3, 3) := by decide +kernel
theorem dX9_init_4 : decode cX9_init 4 = .ok (.aload_n 0, 1) := by decide +kernel
theorem dX9_init_5 : decode cX9_init 5 = .ok (.sipush 1600, 3) := by decide +kernel
theorem dX9_init_8 : decode cX9_init 8 = .ok (.newarray .byte, 2) := by decide +kernel
theorem dX9_init_10 : decode cX9_init 10 = .ok (.putfield 9, 3) := by decide +kernel
theorem dX9_init_13 : decode cX9_init 13 = .ok (.aload_n 0, 1) := by decide +kernel
theorem dX9_init_14 : decode cX9_init 14 = .ok (.iconst 0, 1) := by decide +kernel
theorem dX9_init_15 : decode cX9_init 15 = .ok (.putfield 15, 3) := by decide +kernel
theorem dX9_init_18 : decode cX9_init 18 = .ok (.return_, 1) := by decide +kernel
theorem ko_RX9_3 : Cond.methodLink RX9 3 Lib.objectInit ∈ ktG ∧ Cond.instanceMethod Lib.objectInit ∈ ktG ∧ Cond.code Lib.objectInit ⟨#[0xb1]⟩ 1 none ∈ ktG := ⟨kwm 157 (by decide +kernel) (by decide +kernel), kwm 150 (by decide +kernel) (by decide +kernel), kwm 151 (by decide +kernel) (by decide +kernel)⟩
theorem kwa_byte : Cond.arrayClass (newarray.typeOf .byte) ∈ ktG := kwm 167 (by decide +kernel) (by decide +kernel)
set_option maxHeartbeats 8000000 in
set_option maxRecDepth 100000 in
def f_iX9_init (h : KH) (v0 : Nat) : Option (KH) :=
  if (kkind h.1 = 23 ∧ klen h.1 = ((1600 : Int32)).toNatClampNeg ∧ ¬ (1600 : Int32) < 0 ∧ klen h.1 ≤ 9000) then kl (knew h) fun h2 =>
  if (kkind v0 = 9 ∧ v0 < h2.1) then if h.1 < 999999 then kl (ksR h2 v0 0 h.1) fun h6 =>
  if (kkind v0 = 9 ∧ v0 < h6.1) then kl (ksI h6 v0 1 (0 : Int32)) fun h9 =>
  some h9 else none else none else none else none
set_option maxHeartbeats 8000000 in
set_option maxRecDepth 100000 in
theorem s0_iX9_init {xs : Nat → Int32} {L : Nat} (h : KH) (v0 : Nat) {t : KH} (H : f_iX9_init h v0 = some t) : KX (KZs xs L) RX9 cX9_init 1 true 2 (KRv cX9_init t) 0 [(0, .ref v0)] [] h := by
  unfold f_iX9_init at H
  refine x_aload_n (q := 1) dX9_init_0 rfl rfl ?_
  refine x_objInit (q := 4) (rest := []) dX9_init_1 rfl ko_RX9_3 (by decide) (Nat.le_of_ble_eq_true rfl) ?_
  refine x_aload_n (q := 5) dX9_init_4 rfl rfl ?_
  refine x_sipush (q := 8) (v := (1600 : Int32)) dX9_init_5 rfl (by decide) ?_
  replace H := kif H; obtain ⟨g1, H⟩ := H
  replace H := kle H; obtain ⟨h2, q3, H⟩ := H
  refine x_newa (q := 10) (kk := 23) dX9_init_8 rfl (Or.inr (Or.inr (Or.inr ⟨rfl, rfl⟩))) kwa_byte g1 ?_
  refine x_nmH q3 ?_
  replace H := kif H; obtain ⟨g4, H⟩ := H
  replace H := kif H; obtain ⟨g5, H⟩ := H
  replace H := kle H; obtain ⟨h6, q7, H⟩ := H
  refine x_putR (q := 13) dX9_init_10 rfl kl_RX9_9 (Or.inr ⟨rfl, rfl⟩) rfl g5 g4 ?_
  refine x_nmH q7 ?_
  refine x_aload_n (q := 14) dX9_init_13 rfl rfl ?_
  refine x_iconst (q := 15) (v := (0 : Int32)) dX9_init_14 rfl (by decide) ?_
  replace H := kif H; obtain ⟨g8, H⟩ := H
  replace H := kle H; obtain ⟨h9, q10, H⟩ := H
  refine x_putI (q := 18) dX9_init_15 rfl kl_RX9_15 (Or.inl rfl) rfl g8 ?_
  refine x_nmH q10 ?_
  cases H
  exact x_end ⟨dX9_init_18, rfl, rfl⟩
theorem s_iX9_init {xs : Nat → Int32} {L : Nat} (h : KH) (v0 : Nat) {t : KH} (H : f_iX9_init h v0 = some t) : KM (KZs xs L) yX9_init cX9_init 1 none 2 [.ref v0] h none t :=
  kx_v (own := RX9) (ini := true) (by decide +kernel) (by decide +kernel) rfl (Nat.le_of_ble_eq_true rfl) (s0_iX9_init h v0 H)
theorem dX1_init_0 : decode cX1_init 0 = .ok (.aload_n 0, 1) := by decide +kernel
theorem dX1_init_1 : decode cX1_init 1 = .ok (.invokespecial 3, 3) := by decide +kernel
theorem dX1_init_4 : decode cX1_init 4 = .ok (.aload_n 0, 1) := by decide +kernel
theorem dX1_init_5 : decode cX1_init 5 = .ok (.sipush 1600, 3) := by decide +kernel
theorem dX1_init_8 : decode cX1_init 8 = .ok (.newarray .int, 2) := by decide +kernel
theorem dX1_init_10 : decode cX1_init 10 = .ok (.putfield 9, 3) := by decide +kernel
theorem dX1_init_13 : decode cX1_init 13 = .ok (.aload_n 0, 1) := by decide +kernel
theorem dX1_init_14 : decode cX1_init 14 = .ok (.bipush 64, 2) := by decide +kernel
theorem dX1_init_16 : decode cX1_init 16 = .ok (.newarray .int, 2) := by decide +kernel
theorem dX1_init_18 : decode cX1_init 18 = .ok (.putfield 15, 3) := by decide +kernel
theorem dX1_init_21 : decode cX1_init 21 = .ok (.aload_n 0, 1) := by decide +kernel
theorem dX1_init_22 : decode cX1_init 22 = .ok (.iconst 0, 1) := by decide +kernel
theorem dX1_init_23 : decode cX1_init 23 = .ok (.putfield 18, 3) := by decide +kernel
theorem dX1_init_26 : decode cX1_init 26 = .ok (.return_, 1) := by decide +kernel
theorem ko_RX1_3 : Cond.methodLink RX1 3 Lib.objectInit ∈ ktG ∧ Cond.instanceMethod Lib.objectInit ∈ ktG ∧ Cond.code Lib.objectInit ⟨#[0xb1]⟩ 1 none ∈ ktG := ⟨kwm 179 (by decide +kernel) (by decide +kernel), kwm 150 (by decide +kernel) (by decide +kernel), kwm 151 (by decide +kernel) (by decide +kernel)⟩
theorem kwa_int : Cond.arrayClass (newarray.typeOf .int) ∈ ktG := kwm 191 (by decide +kernel) (by decide +kernel)
set_option maxHeartbeats 8000000 in
set_option maxRecDepth 100000 in
def f_iX1_init (h : KH) (v0 : Nat) : Option (KH) :=
  if (kkind h.1 = 20 ∧ klen h.1 = ((1600 : Int32)).toNatClampNeg ∧ ¬ (1600 : Int32) < 0 ∧ klen h.1 ≤ 9000) then kl (knew h) fun h2 =>
  if (kkind v0 = 1 ∧ v0 < h2.1) then if h.1 < 999999 then kl (ksR h2 v0 0 h.1) fun h6 =>
  if (kkind h6.1 = 20 ∧ klen h6.1 = ((64 : Int32)).toNatClampNeg ∧ ¬ (64 : Int32) < 0 ∧ klen h6.1 ≤ 9000) then kl (knew h6) fun h9 =>
  if (kkind v0 = 1 ∧ v0 < h9.1) then if h6.1 < 999999 then kl (ksR h9 v0 1 h6.1) fun h13 =>
  if (kkind v0 = 1 ∧ v0 < h13.1) then kl (ksI h13 v0 2 (0 : Int32)) fun h16 =>
  some h16 else none else none else none else none else none else none else none
set_option maxHeartbeats 8000000 in
set_option maxRecDepth 100000 in
theorem s0_iX1_init {xs : Nat → Int32} {L : Nat} (h : KH) (v0 : Nat) {t : KH} (H : f_iX1_init h v0 = some t) : KX (KZs xs L) RX1 cX1_init 1 true 2 (KRv cX1_init t) 0 [(0, .ref v0)] [] h := by
  unfold f_iX1_init at H
  refine x_aload_n (q := 1) dX1_init_0 rfl rfl ?_
  refine x_objInit (q := 4) (rest := []) dX1_init_1 rfl ko_RX1_3 (by decide) (Nat.le_of_ble_eq_true rfl) ?_
  refine x_aload_n (q := 5) dX1_init_4 rfl rfl ?_
  refine x_sipush (q := 8) (v := (1600 : Int32)) dX1_init_5 rfl (by decide) ?_
  replace H := kif H; obtain ⟨g1, H⟩ := H
  replace H := kle H; obtain ⟨h2, q3, H⟩ := H
  refine x_newa (q := 10) (kk := 20) dX1_init_8 rfl (Or.inl ⟨rfl, rfl⟩) kwa_int g1 ?_
  refine x_nmH q3 ?_
  replace H := kif H; obtain ⟨g4, H⟩ := H
  replace H := kif H; obtain ⟨g5, H⟩ := H
  replace H := kle H; obtain ⟨h6, q7, H⟩ := H
  refine x_putR (q := 13) dX1_init_10 rfl kl_RX1_9 (Or.inr ⟨rfl, rfl⟩) rfl g5 g4 ?_
  refine x_nmH q7 ?_
  refine x_aload_n (q := 14) dX1_init_13 rfl rfl ?_
  refine x_bipush (q := 16) (v := (64 : Int32)) dX1_init_14 rfl (by decide) ?_
  replace H := kif H; obtain ⟨g8, H⟩ := H
  replace H := kle H; obtain ⟨h9, q10, H⟩ := H
  refine x_newa (q := 18) (kk := 20) dX1_init_16 rfl (Or.inl ⟨rfl, rfl⟩) kwa_int g8 ?_
  refine x_nmH q10 ?_
  replace H := kif H; obtain ⟨g11, H⟩ := H
  replace H := kif H; obtain ⟨g12, H⟩ := H
  replace H := kle H; obtain ⟨h13, q14, H⟩ := H
  refine x_putR (q := 21) dX1_init_18 rfl kl_RX1_15 (Or.inr ⟨rfl, rfl⟩) rfl g12 g11 ?_
  refine x_nmH q14 ?_
  refine x_aload_n (q := 22) dX1_init_21 rfl rfl ?_
  refine x_iconst (q := 23) (v := (0 : Int32)) dX1_init_22 rfl (by decide) ?_
  replace H := kif H; obtain ⟨g15, H⟩ := H
  replace H := kle H; obtain ⟨h16, q17, H⟩ := H
  refine x_putI (q := 26) dX1_init_23 rfl kl_RX1_18 (Or.inl rfl) rfl g15 ?_
  refine x_nmH q17 ?_
  cases H
  exact x_end ⟨dX1_init_26, rfl, rfl⟩
theorem s_iX1_init {xs : Nat → Int32} {L : Nat} (h : KH) (v0 : Nat) {t : KH} (H : f_iX1_init h v0 = some t) : KM (KZs xs L) yX1_init cX1_init 1 none 2 [.ref v0] h none t :=
  kx_v (own := RX1) (ini := true) (by decide +kernel) (by decide +kernel) rfl (Nat.le_of_ble_eq_true rfl) (s0_iX1_init h v0 H)
theorem dX6_init_0 : decode cX6_init 0 = .ok (.aload_n 0, 1) := by decide +kernel
theorem dX6_init_1 : decode cX6_init 1 = .ok (.invokespecial 3, 3) := by decide +kernel
theorem dX6_init_4 : decode cX6_init 4 = .ok (.aload_n 0, 1) := by decide +kernel
theorem dX6_init_5 : decode cX6_init 5 = .ok (.new 9, 3) := by decide +kernel
theorem dX6_init_8 : decode cX6_init 8 = .ok (.dup, 1) := by decide +kernel
theorem dX6_init_9 : decode cX6_init 9 = .ok (.invokespecial 11, 3) := by decide +kernel
theorem dX6_init_12 : decode cX6_init 12 = .ok (.putfield 12, 3) := by decide +kernel
theorem dX6_init_15 : decode cX6_init 15 = .ok (.aload_n 0, 1) := by decide +kernel
theorem dX6_init_16 : decode cX6_init 16 = .ok (.bipush 33, 2) := by decide +kernel
theorem dX6_init_18 : decode cX6_init 18 = .ok (.newarray .int, 2) := by decide +kernel
theorem dX6_init_20 : decode cX6_init 20 = .ok (.putfield 18, 3) := by decide +kernel
theorem dX6_init_23 : decode cX6_init 23 = .ok (.aload_n 0, 1) := by decide +kernel
theorem dX6_init_24 : decode cX6_init 24 = .ok (.iconst 0, 1) := by decide +kernel
theorem dX6_init_25 : decode cX6_init 25 = .ok (.putfield 22, 3) := by decide +kernel
theorem dX6_init_28 : decode cX6_init 28 = .ok (.aload_n 0, 1) := by decide +kernel
theorem dX6_init_29 : decode cX6_init 29 = .ok (.lconst 0, 1) := by decide +kernel
theorem dX6_init_30 : decode cX6_init 30 = .ok (.putfield 26, 3) := by decide +kernel
theorem dX6_init_33 : decode cX6_init 33 = .ok (.aload_n 0, 1) := by decide +kernel
theorem dX6_init_34 : decode cX6_init 34 = .ok (.iconst 1, 1) := by decide +kernel
theorem dX6_init_35 : decode cX6_init 35 = .ok (.putfield 30, 3) := by decide +kernel
theorem dX6_init_38 : decode cX6_init 38 = .ok (.return_, 1) := by decide +kernel
theorem ko_RX6_3 : Cond.methodLink RX6 3 Lib.objectInit ∈ ktG ∧ Cond.instanceMethod Lib.objectInit ∈ ktG ∧ Cond.code Lib.objectInit ⟨#[0xb1]⟩ 1 none ∈ ktG := ⟨kwm 173 (by decide +kernel) (by decide +kernel), kwm 150 (by decide +kernel) (by decide +kernel), kwm 151 (by decide +kernel) (by decide +kernel)⟩
theorem kn_RX6_9 : Cond.classLink RX6 9 (kown 1) ∈ ktG ∧ Cond.instantiable (kown 1) (kfts.getD 1 []).length ∈ ktG ∧ Cond.initialized (kown 1) ∈ ktG := ⟨kwm 174 (by decide +kernel) (by decide +kernel), kwm 175 (by decide +kernel) (by decide +kernel), kwm 126 (by decide +kernel) (by decide +kernel)⟩
theorem kc_RX6_11 : (RX6, 11, yX1_init, "KingsTest") ∈ knestM ∧ (yX1_init.name = "<init>" ∧ Cond.instanceMethod yX1_init ∈ ktG) ∧ Cond.initialized yX1_init.cls ∈ ktG ∧ Cond.code yX1_init cX1_init 1 none ∈ ktG := ⟨by decide +kernel, ⟨rfl, (kwm 177 (by decide +kernel) (by decide +kernel))⟩, (kwm 126 (by decide +kernel) (by decide +kernel)), kwm 178 (by decide +kernel) (by decide +kernel)⟩
theorem kh_X1_init : yX1_init.cls ≠ "java/lang/invoke/MethodHandle" ∧ yX1_init.cls ≠ "java/lang/invoke/VarHandle" ∧ (parseMethodDescriptor yX1_init.desc).map (fun d => d.parameters.length) = some 0 := by decide +kernel
set_option maxHeartbeats 8000000 in
set_option maxRecDepth 100000 in
def f_iX6_init (h : KH) (v0 : Nat) : Option (KH) :=
  if (kkind h.1 = 1 ∧ 1 < 13) then kl (knew h) fun h2 =>
  if (kkind h.1 = 1 ∧ h.1 < h2.1) then kb (f_iX1_init h2 h.1) fun r5 =>
  if (kkind v0 = 6 ∧ v0 < r5.1) then if h.1 < 999999 then kl (ksR r5 v0 0 h.1) fun h11 =>
  if (kkind h11.1 = 20 ∧ klen h11.1 = ((33 : Int32)).toNatClampNeg ∧ ¬ (33 : Int32) < 0 ∧ klen h11.1 ≤ 9000) then kl (knew h11) fun h14 =>
  if (kkind v0 = 6 ∧ v0 < h14.1) then if h11.1 < 999999 then kl (ksR h14 v0 1 h11.1) fun h18 =>
  if (kkind v0 = 6 ∧ v0 < h18.1) then kl (ksI h18 v0 2 (0 : Int32)) fun h21 =>
  if (kkind v0 = 6 ∧ v0 < h21.1) then kl (ksL h21 v0 3 (0 : Int64)) fun h24 =>
  if (kkind v0 = 6 ∧ v0 < h24.1) then kl (ksI h24 v0 4 (1 : Int32)) fun h27 =>
  some h27 else none else none else none else none else none else none else none else none else none else none
set_option maxHeartbeats 8000000 in
set_option maxRecDepth 100000 in
theorem s0_iX6_init {xs : Nat → Int32} {L : Nat} (h : KH) (v0 : Nat) {t : KH} (H : f_iX6_init h v0 = some t) : KX (KZs xs L) RX6 cX6_init 1 true 3 (KRv cX6_init t) 0 [(0, .ref v0)] [] h := by
  unfold f_iX6_init at H
  refine x_aload_n (q := 1) dX6_init_0 rfl rfl ?_
  refine x_objInit (q := 4) (rest := []) dX6_init_1 rfl ko_RX6_3 (by decide) (Nat.le_of_ble_eq_true rfl) ?_
  refine x_aload_n (q := 5) dX6_init_4 rfl rfl ?_
  replace H := kif H; obtain ⟨g1, H⟩ := H
  replace H := kle H; obtain ⟨h2, q3, H⟩ := H
  refine x_new (q := 8) (ci := 1) dX6_init_5 rfl kn_RX6_9 g1 ?_
  refine x_nmH q3 ?_
  refine x_dup (q := 9) dX6_init_8 rfl rfl ?_
  replace H := kif H; obtain ⟨g4, H⟩ := H
  replace H := kbe H; obtain ⟨r5, c6, H⟩ := H
  have m7 := s_iX1_init (xs := xs) (L := L) h2 h.1  c6
  refine x_callIN (q := 12) (as := []) (rest := [.ref h.1, .ref v0]) dX6_init_9 rfl kc_RX6_11 kh_X1_init (by decide) (Nat.le_of_ble_eq_true rfl) m7 ?_
  replace H := kif H; obtain ⟨g9, H⟩ := H
  replace H := kif H; obtain ⟨g10, H⟩ := H
  replace H := kle H; obtain ⟨h11, q12, H⟩ := H
  refine x_putR (q := 15) dX6_init_12 rfl kl_RX6_12 (Or.inr ⟨rfl, rfl⟩) rfl g10 g9 ?_
  refine x_nmH q12 ?_
  refine x_aload_n (q := 16) dX6_init_15 rfl rfl ?_
  refine x_bipush (q := 18) (v := (33 : Int32)) dX6_init_16 rfl (by decide) ?_
  replace H := kif H; obtain ⟨g13, H⟩ := H
  replace H := kle H; obtain ⟨h14, q15, H⟩ := H
  refine x_newa (q := 20) (kk := 20) dX6_init_18 rfl (Or.inl ⟨rfl, rfl⟩) kwa_int g13 ?_
  refine x_nmH q15 ?_
  replace H := kif H; obtain ⟨g16, H⟩ := H
  replace H := kif H; obtain ⟨g17, H⟩ := H
  replace H := kle H; obtain ⟨h18, q19, H⟩ := H
  refine x_putR (q := 23) dX6_init_20 rfl kl_RX6_18 (Or.inr ⟨rfl, rfl⟩) rfl g17 g16 ?_
  refine x_nmH q19 ?_
  refine x_aload_n (q := 24) dX6_init_23 rfl rfl ?_
  refine x_iconst (q := 25) (v := (0 : Int32)) dX6_init_24 rfl (by decide) ?_
  replace H := kif H; obtain ⟨g20, H⟩ := H
  replace H := kle H; obtain ⟨h21, q22, H⟩ := H
  refine x_putI (q := 28) dX6_init_25 rfl kl_RX6_22 (Or.inl rfl) rfl g20 ?_
  refine x_nmH q22 ?_
  refine x_aload_n (q := 29) dX6_init_28 rfl rfl ?_
  refine x_lconst (q := 30) (v := (0 : Int64)) dX6_init_29 rfl (by decide) ?_
  replace H := kif H; obtain ⟨g23, H⟩ := H
  replace H := kle H; obtain ⟨h24, q25, H⟩ := H
  refine x_putL (q := 33) dX6_init_30 rfl kl_RX6_26 (Or.inl rfl) rfl g23 ?_
  refine x_nmH q25 ?_
  refine x_aload_n (q := 34) dX6_init_33 rfl rfl ?_
  refine x_iconst (q := 35) (v := (1 : Int32)) dX6_init_34 rfl (by decide) ?_
  replace H := kif H; obtain ⟨g26, H⟩ := H
  replace H := kle H; obtain ⟨h27, q28, H⟩ := H
  refine x_putZ (q := 38) dX6_init_35 rfl kl_RX6_30 (Or.inl rfl) rfl (by decide) g26 ?_
  refine x_nmH q28 ?_
  cases H
  exact x_end ⟨dX6_init_38, rfl, rfl⟩
theorem s_iX6_init {xs : Nat → Int32} {L : Nat} (h : KH) (v0 : Nat) {t : KH} (H : f_iX6_init h v0 = some t) : KM (KZs xs L) yX6_init cX6_init 1 none 3 [.ref v0] h none t :=
  kx_v (own := RX6) (ini := true) (by decide +kernel) (by decide +kernel) rfl (Nat.le_of_ble_eq_true rfl) (s0_iX6_init h v0 H)
set_option maxHeartbeats 8000000 in
set_option maxRecDepth 100000 in
def f_iX7_letterOf (h : KH) (v0 : Int32) : Option (Int32) :=
  some ((v0 - (97 : Int32)) + (1 : Int32))
set_option maxHeartbeats 8000000 in
set_option maxRecDepth 100000 in
theorem s0_iX7_letterOf {xs : Nat → Int32} {L : Nat} (h : KH) (v0 : Int32) {t : Int32} (H : f_iX7_letterOf h v0 = some t) : KX (KZs xs L) RX7 cX7_letterOf 1 false 1 (KRi cX7_letterOf t h) 0 [(0, .int v0)] [] h := by
  unfold f_iX7_letterOf at H
  refine x_iload_n (q := 1) dX7_letterOf_0 rfl rfl ?_
  refine x_bipush (q := 3) (v := (97 : Int32)) dX7_letterOf_1 rfl (by decide) ?_
  refine x_isub (q := 4) dX7_letterOf_3 rfl ?_
  refine x_iconst (q := 5) (v := (1 : Int32)) dX7_letterOf_4 rfl (by decide) ?_
  refine x_iadd (q := 6) dX7_letterOf_5 rfl ?_
  cases H
  exact x_end ⟨dX7_letterOf_6, rfl, rfl⟩
theorem s_iX7_letterOf {xs : Nat → Int32} {L : Nat} (h : KH) (v0 : Int32) {t : Int32} (H : f_iX7_letterOf h v0 = some t) : KM (KZs xs L) yX7_letterOf cX7_letterOf 1 (some .int) 1 [.int v0] h (some (.int t)) h :=
  kx_i (own := RX7) (ini := false) (by decide +kernel) (by decide +kernel) rfl (Nat.le_of_ble_eq_true rfl) (s0_iX7_letterOf h v0 H)
def E_iX7_filledUp_l4 (h : KH) : Int32 → Nat → List (Nat × Value) → List Value → KH → Prop := fun (e : Int32) pc ls st hh => pc = 21 ∧ ls = [(2, .int e)] ∧ st = [] ∧ h = hh
def B_iX7_filledUp_l4 (h : KH) : ((Int32 × Int32) ⊕ (Int32)) → Nat → List (Nat × Value) → List Value → KH → Prop := Sum.elim (fun (s : Int32 × Int32) pc ls st hh => pc = 4 ∧ ls = [(2, .int s.1), (3, .int s.2)] ∧ st = [] ∧ hh = h) (E_iX7_filledUp_l4 h)
def f_iX7_filledUp_l4 (h : KH) (s : Int32 × Int32) : Option ((Int32 × Int32) ⊕ (Int32)) :=
  if (6 : Int32) ≤ s.2 then
  some (.inr s.1)
  else
  kl (s.1 * (27 : Int32)) fun x2 =>
  kl (s.2 + (1 : Int32)) fun x4 =>
  some (.inl (x2, x4))
set_option maxHeartbeats 4000000 in
set_option maxRecDepth 100000 in
theorem s_iX7_filledUp_l4 {xs : Nat → Int32} {L : Nat} (h : KH) (s : Int32 × Int32) (t : (Int32 × Int32) ⊕ (Int32)) (H : f_iX7_filledUp_l4 h s = some t) : KX (KZs xs L) RX7 cX7_filledUp 4 false 1 (B_iX7_filledUp_l4 h t) 4 [(2, .int s.1), (3, .int s.2)] [] h := by
  unfold f_iX7_filledUp_l4 at H
  refine x_iload_n (q := 5) dX7_filledUp_4 rfl rfl ?_
  refine x_bipush (q := 7) (v := (6 : Int32)) dX7_filledUp_5 rfl (by decide) ?_
  replace H := kite H; rcases H with ⟨g1, H⟩ | ⟨g1, H⟩
  · refine x_icmp_ge_t dX7_filledUp_7 (q := 21) (by decide) g1 ?_
    cases H
    refine x_sub (ls2 := [(2, .int s.1)]) [0] rfl ?_
    exact x_end (x_cfg rfl)
  · refine x_icmp_ge_f (q := 10) dX7_filledUp_7 (t := 21) (by decide) rfl g1 ?_
    refine x_iload_n (q := 11) dX7_filledUp_10 rfl rfl ?_
    refine x_bipush (q := 13) (v := (27 : Int32)) dX7_filledUp_11 rfl (by decide) ?_
    refine x_imul (q := 14) dX7_filledUp_13 rfl ?_
    replace H := kle H; obtain ⟨x2, q3, H⟩ := H
    refine x_nmI q3 ?_
    refine x_istore_n (q := 15) (i := 2) (ls2 := [(2, .int x2), (3, .int s.2)]) dX7_filledUp_14 rfl rfl (by decide) rfl ?_
    replace H := kle H; obtain ⟨x4, q5, H⟩ := H
    refine x_iinc (q := 18) (i := 3) (ls2 := [(3, .int x4), (2, .int x2)]) dX7_filledUp_15 rfl rfl (by decide) (by rw [q5]; rfl) ?_
    refine x_goto dX7_filledUp_18 (q := 4) (by decide) ?_
    cases H
    refine x_sub (ls2 := [(2, .int x2), (3, .int x4)]) [1, 0] rfl ?_
    exact x_end (x_cfg rfl)
theorem sl_iX7_filledUp_l4 {xs : Nat → Int32} {L : Nat} (h : KH) (n : Nat) (s : Int32 × Int32) (r : Int32) (H : kloop (f_iX7_filledUp_l4 h) n s = some r) : KX (KZs xs L) RX7 cX7_filledUp 4 false 1 (E_iX7_filledUp_l4 h r) 4 [(2, .int s.1), (3, .int s.2)] [] h :=
  k_loopc (ls := (fun (s : Int32 × Int32) => ([(2, .int s.1), (3, .int s.2)] : List (Nat × Value)))) (hp := (fun (s : Int32 × Int32) => (h : KH))) (G := E_iX7_filledUp_l4 h) (fun s t H => s_iX7_filledUp_l4 h s t H) n s r H
set_option maxHeartbeats 8000000 in
set_option maxRecDepth 100000 in
def f_iX7_filledUp (h : KH) (v0 : Int32) (v1 : Int32) : Option (Int32) :=
  kb (kloop (f_iX7_filledUp_l4 h) KF (v0, v1)) fun e1 =>
  some e1
set_option maxHeartbeats 8000000 in
set_option maxRecDepth 100000 in
theorem s0_iX7_filledUp {xs : Nat → Int32} {L : Nat} (h : KH) (v0 : Int32) (v1 : Int32) {t : Int32} (H : f_iX7_filledUp h v0 v1 = some t) : KX (KZs xs L) RX7 cX7_filledUp 4 false 1 (KRi cX7_filledUp t h) 0 [(0, .int v0), (1, .int v1)] [] h := by
  unfold f_iX7_filledUp at H
  refine x_iload_n (q := 1) dX7_filledUp_0 rfl rfl ?_
  refine x_istore_n (q := 2) (i := 2) (ls2 := [(2, .int v0), (0, .int v0), (1, .int v1)]) dX7_filledUp_1 rfl rfl (by decide) rfl ?_
  refine x_iload_n (q := 3) dX7_filledUp_2 rfl rfl ?_
  refine x_istore_n (q := 4) (i := 3) (ls2 := [(3, .int v1), (2, .int v0), (0, .int v0), (1, .int v1)]) dX7_filledUp_3 rfl rfl (by decide) rfl ?_
  refine x_sub (ls2 := [(2, .int v0), (3, .int v1)]) [1, 0] rfl ?_
  replace H := kbe H; obtain ⟨e1, c2, H⟩ := H
  refine x_app (sl_iX7_filledUp_l4 h KF (v0, v1) e1  c2) fun pc2 ls2 st2 h2 hg m3 => ?_
  obtain ⟨rfl, rfl, rfl, rfl⟩ := hg
  refine x_iload_n (q := 22) dX7_filledUp_21 rfl rfl ?_
  cases H
  exact x_end ⟨dX7_filledUp_22, rfl, rfl⟩
theorem s_iX7_filledUp {xs : Nat → Int32} {L : Nat} (h : KH) (v0 : Int32) (v1 : Int32) {t : Int32} (H : f_iX7_filledUp h v0 v1 = some t) : KM (KZs xs L) yX7_filledUp cX7_filledUp 4 (some .int) 1 [.int v0, .int v1] h (some (.int t)) h :=
  kx_i (own := RX7) (ini := false) (by decide +kernel) (by decide +kernel) rfl (Nat.le_of_ble_eq_true rfl) (s0_iX7_filledUp h v0 v1 H)
theorem dX7_learn_0 : decode cX7_learn 0 = .ok (.iload_n 2, 1) := by decide +kernel
theorem dX7_learn_1 : decode cX7_learn 1 = .ok (.istore_n 3, 1) := by decide +kernel
theorem dX7_learn_2 : decode cX7_learn 2 = .ok (.iconst 0, 1) := by decide +kernel
theorem dX7_learn_3 : decode cX7_learn 3 = .ok (.istore 4, 2) := by decide +kernel
theorem dX7_learn_5 : decode cX7_learn 5 = .ok (.iconst 0, 1) := by decide +kernel
theorem dX7_learn_6 : decode cX7_learn 6 = .ok (.istore 5, 2) := by decide +kernel
theorem dX7_learn_8 : decode cX7_learn 8 = .ok (.iload 5, 2) := by decide +kernel
theorem dX7_learn_10 : decode cX7_learn 10 = .ok (.aload_n 1, 1) := by decide +kernel
theorem dX7_learn_11 : decode cX7_learn 11 = .ok (.invokevirtual 49, 3) := by decide +kernel
theorem dX7_learn_14 : decode cX7_learn 14 = .ok (.if_icmp .gt 92, 3) := by decide +kernel
theorem dX7_learn_17 : decode cX7_learn 17 = .ok (.iload_n 3, 1) := by decide +kernel
theorem dX7_learn_18 : decode cX7_learn 18 = .ok (.aload_n 0, 1) := by decide +kernel
theorem dX7_learn_19 : decode cX7_learn 19 = .ok (.getfield 9, 3) := by decide +kernel
theorem dX7_learn_22 : decode cX7_learn 22 = .ok (.arraylength, 1) := by decide +kernel
theorem dX7_learn_23 : decode cX7_learn 23 = .ok (.if_icmp .ge 83, 3) := by decide +kernel
theorem dX7_learn_26 : decode cX7_learn 26 = .ok (.iload 5, 2) := by decide +kernel
theorem dX7_learn_28 : decode cX7_learn 28 = .ok (.aload_n 1, 1) := by decide +kernel
theorem dX7_learn_29 : decode cX7_learn 29 = .ok (.invokevirtual 49, 3) := by decide +kernel
theorem dX7_learn_32 : decode cX7_learn 32 = .ok (.if_icmp .ge 45, 3) := by decide +kernel
theorem dX7_learn_35 : decode cX7_learn 35 = .ok (.aload_n 1, 1) := by decide +kernel
theorem dX7_learn_36 : decode cX7_learn 36 = .ok (.iload 5, 2) := by decide +kernel
theorem dX7_learn_38 : decode cX7_learn 38 = .ok (.invokevirtual 55, 3) := by decide +kernel
theorem dX7_learn_41 : decode cX7_learn 41 = .ok (.bipush 32, 2) := by decide +kernel
theorem dX7_learn_43 : decode cX7_learn 43 = .ok (.if_icmp .eq 34, 3) := by decide +kernel
theorem dX7_learn_46 : decode cX7_learn 46 = .ok (.aload_n 0, 1) := by decide +kernel
theorem dX7_learn_47 : decode cX7_learn 47 = .ok (.getfield 9, 3) := by decide +kernel
theorem dX7_learn_50 : decode cX7_learn 50 = .ok (.iload_n 3, 1) := by decide +kernel
theorem dX7_learn_51 : decode cX7_learn 51 = .ok (.aload_n 0, 1) := by decide +kernel
theorem dX7_learn_52 : decode cX7_learn 52 = .ok (.getfield 9, 3) := by decide +kernel
theorem dX7_learn_55 : decode cX7_learn 55 = .ok (.iload_n 3, 1) := by decide +kernel
theorem dX7_learn_56 : decode cX7_learn 56 = .ok (.iaload, 1) := by decide +kernel
theorem dX7_learn_57 : decode cX7_learn 57 = .ok (.bipush 27, 2) := by decide +kernel
theorem dX7_learn_59 : decode cX7_learn 59 = .ok (.imul, 1) := by decide +kernel
theorem dX7_learn_60 : decode cX7_learn 60 = .ok (.aload_n 1, 1) := by decide +kernel
theorem dX7_learn_61 : decode cX7_learn 61 = .ok (.iload 5, 2) := by decide +kernel
theorem dX7_learn_63 : decode cX7_learn 63 = .ok (.invokevirtual 55, 3) := by decide +kernel
theorem dX7_learn_66 : decode cX7_learn 66 = .ok (.invokestatic 59, 3) := by decide +kernel
theorem dX7_learn_69 : decode cX7_learn 69 = .ok (.iadd, 1) := by decide +kernel
theorem dX7_learn_70 : decode cX7_learn 70 = .ok (.iastore, 1) := by decide +kernel
theorem dX7_learn_71 : decode cX7_learn 71 = .ok (.iinc 4 1, 3) := by decide +kernel
theorem dX7_learn_74 : decode cX7_learn 74 = .ok (.goto 26, 3) := by decide +kernel
theorem dX7_learn_77 : decode cX7_learn 77 = .ok (.aload_n 0, 1) := by decide +kernel
theorem dX7_learn_78 : decode cX7_learn 78 = .ok (.getfield 9, 3) := by decide +kernel
theorem dX7_learn_81 : decode cX7_learn 81 = .ok (.iload_n 3, 1) := by decide +kernel
theorem dX7_learn_82 : decode cX7_learn 82 = .ok (.aload_n 0, 1) := by decide +kernel
theorem dX7_learn_83 : decode cX7_learn 83 = .ok (.getfield 9, 3) := by decide +kernel
theorem dX7_learn_86 : decode cX7_learn 86 = .ok (.iload_n 3, 1) := by decide +kernel
theorem dX7_learn_87 : decode cX7_learn 87 = .ok (.iaload, 1) := by decide +kernel
theorem dX7_learn_88 : decode cX7_learn 88 = .ok (.iload 4, 2) := by decide +kernel
theorem dX7_learn_90 : decode cX7_learn 90 = .ok (.invokestatic 63, 3) := by decide +kernel
theorem dX7_learn_93 : decode cX7_learn 93 = .ok (.iastore, 1) := by decide +kernel
theorem dX7_learn_94 : decode cX7_learn 94 = .ok (.iinc 3 1, 3) := by decide +kernel
theorem dX7_learn_97 : decode cX7_learn 97 = .ok (.iconst 0, 1) := by decide +kernel
theorem dX7_learn_98 : decode cX7_learn 98 = .ok (.istore 4, 2) := by decide +kernel
theorem dX7_learn_100 : decode cX7_learn 100 = .ok (.iinc 5 1, 3) := by decide +kernel
theorem dX7_learn_103 : decode cX7_learn 103 = .ok (.goto (-95), 3) := by decide +kernel
theorem dX7_learn_106 : decode cX7_learn 106 = .ok (.return_, 1) := by decide +kernel
theorem kc_RX7_49 : Cond.methodLink RX7 49 yJ0_length_8abf5 ∈ ktG ∧ (Cond.instanceMethod yJ0_length_8abf5 ∈ ktG ∧ Cond.selects yJ0_length_8abf5.cls yJ0_length_8abf5 yJ0_length_8abf5 ∈ ktG) ∧ Cond.initialized yJ0_length_8abf5.cls ∈ ktG ∧ Cond.code yJ0_length_8abf5 cJ0_length_8abf5 1 (some .int) ∈ ktG := ⟨(kwm 221 (by decide +kernel) (by decide +kernel)), ⟨(kwm 222 (by decide +kernel) (by decide +kernel)), (kwm 223 (by decide +kernel) (by decide +kernel))⟩, (kwm 128 (by decide +kernel) (by decide +kernel)), kwm 224 (by decide +kernel) (by decide +kernel)⟩
theorem kc_RX7_55 : Cond.methodLink RX7 55 yJ0_charAt_5068e ∈ ktG ∧ (Cond.instanceMethod yJ0_charAt_5068e ∈ ktG ∧ Cond.selects yJ0_charAt_5068e.cls yJ0_charAt_5068e yJ0_charAt_5068e ∈ ktG) ∧ Cond.initialized yJ0_charAt_5068e.cls ∈ ktG ∧ Cond.code yJ0_charAt_5068e cJ0_charAt_5068e 2 (some .char) ∈ ktG := ⟨(kwm 231 (by decide +kernel) (by decide +kernel)), ⟨(kwm 232 (by decide +kernel) (by decide +kernel)), (kwm 233 (by decide +kernel) (by decide +kernel))⟩, (kwm 128 (by decide +kernel) (by decide +kernel)), kwm 234 (by decide +kernel) (by decide +kernel)⟩
def E_iX7_learn_l8 (v0 : Nat) (v1 : Nat) : KH → Nat → List (Nat × Value) → List Value → KH → Prop := fun (e : KH) pc ls st hh => pc = 106 ∧ ls = [] ∧ st = [] ∧ e = hh
def B_iX7_learn_l8 (v0 : Nat) (v1 : Nat) : ((Int32 × Int32 × Int32 × KH) ⊕ (KH)) → Nat → List (Nat × Value) → List Value → KH → Prop := Sum.elim (fun (s : Int32 × Int32 × Int32 × KH) pc ls st hh => pc = 8 ∧ ls = [(0, .ref v0), (1, .ref v1), (3, .int s.1), (4, .int s.2.1), (5, .int s.2.2.1)] ∧ st = [] ∧ hh = s.2.2.2) (E_iX7_learn_l8 v0 v1)
def f_iX7_learn_b100 (h : KH) (v0 : Nat) (v1 : Nat) (v3 : Int32) (v4 : Int32) (v5 : Int32) : Option ((Int32 × Int32 × Int32 × KH) ⊕ (KH)) :=
  kl (v5 + (1 : Int32)) fun x1 =>
  some (.inl (v3, v4, x1, h))
set_option maxHeartbeats 4000000 in
set_option maxRecDepth 100000 in
theorem s_iX7_learn_b100 {xs : Nat → Int32} {L : Nat} (h : KH) (v0 : Nat) (v1 : Nat) (v3 : Int32) (v4 : Int32) (v5 : Int32) {t : (Int32 × Int32 × Int32 × KH) ⊕ (KH)} (H : f_iX7_learn_b100 h v0 v1 v3 v4 v5 = some t) : KX (KZs xs L) RX7 cX7_learn 6 false 6 (B_iX7_learn_l8 v0 v1 t) 100 [(0, .ref v0), (1, .ref v1), (3, .int v3), (4, .int v4), (5, .int v5)] [] h := by
  unfold f_iX7_learn_b100 at H
  replace H := kle H; obtain ⟨x1, q2, H⟩ := H
  refine x_iinc (q := 103) (i := 5) (ls2 := [(5, .int x1), (0, .ref v0), (1, .ref v1), (3, .int v3), (4, .int v4)]) dX7_learn_100 rfl rfl (by decide) (by rw [q2]; rfl) ?_
  refine x_goto dX7_learn_103 (q := 8) (by decide) ?_
  cases H
  refine x_sub (ls2 := [(0, .ref v0), (1, .ref v1), (3, .int v3), (4, .int v4), (5, .int x1)]) [1, 2, 3, 4, 0] rfl ?_
  exact x_end (x_cfg rfl)
def f_iX7_learn_b77 (h : KH) (v0 : Nat) (v1 : Nat) (v3 : Int32) (v4 : Int32) (v5 : Int32) : Option ((Int32 × Int32 × Int32 × KH) ⊕ (KH)) :=
  if (kkind v0 = 7 ∧ v0 < h.1) then if (kR h v0 1) < 999999 then if (kkind (kR h v0 1) = 20 ∧ (kR h v0 1) < h.1) then if (v3 < 0 ∨ klen (kR h v0 1) ≤ (v3).toNatClampNeg) then none else kb (f_iX7_filledUp h (kI h (kR h v0 1) ((v3).toNatClampNeg)) v4) fun r5 =>
  kl (ksI h (kR h v0 1) ((v3).toNatClampNeg) r5) fun h8 =>
  kl (v3 + (1 : Int32)) fun x10 =>
  f_iX7_learn_b100 h8 v0 v1 x10 (0 : Int32) v5 else none else none else none
set_option maxHeartbeats 4000000 in
set_option maxRecDepth 100000 in
theorem s_iX7_learn_b77 {xs : Nat → Int32} {L : Nat} (h : KH) (v0 : Nat) (v1 : Nat) (v3 : Int32) (v4 : Int32) (v5 : Int32) {t : (Int32 × Int32 × Int32 × KH) ⊕ (KH)} (H : f_iX7_learn_b77 h v0 v1 v3 v4 v5 = some t) : KX (KZs xs L) RX7 cX7_learn 6 false 6 (B_iX7_learn_l8 v0 v1 t) 77 [(0, .ref v0), (1, .ref v1), (3, .int v3), (4, .int v4), (5, .int v5)] [] h := by
  unfold f_iX7_learn_b77 at H
  refine x_aload_n (q := 78) dX7_learn_77 rfl rfl ?_
  replace H := kif H; obtain ⟨g1, H⟩ := H
  replace H := kif H; obtain ⟨g2, H⟩ := H
  refine x_getR (q := 81) dX7_learn_78 rfl kl_RX7_9 rfl g1 g2 ?_
  refine x_iload_n (q := 82) dX7_learn_81 rfl rfl ?_
  refine x_aload_n (q := 83) dX7_learn_82 rfl rfl ?_
  refine x_getR (q := 86) dX7_learn_83 rfl kl_RX7_9 rfl g1 g2 ?_
  refine x_iload_n (q := 87) dX7_learn_86 rfl rfl ?_
  replace H := kif H; obtain ⟨g3, H⟩ := H
  replace H := kifn H; obtain ⟨g4, H⟩ := H
  refine x_iald (q := 88) dX7_learn_87 rfl g3 g4 ?_
  refine x_iload (q := 90) dX7_learn_88 rfl rfl ?_
  replace H := kbe H; obtain ⟨r5, c6, H⟩ := H
  have m7 := s_iX7_filledUp (xs := xs) (L := L) h (kI h (kR h v0 1) ((v3).toNatClampNeg)) v4  c6
  refine x_callS (q := 93) (as := [.int (kI h (kR h v0 1) ((v3).toNatClampNeg)), .int v4]) (rest := [.int v3, .ref (kR h v0 1)]) dX7_learn_90 rfl kc_RX7_63 kh_X7_filledUp (by decide) (Nat.le_of_ble_eq_true rfl) m7 ?_
  replace H := kle H; obtain ⟨h8, q9, H⟩ := H
  refine x_iast (q := 94) dX7_learn_93 rfl g3 g4 ?_
  refine x_nmH q9 ?_
  replace H := kle H; obtain ⟨x10, q11, H⟩ := H
  refine x_iinc (q := 97) (i := 3) (ls2 := [(3, .int x10), (0, .ref v0), (1, .ref v1), (4, .int v4), (5, .int v5)]) dX7_learn_94 rfl rfl (by decide) (by rw [q11]; rfl) ?_
  refine x_iconst (q := 98) (v := (0 : Int32)) dX7_learn_97 rfl (by decide) ?_
  refine x_istore (q := 100) (i := 4) (ls2 := [(4, .int (0 : Int32)), (3, .int x10), (0, .ref v0), (1, .ref v1), (5, .int v5)]) dX7_learn_98 rfl (by decide) rfl ?_
  refine x_sub (ls2 := [(0, .ref v0), (1, .ref v1), (3, .int x10), (4, .int (0 : Int32)), (5, .int v5)]) [2, 3, 1, 0, 4] rfl ?_
  exact s_iX7_learn_b100 h8 v0 v1 x10 (0 : Int32) v5  H
def f_iX7_learn_l8 (v0 : Nat) (v1 : Nat) (s : Int32 × Int32 × Int32 × KH) : Option ((Int32 × Int32 × Int32 × KH) ⊕ (KH)) :=
  kb (f_strlen v1) fun r1 =>
  if r1 < s.2.2.1 then
  some (.inr s.2.2.2)
  else
  if (kkind v0 = 7 ∧ v0 < s.2.2.2.1) then if (kR s.2.2.2 v0 1) < 999999 then if (kkind (kR s.2.2.2 v0 1) = 20 ∧ (kR s.2.2.2 v0 1) < s.2.2.2.1) then if (Int32.ofNat (klen (kR s.2.2.2 v0 1))) ≤ s.1 then
  some (.inr s.2.2.2)
  else
  kb (f_strlen v1) fun r8 =>
  if r8 ≤ s.2.2.1 then
  f_iX7_learn_b77 s.2.2.2 v0 v1 s.1 s.2.1 s.2.2.1
  else
  kb (f_strchar v1 s.2.2.1) fun r11 =>
  if r11 = (32 : Int32) then
  f_iX7_learn_b77 s.2.2.2 v0 v1 s.1 s.2.1 s.2.2.1
  else
  if (s.1 < 0 ∨ klen (kR s.2.2.2 v0 1) ≤ (s.1).toNatClampNeg) then none else kb (f_strchar v1 s.2.2.1) fun r15 =>
  kb (f_iX7_letterOf s.2.2.2 r15) fun r17 =>
  kl (ksI s.2.2.2 (kR s.2.2.2 v0 1) ((s.1).toNatClampNeg) (((kI s.2.2.2 (kR s.2.2.2 v0 1) ((s.1).toNatClampNeg)) * (27 : Int32)) + r17)) fun h20 =>
  kl (s.2.1 + (1 : Int32)) fun x22 =>
  f_iX7_learn_b100 h20 v0 v1 s.1 x22 s.2.2.1 else none else none else none
set_option maxHeartbeats 4000000 in
set_option maxRecDepth 100000 in
theorem s_iX7_learn_l8 {xs : Nat → Int32} {L : Nat} (v0 : Nat) (v1 : Nat) (s : Int32 × Int32 × Int32 × KH) (t : (Int32 × Int32 × Int32 × KH) ⊕ (KH)) (H : f_iX7_learn_l8 v0 v1 s = some t) : KX (KZs xs L) RX7 cX7_learn 6 false 6 (B_iX7_learn_l8 v0 v1 t) 8 [(0, .ref v0), (1, .ref v1), (3, .int s.1), (4, .int s.2.1), (5, .int s.2.2.1)] [] s.2.2.2 := by
  unfold f_iX7_learn_l8 at H
  refine x_iload (q := 10) dX7_learn_8 rfl rfl ?_
  refine x_aload_n (q := 11) dX7_learn_10 rfl rfl ?_
  replace H := kbe H; obtain ⟨r1, c2, H⟩ := H
  refine x_callVX (q := 14) (as := []) (rest := [.int s.2.2.1]) dX7_learn_11 rfl kc_RX7_49 kh_J0_length_8abf5 (by decide) (Nat.le_of_ble_eq_true rfl) (s_strlen v1 s.2.2.2 c2) (kz_recvL v1 c2) ?_
  replace H := kite H; rcases H with ⟨g3, H⟩ | ⟨g3, H⟩
  · refine x_icmp_gt_t dX7_learn_14 (q := 106) (by decide) g3 ?_
    cases H
    refine x_sub (ls2 := []) [] rfl ?_
    exact x_end (x_cfg rfl)
  · refine x_icmp_gt_f (q := 17) dX7_learn_14 (t := 106) (by decide) rfl g3 ?_
    refine x_iload_n (q := 18) dX7_learn_17 rfl rfl ?_
    refine x_aload_n (q := 19) dX7_learn_18 rfl rfl ?_
    replace H := kif H; obtain ⟨g4, H⟩ := H
    replace H := kif H; obtain ⟨g5, H⟩ := H
    refine x_getR (q := 22) dX7_learn_19 rfl kl_RX7_9 rfl g4 g5 ?_
    replace H := kif H; obtain ⟨g6, H⟩ := H
    refine x_alen (q := 23) dX7_learn_22 rfl (by decide) g6 ?_
    replace H := kite H; rcases H with ⟨g7, H⟩ | ⟨g7, H⟩
    · refine x_icmp_ge_t dX7_learn_23 (q := 106) (by decide) g7 ?_
      cases H
      refine x_sub (ls2 := []) [] rfl ?_
      exact x_end (x_cfg rfl)
    · refine x_icmp_ge_f (q := 26) dX7_learn_23 (t := 106) (by decide) rfl g7 ?_
      refine x_iload (q := 28) dX7_learn_26 rfl rfl ?_
      refine x_aload_n (q := 29) dX7_learn_28 rfl rfl ?_
      replace H := kbe H; obtain ⟨r8, c9, H⟩ := H
      refine x_callVX (q := 32) (as := []) (rest := [.int s.2.2.1]) dX7_learn_29 rfl kc_RX7_49 kh_J0_length_8abf5 (by decide) (Nat.le_of_ble_eq_true rfl) (s_strlen v1 s.2.2.2 c9) (kz_recvL v1 c9) ?_
      replace H := kite H; rcases H with ⟨g10, H⟩ | ⟨g10, H⟩
      · refine x_icmp_ge_t dX7_learn_32 (q := 77) (by decide) g10 ?_
        refine x_sub (ls2 := [(0, .ref v0), (1, .ref v1), (3, .int s.1), (4, .int s.2.1), (5, .int s.2.2.1)]) [0, 1, 2, 3, 4] rfl ?_
        exact s_iX7_learn_b77 s.2.2.2 v0 v1 s.1 s.2.1 s.2.2.1  H
      · refine x_icmp_ge_f (q := 35) dX7_learn_32 (t := 77) (by decide) rfl g10 ?_
        refine x_aload_n (q := 36) dX7_learn_35 rfl rfl ?_
        refine x_iload (q := 38) dX7_learn_36 rfl rfl ?_
        replace H := kbe H; obtain ⟨r11, c12, H⟩ := H
        refine x_callVX (q := 41) (as := [.int s.2.2.1]) (rest := []) dX7_learn_38 rfl kc_RX7_55 kh_J0_charAt_5068e (by decide) (Nat.le_of_ble_eq_true rfl) (s_strchar v1 s.2.2.1 s.2.2.2 c12) (kz_recvC v1 s.2.2.1 c12) ?_
        refine x_bipush (q := 43) (v := (32 : Int32)) dX7_learn_41 rfl (by decide) ?_
        replace H := kite H; rcases H with ⟨g13, H⟩ | ⟨g13, H⟩
        · refine x_icmp_eq_t dX7_learn_43 (q := 77) (by decide) g13 ?_
          refine x_sub (ls2 := [(0, .ref v0), (1, .ref v1), (3, .int s.1), (4, .int s.2.1), (5, .int s.2.2.1)]) [0, 1, 2, 3, 4] rfl ?_
          exact s_iX7_learn_b77 s.2.2.2 v0 v1 s.1 s.2.1 s.2.2.1  H
        · refine x_icmp_eq_f (q := 46) dX7_learn_43 (t := 77) (by decide) rfl g13 ?_
          refine x_aload_n (q := 47) dX7_learn_46 rfl rfl ?_
          refine x_getR (q := 50) dX7_learn_47 rfl kl_RX7_9 rfl g4 g5 ?_
          refine x_iload_n (q := 51) dX7_learn_50 rfl rfl ?_
          refine x_aload_n (q := 52) dX7_learn_51 rfl rfl ?_
          refine x_getR (q := 55) dX7_learn_52 rfl kl_RX7_9 rfl g4 g5 ?_
          refine x_iload_n (q := 56) dX7_learn_55 rfl rfl ?_
          replace H := kifn H; obtain ⟨g14, H⟩ := H
          refine x_iald (q := 57) dX7_learn_56 rfl g6 g14 ?_
          refine x_bipush (q := 59) (v := (27 : Int32)) dX7_learn_57 rfl (by decide) ?_
          refine x_imul (q := 60) dX7_learn_59 rfl ?_
          refine x_aload_n (q := 61) dX7_learn_60 rfl rfl ?_
          refine x_iload (q := 63) dX7_learn_61 rfl rfl ?_
          replace H := kbe H; obtain ⟨r15, c16, H⟩ := H
          refine x_callVX (q := 66) (as := [.int s.2.2.1]) (rest := [.int ((kI s.2.2.2 (kR s.2.2.2 v0 1) ((s.1).toNatClampNeg)) * (27 : Int32)), .int s.1, .ref (kR s.2.2.2 v0 1)]) dX7_learn_63 rfl kc_RX7_55 kh_J0_charAt_5068e (by decide) (Nat.le_of_ble_eq_true rfl) (s_strchar v1 s.2.2.1 s.2.2.2 c16) (kz_recvC v1 s.2.2.1 c16) ?_
          replace H := kbe H; obtain ⟨r17, c18, H⟩ := H
          have m19 := s_iX7_letterOf (xs := xs) (L := L) s.2.2.2 r15  c18
          refine x_callS (q := 69) (as := [.int r15]) (rest := [.int ((kI s.2.2.2 (kR s.2.2.2 v0 1) ((s.1).toNatClampNeg)) * (27 : Int32)), .int s.1, .ref (kR s.2.2.2 v0 1)]) dX7_learn_66 rfl kc_RX7_59 kh_X7_letterOf (by decide) (Nat.le_of_ble_eq_true rfl) m19 ?_
          refine x_iadd (q := 70) dX7_learn_69 rfl ?_
          replace H := kle H; obtain ⟨h20, q21, H⟩ := H
          refine x_iast (q := 71) dX7_learn_70 rfl g6 g14 ?_
          refine x_nmH q21 ?_
          replace H := kle H; obtain ⟨x22, q23, H⟩ := H
          refine x_iinc (q := 74) (i := 4) (ls2 := [(4, .int x22), (0, .ref v0), (1, .ref v1), (3, .int s.1), (5, .int s.2.2.1)]) dX7_learn_71 rfl rfl (by decide) (by rw [q23]; rfl) ?_
          refine x_goto dX7_learn_74 (q := 100) (by decide) ?_
          refine x_sub (ls2 := [(0, .ref v0), (1, .ref v1), (3, .int s.1), (4, .int x22), (5, .int s.2.2.1)]) [1, 2, 3, 0, 4] rfl ?_
          exact s_iX7_learn_b100 h20 v0 v1 s.1 x22 s.2.2.1  H
theorem sl_iX7_learn_l8 {xs : Nat → Int32} {L : Nat} (v0 : Nat) (v1 : Nat) (n : Nat) (s : Int32 × Int32 × Int32 × KH) (r : KH) (H : kloop (f_iX7_learn_l8 v0 v1) n s = some r) : KX (KZs xs L) RX7 cX7_learn 6 false 6 (E_iX7_learn_l8 v0 v1 r) 8 [(0, .ref v0), (1, .ref v1), (3, .int s.1), (4, .int s.2.1), (5, .int s.2.2.1)] [] s.2.2.2 :=
  k_loopc (ls := (fun (s : Int32 × Int32 × Int32 × KH) => ([(0, .ref v0), (1, .ref v1), (3, .int s.1), (4, .int s.2.1), (5, .int s.2.2.1)] : List (Nat × Value)))) (hp := (fun (s : Int32 × Int32 × Int32 × KH) => (s.2.2.2 : KH))) (G := E_iX7_learn_l8 v0 v1) (fun s t H => s_iX7_learn_l8 v0 v1 s t H) n s r H
set_option maxHeartbeats 8000000 in
set_option maxRecDepth 100000 in
def f_iX7_learn (h : KH) (v0 : Nat) (v1 : Nat) (v2 : Int32) : Option (KH) :=
  kb (kloop (f_iX7_learn_l8 v0 v1) KF (v2, (0 : Int32), (0 : Int32), h)) fun e1 =>
  some e1
set_option maxHeartbeats 8000000 in
set_option maxRecDepth 100000 in
theorem s0_iX7_learn {xs : Nat → Int32} {L : Nat} (h : KH) (v0 : Nat) (v1 : Nat) (v2 : Int32) {t : KH} (H : f_iX7_learn h v0 v1 v2 = some t) : KX (KZs xs L) RX7 cX7_learn 6 false 6 (KRv cX7_learn t) 0 [(0, .ref v0), (1, .ref v1), (2, .int v2)] [] h := by
  unfold f_iX7_learn at H
  refine x_iload_n (q := 1) dX7_learn_0 rfl rfl ?_
  refine x_istore_n (q := 2) (i := 3) (ls2 := [(3, .int v2), (0, .ref v0), (1, .ref v1), (2, .int v2)]) dX7_learn_1 rfl rfl (by decide) rfl ?_
  refine x_iconst (q := 3) (v := (0 : Int32)) dX7_learn_2 rfl (by decide) ?_
  refine x_istore (q := 5) (i := 4) (ls2 := [(4, .int (0 : Int32)), (3, .int v2), (0, .ref v0), (1, .ref v1), (2, .int v2)]) dX7_learn_3 rfl (by decide) rfl ?_
  refine x_iconst (q := 6) (v := (0 : Int32)) dX7_learn_5 rfl (by decide) ?_
  refine x_istore (q := 8) (i := 5) (ls2 := [(5, .int (0 : Int32)), (4, .int (0 : Int32)), (3, .int v2), (0, .ref v0), (1, .ref v1), (2, .int v2)]) dX7_learn_6 rfl (by decide) rfl ?_
  refine x_sub (ls2 := [(0, .ref v0), (1, .ref v1), (3, .int v2), (4, .int (0 : Int32)), (5, .int (0 : Int32))]) [3, 4, 2, 1, 0] rfl ?_
  replace H := kbe H; obtain ⟨e1, c2, H⟩ := H
  refine x_app (sl_iX7_learn_l8 v0 v1 KF (v2, (0 : Int32), (0 : Int32), h) e1  c2) fun pc2 ls2 st2 h2 hg m3 => ?_
  obtain ⟨rfl, rfl, rfl, rfl⟩ := hg
  cases H
  exact x_end ⟨dX7_learn_106, rfl, rfl⟩
theorem s_iX7_learn {xs : Nat → Int32} {L : Nat} (h : KH) (v0 : Nat) (v1 : Nat) (v2 : Int32) {t : KH} (H : f_iX7_learn h v0 v1 v2 = some t) : KM (KZs xs L) yX7_learn cX7_learn 6 none 6 [.ref v0, .ref v1, .int v2] h none t :=
  kx_v (own := RX7) (ini := false) (by decide +kernel) (by decide +kernel) rfl (Nat.le_of_ble_eq_true rfl) (s0_iX7_learn h v0 v1 v2 H)
theorem dX7_init_0 : decode cX7_init 0 = .ok (.aload_n 0, 1) := by decide +kernel
theorem dX7_init_1 : decode cX7_init 1 = .ok (.invokespecial 3, 3) := by decide +kernel
theorem dX7_init_4 : decode cX7_init 4 = .ok (.aload_n 0, 1) := by decide +kernel
theorem dX7_init_5 : decode cX7_init 5 = .ok (.bipush 27, 2) := by decide +kernel
theorem dX7_init_7 : decode cX7_init 7 = .ok (.newarray .int, 2) := by decide +kernel
theorem dX7_init_9 : decode cX7_init 9 = .ok (.putfield 9, 3) := by decide +kernel
theorem dX7_init_12 : decode cX7_init 12 = .ok (.aload_n 0, 1) := by decide +kernel
theorem dX7_init_13 : decode cX7_init 13 = .ok (.iconst 0, 1) := by decide +kernel
theorem dX7_init_14 : decode cX7_init 14 = .ok (.putfield 15, 3) := by decide +kernel
theorem dX7_init_17 : decode cX7_init 17 = .ok (.aload_n 0, 1) := by decide +kernel
theorem dX7_init_18 : decode cX7_init 18 = .ok (.iconst 0, 1) := by decide +kernel
theorem dX7_init_19 : decode cX7_init 19 = .ok (.putfield 19, 3) := by decide +kernel
theorem dX7_init_22 : decode cX7_init 22 = .ok (.aload_n 0, 1) := by decide +kernel
theorem dX7_init_23 : decode cX7_init 23 = .ok (.iconst 0, 1) := by decide +kernel
theorem dX7_init_24 : decode cX7_init 24 = .ok (.putfield 22, 3) := by decide +kernel
theorem dX7_init_27 : decode cX7_init 27 = .ok (.aload_n 0, 1) := by decide +kernel
theorem dX7_init_28 : decode cX7_init 28 = .ok (.iconst 0, 1) := by decide +kernel
theorem dX7_init_29 : decode cX7_init 29 = .ok (.putfield 25, 3) := by decide +kernel
theorem dX7_init_32 : decode cX7_init 32 = .ok (.aload_n 0, 1) := by decide +kernel
theorem dX7_init_33 : decode cX7_init 33 = .ok (.iconst 0, 1) := by decide +kernel
theorem dX7_init_34 : decode cX7_init 34 = .ok (.putfield 28, 3) := by decide +kernel
theorem dX7_init_37 : decode cX7_init 37 = .ok (.aload_n 0, 1) := by decide +kernel
theorem dX7_init_38 : decode cX7_init 38 = .ok (.iconst 0, 1) := by decide +kernel
theorem dX7_init_39 : decode cX7_init 39 = .ok (.putfield 31, 3) := by decide +kernel
theorem dX7_init_42 : decode cX7_init 42 = .ok (.aload_n 0, 1) := by decide +kernel
theorem dX7_init_43 : decode cX7_init 43 = .ok (.iconst (-1), 1) := by decide +kernel
theorem dX7_init_44 : decode cX7_init 44 = .ok (.putfield 34, 3) := by decide +kernel
theorem dX7_init_47 : decode cX7_init 47 = .ok (.aload_n 0, 1) := by decide +kernel
theorem dX7_init_48 : decode cX7_init 48 = .ok (.aload_n 1, 1) := by decide +kernel
theorem dX7_init_49 : decode cX7_init 49 = .ok (.putfield 37, 3) := by decide +kernel
theorem dX7_init_52 : decode cX7_init 52 = .ok (.aload_n 0, 1) := by decide +kernel
theorem dX7_init_53 : decode cX7_init 53 = .ok (.ldc 41, 2) := by decide +kernel
theorem dX7_init_55 : decode cX7_init 55 = .ok (.iconst 0, 1) := by decide +kernel
theorem dX7_init_56 : decode cX7_init 56 = .ok (.invokevirtual 43, 3) := by decide +kernel
theorem dX7_init_59 : decode cX7_init 59 = .ok (.aload_n 0, 1) := by decide +kernel
theorem dX7_init_60 : decode cX7_init 60 = .ok (.ldc 47, 2) := by decide +kernel
theorem dX7_init_62 : decode cX7_init 62 = .ok (.bipush 22, 2) := by decide +kernel
theorem dX7_init_64 : decode cX7_init 64 = .ok (.invokevirtual 43, 3) := by decide +kernel
theorem dX7_init_67 : decode cX7_init 67 = .ok (.return_, 1) := by decide +kernel
theorem ko_RX7_3 : Cond.methodLink RX7 3 Lib.objectInit ∈ ktG ∧ Cond.instanceMethod Lib.objectInit ∈ ktG ∧ Cond.code Lib.objectInit ⟨#[0xb1]⟩ 1 none ∈ ktG := ⟨kwm 215 (by decide +kernel) (by decide +kernel), kwm 150 (by decide +kernel) (by decide +kernel), kwm 151 (by decide +kernel) (by decide +kernel)⟩
theorem kc_RX7_43 : Cond.methodLink RX7 43 yX7_learn ∈ ktG ∧ (Cond.instanceMethod yX7_learn ∈ ktG ∧ Cond.selects yX7_learn.cls yX7_learn yX7_learn ∈ ktG) ∧ Cond.initialized yX7_learn.cls ∈ ktG ∧ Cond.code yX7_learn cX7_learn 6 none ∈ ktG := ⟨(kwm 217 (by decide +kernel) (by decide +kernel)), ⟨(kwm 219 (by decide +kernel) (by decide +kernel)), (kwm 0 (by decide +kernel) (by decide +kernel))⟩, (kwm 127 (by decide +kernel) (by decide +kernel)), kwm 220 (by decide +kernel) (by decide +kernel)⟩
theorem kh_X7_learn : yX7_learn.cls ≠ "java/lang/invoke/MethodHandle" ∧ yX7_learn.cls ≠ "java/lang/invoke/VarHandle" ∧ (parseMethodDescriptor yX7_learn.desc).map (fun d => d.parameters.length) = some 2 := by decide +kernel
set_option maxHeartbeats 8000000 in
set_option maxRecDepth 100000 in
def f_iX7_init (h : KH) (v0 : Nat) (v1 : Nat) : Option (KH) :=
  if (kkind h.1 = 20 ∧ klen h.1 = ((27 : Int32)).toNatClampNeg ∧ ¬ (27 : Int32) < 0 ∧ klen h.1 ≤ 9000) then kl (knew h) fun h2 =>
  if (kkind v0 = 7 ∧ v0 < h2.1) then if h.1 < 999999 then kl (ksR h2 v0 1 h.1) fun h6 =>
  if (kkind v0 = 7 ∧ v0 < h6.1) then kl (ksI h6 v0 2 (0 : Int32)) fun h9 =>
  if (kkind v0 = 7 ∧ v0 < h9.1) then kl (ksI h9 v0 3 (0 : Int32)) fun h12 =>
  if (kkind v0 = 7 ∧ v0 < h12.1) then kl (ksI h12 v0 4 (0 : Int32)) fun h15 =>
  if (kkind v0 = 7 ∧ v0 < h15.1) then kl (ksI h15 v0 5 (0 : Int32)) fun h18 =>
  if (kkind v0 = 7 ∧ v0 < h18.1) then kl (ksI h18 v0 6 (0 : Int32)) fun h21 =>
  if (kkind v0 = 7 ∧ v0 < h21.1) then kl (ksI h21 v0 7 (0 : Int32)) fun h24 =>
  if (kkind v0 = 7 ∧ v0 < h24.1) then kl (ksI h24 v0 8 (-1 : Int32)) fun h27 =>
  if (kkind v0 = 7 ∧ v0 < h27.1) then if v1 < 999999 then kl (ksR h27 v0 0 v1) fun h31 =>
  if (kkind v0 = 7 ∧ v0 < h31.1) then kb (f_iX7_learn h31 v0 (klab 0) (0 : Int32)) fun r34 =>
  if (kkind v0 = 7 ∧ v0 < r34.1) then kb (f_iX7_learn r34 v0 (klab 1) (22 : Int32)) fun r39 =>
  some r39 else none else none else none else none else none else none else none else none else none else none else none else none else none else none
set_option maxHeartbeats 8000000 in
set_option maxRecDepth 100000 in
theorem s0_iX7_init {xs : Nat → Int32} {L : Nat} (h : KH) (v0 : Nat) (v1 : Nat) {t : KH} (H : f_iX7_init h v0 v1 = some t) : KX (KZs xs L) RX7 cX7_init 2 true 7 (KRv cX7_init t) 0 [(0, .ref v0), (1, .ref v1)] [] h := by
  unfold f_iX7_init at H
  refine x_aload_n (q := 1) dX7_init_0 rfl rfl ?_
  refine x_objInit (q := 4) (rest := []) dX7_init_1 rfl ko_RX7_3 (by decide) (Nat.le_of_ble_eq_true rfl) ?_
  refine x_aload_n (q := 5) dX7_init_4 rfl rfl ?_
  refine x_bipush (q := 7) (v := (27 : Int32)) dX7_init_5 rfl (by decide) ?_
  replace H := kif H; obtain ⟨g1, H⟩ := H
  replace H := kle H; obtain ⟨h2, q3, H⟩ := H
  refine x_newa (q := 9) (kk := 20) dX7_init_7 rfl (Or.inl ⟨rfl, rfl⟩) kwa_int g1 ?_
  refine x_nmH q3 ?_
  replace H := kif H; obtain ⟨g4, H⟩ := H
  replace H := kif H; obtain ⟨g5, H⟩ := H
  replace H := kle H; obtain ⟨h6, q7, H⟩ := H
  refine x_putR (q := 12) dX7_init_9 rfl kl_RX7_9 (Or.inr ⟨rfl, rfl⟩) rfl g5 g4 ?_
  refine x_nmH q7 ?_
  refine x_aload_n (q := 13) dX7_init_12 rfl rfl ?_
  refine x_iconst (q := 14) (v := (0 : Int32)) dX7_init_13 rfl (by decide) ?_
  replace H := kif H; obtain ⟨g8, H⟩ := H
  replace H := kle H; obtain ⟨h9, q10, H⟩ := H
  refine x_putI (q := 17) dX7_init_14 rfl kl_RX7_15 (Or.inl rfl) rfl g8 ?_
  refine x_nmH q10 ?_
  refine x_aload_n (q := 18) dX7_init_17 rfl rfl ?_
  refine x_iconst (q := 19) (v := (0 : Int32)) dX7_init_18 rfl (by decide) ?_
  replace H := kif H; obtain ⟨g11, H⟩ := H
  replace H := kle H; obtain ⟨h12, q13, H⟩ := H
  refine x_putI (q := 22) dX7_init_19 rfl kl_RX7_19 (Or.inl rfl) rfl g11 ?_
  refine x_nmH q13 ?_
  refine x_aload_n (q := 23) dX7_init_22 rfl rfl ?_
  refine x_iconst (q := 24) (v := (0 : Int32)) dX7_init_23 rfl (by decide) ?_
  replace H := kif H; obtain ⟨g14, H⟩ := H
  replace H := kle H; obtain ⟨h15, q16, H⟩ := H
  refine x_putI (q := 27) dX7_init_24 rfl kl_RX7_22 (Or.inl rfl) rfl g14 ?_
  refine x_nmH q16 ?_
  refine x_aload_n (q := 28) dX7_init_27 rfl rfl ?_
  refine x_iconst (q := 29) (v := (0 : Int32)) dX7_init_28 rfl (by decide) ?_
  replace H := kif H; obtain ⟨g17, H⟩ := H
  replace H := kle H; obtain ⟨h18, q19, H⟩ := H
  refine x_putI (q := 32) dX7_init_29 rfl kl_RX7_25 (Or.inl rfl) rfl g17 ?_
  refine x_nmH q19 ?_
  refine x_aload_n (q := 33) dX7_init_32 rfl rfl ?_
  refine x_iconst (q := 34) (v := (0 : Int32)) dX7_init_33 rfl (by decide) ?_
  replace H := kif H; obtain ⟨g20, H⟩ := H
  replace H := kle H; obtain ⟨h21, q22, H⟩ := H
  refine x_putI (q := 37) dX7_init_34 rfl kl_RX7_28 (Or.inl rfl) rfl g20 ?_
  refine x_nmH q22 ?_
  refine x_aload_n (q := 38) dX7_init_37 rfl rfl ?_
  refine x_iconst (q := 39) (v := (0 : Int32)) dX7_init_38 rfl (by decide) ?_
  replace H := kif H; obtain ⟨g23, H⟩ := H
  replace H := kle H; obtain ⟨h24, q25, H⟩ := H
  refine x_putI (q := 42) dX7_init_39 rfl kl_RX7_31 (Or.inl rfl) rfl g23 ?_
  refine x_nmH q25 ?_
  refine x_aload_n (q := 43) dX7_init_42 rfl rfl ?_
  refine x_iconst (q := 44) (v := (-1 : Int32)) dX7_init_43 rfl (by decide) ?_
  replace H := kif H; obtain ⟨g26, H⟩ := H
  replace H := kle H; obtain ⟨h27, q28, H⟩ := H
  refine x_putI (q := 47) dX7_init_44 rfl kl_RX7_34 (Or.inl rfl) rfl g26 ?_
  refine x_nmH q28 ?_
  refine x_aload_n (q := 48) dX7_init_47 rfl rfl ?_
  refine x_aload_n (q := 49) dX7_init_48 rfl rfl ?_
  replace H := kif H; obtain ⟨g29, H⟩ := H
  replace H := kif H; obtain ⟨g30, H⟩ := H
  replace H := kle H; obtain ⟨h31, q32, H⟩ := H
  refine x_putR (q := 52) dX7_init_49 rfl kl_RX7_37 (Or.inr ⟨rfl, rfl⟩) rfl g30 g29 ?_
  refine x_nmH q32 ?_
  refine x_aload_n (q := 53) dX7_init_52 rfl rfl ?_
  refine x_ldcS (q := 55) (lab := klab 0) dX7_init_53 rfl (klab_x 0) (fun base sA U hZ => hZ.2.1.1) ?_
  refine x_iconst (q := 56) (v := (0 : Int32)) dX7_init_55 rfl (by decide) ?_
  replace H := kif H; obtain ⟨g33, H⟩ := H
  replace H := kbe H; obtain ⟨r34, c35, H⟩ := H
  have m36 := s_iX7_learn (xs := xs) (L := L) h31 v0 (klab 0) (0 : Int32)  c35
  refine x_callV (q := 59) (as := [.ref (klab 0), .int (0 : Int32)]) (rest := []) dX7_init_56 rfl kc_RX7_43 kh_X7_learn (by decide) (Nat.le_of_ble_eq_true rfl) m36 (ci := 7) (by exact ⟨rfl, by decide⟩) g33 ?_
  refine x_aload_n (q := 60) dX7_init_59 rfl rfl ?_
  refine x_ldcS (q := 62) (lab := klab 1) dX7_init_60 rfl (klab_x 1) (fun base sA U hZ => hZ.2.1.2) ?_
  refine x_bipush (q := 64) (v := (22 : Int32)) dX7_init_62 rfl (by decide) ?_
  replace H := kif H; obtain ⟨g38, H⟩ := H
  replace H := kbe H; obtain ⟨r39, c40, H⟩ := H
  have m41 := s_iX7_learn (xs := xs) (L := L) r34 v0 (klab 1) (22 : Int32)  c40
  refine x_callV (q := 67) (as := [.ref (klab 1), .int (22 : Int32)]) (rest := []) dX7_init_64 rfl kc_RX7_43 kh_X7_learn (by decide) (Nat.le_of_ble_eq_true rfl) m41 (ci := 7) (by exact ⟨rfl, by decide⟩) g38 ?_
  cases H
  exact x_end ⟨dX7_init_67, rfl, rfl⟩
theorem s_iX7_init {xs : Nat → Int32} {L : Nat} (h : KH) (v0 : Nat) (v1 : Nat) {t : KH} (H : f_iX7_init h v0 v1 = some t) : KM (KZs xs L) yX7_init cX7_init 2 none 7 [.ref v0, .ref v1] h none t :=
  kx_v (own := RX7) (ini := true) (by decide +kernel) (by decide +kernel) rfl (Nat.le_of_ble_eq_true rfl) (s0_iX7_init h v0 v1 H)
theorem dX4_init_0 : decode cX4_init 0 = .ok (.aload_n 0, 1) := by decide +kernel
theorem dX4_init_1 : decode cX4_init 1 = .ok (.invokespecial 3, 3) := by decide +kernel
theorem dX4_init_4 : decode cX4_init 4 = .ok (.aload_n 0, 1) := by decide +kernel
theorem dX4_init_5 : decode cX4_init 5 = .ok (.iconst 0, 1) := by decide +kernel
theorem dX4_init_6 : decode cX4_init 6 = .ok (.putfield 9, 3) := by decide +kernel
theorem dX4_init_9 : decode cX4_init 9 = .ok (.aload_n 0, 1) := by decide +kernel
theorem dX4_init_10 : decode cX4_init 10 = .ok (.aload_n 1, 1) := by decide +kernel
theorem dX4_init_11 : decode cX4_init 11 = .ok (.putfield 15, 3) := by decide +kernel
theorem dX4_init_14 : decode cX4_init 14 = .ok (.aload_n 0, 1) := by decide +kernel
theorem dX4_init_15 : decode cX4_init 15 = .ok (.aload_n 2, 1) := by decide +kernel
theorem dX4_init_16 : decode cX4_init 16 = .ok (.putfield 19, 3) := by decide +kernel
theorem dX4_init_19 : decode cX4_init 19 = .ok (.return_, 1) := by decide +kernel
theorem ko_RX4_3 : Cond.methodLink RX4 3 Lib.objectInit ∈ ktG ∧ Cond.instanceMethod Lib.objectInit ∈ ktG ∧ Cond.code Lib.objectInit ⟨#[0xb1]⟩ 1 none ∈ ktG := ⟨kwm 315 (by decide +kernel) (by decide +kernel), kwm 150 (by decide +kernel) (by decide +kernel), kwm 151 (by decide +kernel) (by decide +kernel)⟩
set_option maxHeartbeats 8000000 in
set_option maxRecDepth 100000 in
def f_iX4_init (h : KH) (v0 : Nat) (v1 : Nat) (v2 : Nat) : Option (KH) :=
  if (kkind v0 = 4 ∧ v0 < h.1) then kl (ksI h v0 2 (0 : Int32)) fun h2 =>
  if (kkind v0 = 4 ∧ v0 < h2.1) then if v1 < 999999 then kl (ksR h2 v0 0 v1) fun h6 =>
  if (kkind v0 = 4 ∧ v0 < h6.1) then if v2 < 999999 then kl (ksR h6 v0 1 v2) fun h10 =>
  some h10 else none else none else none else none else none
set_option maxHeartbeats 8000000 in
set_option maxRecDepth 100000 in
theorem s0_iX4_init {xs : Nat → Int32} {L : Nat} (h : KH) (v0 : Nat) (v1 : Nat) (v2 : Nat) {t : KH} (H : f_iX4_init h v0 v1 v2 = some t) : KX (KZs xs L) RX4 cX4_init 3 true 2 (KRv cX4_init t) 0 [(0, .ref v0), (1, .ref v1), (2, .ref v2)] [] h := by
  unfold f_iX4_init at H
  refine x_aload_n (q := 1) dX4_init_0 rfl rfl ?_
  refine x_objInit (q := 4) (rest := []) dX4_init_1 rfl ko_RX4_3 (by decide) (Nat.le_of_ble_eq_true rfl) ?_
  refine x_aload_n (q := 5) dX4_init_4 rfl rfl ?_
  refine x_iconst (q := 6) (v := (0 : Int32)) dX4_init_5 rfl (by decide) ?_
  replace H := kif H; obtain ⟨g1, H⟩ := H
  replace H := kle H; obtain ⟨h2, q3, H⟩ := H
  refine x_putZ (q := 9) dX4_init_6 rfl kl_RX4_9 (Or.inl rfl) rfl (by decide) g1 ?_
  refine x_nmH q3 ?_
  refine x_aload_n (q := 10) dX4_init_9 rfl rfl ?_
  refine x_aload_n (q := 11) dX4_init_10 rfl rfl ?_
  replace H := kif H; obtain ⟨g4, H⟩ := H
  replace H := kif H; obtain ⟨g5, H⟩ := H
  replace H := kle H; obtain ⟨h6, q7, H⟩ := H
  refine x_putR (q := 14) dX4_init_11 rfl kl_RX4_15 (Or.inr ⟨rfl, rfl⟩) rfl g5 g4 ?_
  refine x_nmH q7 ?_
  refine x_aload_n (q := 15) dX4_init_14 rfl rfl ?_
  refine x_aload_n (q := 16) dX4_init_15 rfl rfl ?_
  replace H := kif H; obtain ⟨g8, H⟩ := H
  replace H := kif H; obtain ⟨g9, H⟩ := H
  replace H := kle H; obtain ⟨h10, q11, H⟩ := H
  refine x_putR (q := 19) dX4_init_16 rfl kl_RX4_19 (Or.inl rfl) rfl g9 g8 ?_
  refine x_nmH q11 ?_
  cases H
  exact x_end ⟨dX4_init_19, rfl, rfl⟩
theorem s_iX4_init {xs : Nat → Int32} {L : Nat} (h : KH) (v0 : Nat) (v1 : Nat) (v2 : Nat) {t : KH} (H : f_iX4_init h v0 v1 v2 = some t) : KM (KZs xs L) yX4_init cX4_init 3 none 2 [.ref v0, .ref v1, .ref v2] h none t :=
  kx_v (own := RX4) (ini := true) (by decide +kernel) (by decide +kernel) rfl (Nat.le_of_ble_eq_true rfl) (s0_iX4_init h v0 v1 v2 H)
theorem dX3_init_0 : decode cX3_init 0 = .ok (.aload_n 0, 1) := by decide +kernel
theorem dX3_init_1 : decode cX3_init 1 = .ok (.invokespecial 3, 3) := by decide +kernel
theorem dX3_init_4 : decode cX3_init 4 = .ok (.aload_n 0, 1) := by decide +kernel
theorem dX3_init_5 : decode cX3_init 5 = .ok (.aload_n 1, 1) := by decide +kernel
theorem dX3_init_6 : decode cX3_init 6 = .ok (.putfield 9, 3) := by decide +kernel
theorem dX3_init_9 : decode cX3_init 9 = .ok (.aload_n 0, 1) := by decide +kernel
theorem dX3_init_10 : decode cX3_init 10 = .ok (.aload_n 2, 1) := by decide +kernel
theorem dX3_init_11 : decode cX3_init 11 = .ok (.putfield 15, 3) := by decide +kernel
theorem dX3_init_14 : decode cX3_init 14 = .ok (.return_, 1) := by decide +kernel
theorem ko_RX3_3 : Cond.methodLink RX3 3 Lib.objectInit ∈ ktG ∧ Cond.instanceMethod Lib.objectInit ∈ ktG ∧ Cond.code Lib.objectInit ⟨#[0xb1]⟩ 1 none ∈ ktG := ⟨kwm 331 (by decide +kernel) (by decide +kernel), kwm 150 (by decide +kernel) (by decide +kernel), kwm 151 (by decide +kernel) (by decide +kernel)⟩
set_option maxHeartbeats 8000000 in
set_option maxRecDepth 100000 in
def f_iX3_init (h : KH) (v0 : Nat) (v1 : Nat) (v2 : Nat) : Option (KH) :=
  if (kkind v0 = 3 ∧ v0 < h.1) then if v1 < 999999 then kl (ksR h v0 0 v1) fun h3 =>
  if (kkind v0 = 3 ∧ v0 < h3.1) then if v2 < 999999 then kl (ksR h3 v0 1 v2) fun h7 =>
  some h7 else none else none else none else none
set_option maxHeartbeats 8000000 in
set_option maxRecDepth 100000 in
theorem s0_iX3_init {xs : Nat → Int32} {L : Nat} (h : KH) (v0 : Nat) (v1 : Nat) (v2 : Nat) {t : KH} (H : f_iX3_init h v0 v1 v2 = some t) : KX (KZs xs L) RX3 cX3_init 3 true 2 (KRv cX3_init t) 0 [(0, .ref v0), (1, .ref v1), (2, .ref v2)] [] h := by
  unfold f_iX3_init at H
  refine x_aload_n (q := 1) dX3_init_0 rfl rfl ?_
  refine x_objInit (q := 4) (rest := []) dX3_init_1 rfl ko_RX3_3 (by decide) (Nat.le_of_ble_eq_true rfl) ?_
  refine x_aload_n (q := 5) dX3_init_4 rfl rfl ?_
  refine x_aload_n (q := 6) dX3_init_5 rfl rfl ?_
  replace H := kif H; obtain ⟨g1, H⟩ := H
  replace H := kif H; obtain ⟨g2, H⟩ := H
  replace H := kle H; obtain ⟨h3, q4, H⟩ := H
  refine x_putR (q := 9) dX3_init_6 rfl kl_RX3_9 (Or.inr ⟨rfl, rfl⟩) rfl g2 g1 ?_
  refine x_nmH q4 ?_
  refine x_aload_n (q := 10) dX3_init_9 rfl rfl ?_
  refine x_aload_n (q := 11) dX3_init_10 rfl rfl ?_
  replace H := kif H; obtain ⟨g5, H⟩ := H
  replace H := kif H; obtain ⟨g6, H⟩ := H
  replace H := kle H; obtain ⟨h7, q8, H⟩ := H
  refine x_putR (q := 14) dX3_init_11 rfl kl_RX3_15 (Or.inr ⟨rfl, rfl⟩) rfl g6 g5 ?_
  refine x_nmH q8 ?_
  cases H
  exact x_end ⟨dX3_init_14, rfl, rfl⟩
theorem s_iX3_init {xs : Nat → Int32} {L : Nat} (h : KH) (v0 : Nat) (v1 : Nat) (v2 : Nat) {t : KH} (H : f_iX3_init h v0 v1 v2 = some t) : KM (KZs xs L) yX3_init cX3_init 3 none 2 [.ref v0, .ref v1, .ref v2] h none t :=
  kx_v (own := RX3) (ini := true) (by decide +kernel) (by decide +kernel) rfl (Nat.le_of_ble_eq_true rfl) (s0_iX3_init h v0 v1 v2 H)
theorem dX2_init_0 : decode cX2_init 0 = .ok (.aload_n 0, 1) := by decide +kernel
theorem dX2_init_1 : decode cX2_init 1 = .ok (.invokespecial 3, 3) := by decide +kernel
theorem dX2_init_4 : decode cX2_init 4 = .ok (.aload_n 0, 1) := by decide +kernel
theorem dX2_init_5 : decode cX2_init 5 = .ok (.bipush 6, 2) := by decide +kernel
theorem dX2_init_7 : decode cX2_init 7 = .ok (.iconst 5, 1) := by decide +kernel
theorem dX2_init_8 : decode cX2_init 8 = .ok (.multianewarray 9 2, 4) := by decide +kernel
theorem dX2_init_12 : decode cX2_init 12 = .ok (.putfield 11, 3) := by decide +kernel
theorem dX2_init_15 : decode cX2_init 15 = .ok (.aload_n 0, 1) := by decide +kernel
theorem dX2_init_16 : decode cX2_init 16 = .ok (.bipush 6, 2) := by decide +kernel
theorem dX2_init_18 : decode cX2_init 18 = .ok (.iconst 2, 1) := by decide +kernel
theorem dX2_init_19 : decode cX2_init 19 = .ok (.multianewarray 9 2, 4) := by decide +kernel
theorem dX2_init_23 : decode cX2_init 23 = .ok (.putfield 16, 3) := by decide +kernel
theorem dX2_init_26 : decode cX2_init 26 = .ok (.aload_n 0, 1) := by decide +kernel
theorem dX2_init_27 : decode cX2_init 27 = .ok (.iconst 5, 1) := by decide +kernel
theorem dX2_init_28 : decode cX2_init 28 = .ok (.iconst 3, 1) := by decide +kernel
theorem dX2_init_29 : decode cX2_init 29 = .ok (.multianewarray 9 2, 4) := by decide +kernel
theorem dX2_init_33 : decode cX2_init 33 = .ok (.putfield 19, 3) := by decide +kernel
theorem dX2_init_36 : decode cX2_init 36 = .ok (.aload_n 0, 1) := by decide +kernel
theorem dX2_init_37 : decode cX2_init 37 = .ok (.iconst 0, 1) := by decide +kernel
theorem dX2_init_38 : decode cX2_init 38 = .ok (.putfield 22, 3) := by decide +kernel
theorem dX2_init_41 : decode cX2_init 41 = .ok (.aload_n 0, 1) := by decide +kernel
theorem dX2_init_42 : decode cX2_init 42 = .ok (.iconst 0, 1) := by decide +kernel
theorem dX2_init_43 : decode cX2_init 43 = .ok (.putfield 26, 3) := by decide +kernel
theorem dX2_init_46 : decode cX2_init 46 = .ok (.aload_n 0, 1) := by decide +kernel
theorem dX2_init_47 : decode cX2_init 47 = .ok (.iconst 0, 1) := by decide +kernel
theorem dX2_init_48 : decode cX2_init 48 = .ok (.putfield 29, 3) := by decide +kernel
theorem dX2_init_51 : decode cX2_init 51 = .ok (.aload_n 0, 1) := by decide +kernel
theorem dX2_init_52 : decode cX2_init 52 = .ok (.bipush 50, 2) := by decide +kernel
theorem dX2_init_54 : decode cX2_init 54 = .ok (.putfield 32, 3) := by decide +kernel
theorem dX2_init_57 : decode cX2_init 57 = .ok (.aload_n 0, 1) := by decide +kernel
theorem dX2_init_58 : decode cX2_init 58 = .ok (.sipush 1000, 3) := by decide +kernel
theorem dX2_init_61 : decode cX2_init 61 = .ok (.putfield 35, 3) := by decide +kernel
theorem dX2_init_64 : decode cX2_init 64 = .ok (.aload_n 0, 1) := by decide +kernel
theorem dX2_init_65 : decode cX2_init 65 = .ok (.iconst 0, 1) := by decide +kernel
theorem dX2_init_66 : decode cX2_init 66 = .ok (.putfield 38, 3) := by decide +kernel
theorem dX2_init_69 : decode cX2_init 69 = .ok (.aload_n 0, 1) := by decide +kernel
theorem dX2_init_70 : decode cX2_init 70 = .ok (.new 42, 3) := by decide +kernel
theorem dX2_init_73 : decode cX2_init 73 = .ok (.dup, 1) := by decide +kernel
theorem dX2_init_74 : decode cX2_init 74 = .ok (.invokespecial 44, 3) := by decide +kernel
theorem dX2_init_77 : decode cX2_init 77 = .ok (.putfield 45, 3) := by decide +kernel
theorem dX2_init_80 : decode cX2_init 80 = .ok (.aload_n 0, 1) := by decide +kernel
theorem dX2_init_81 : decode cX2_init 81 = .ok (.bipush 33, 2) := by decide +kernel
theorem dX2_init_83 : decode cX2_init 83 = .ok (.newarray .int, 2) := by decide +kernel
theorem dX2_init_85 : decode cX2_init 85 = .ok (.putfield 49, 3) := by decide +kernel
theorem dX2_init_88 : decode cX2_init 88 = .ok (.aload_n 0, 1) := by decide +kernel
theorem dX2_init_89 : decode cX2_init 89 = .ok (.sipush 600, 3) := by decide +kernel
theorem dX2_init_92 : decode cX2_init 92 = .ok (.newarray .int, 2) := by decide +kernel
theorem dX2_init_94 : decode cX2_init 94 = .ok (.putfield 53, 3) := by decide +kernel
theorem dX2_init_97 : decode cX2_init 97 = .ok (.return_, 1) := by decide +kernel
theorem ko_RX2_3 : Cond.methodLink RX2 3 Lib.objectInit ∈ ktG ∧ Cond.instanceMethod Lib.objectInit ∈ ktG ∧ Cond.code Lib.objectInit ⟨#[0xb1]⟩ 1 none ∈ ktG := ⟨kwm 344 (by decide +kernel) (by decide +kernel), kwm 150 (by decide +kernel) (by decide +kernel), kwm 151 (by decide +kernel) (by decide +kernel)⟩
theorem kn_RX2_m9 : Cond.classLink RX2 9 ("[" ++ (FieldType.array .int).toString) ∈ ktG ∧ Cond.arrayClass .int ∈ ktG := ⟨kwm 345 (by decide +kernel) (by decide +kernel), kwm 191 (by decide +kernel) (by decide +kernel)⟩
theorem kn_RX2_42 : Cond.classLink RX2 42 (kown 1) ∈ ktG ∧ Cond.instantiable (kown 1) (kfts.getD 1 []).length ∈ ktG ∧ Cond.initialized (kown 1) ∈ ktG := ⟨kwm 347 (by decide +kernel) (by decide +kernel), kwm 175 (by decide +kernel) (by decide +kernel), kwm 126 (by decide +kernel) (by decide +kernel)⟩
theorem kc_RX2_44 : (RX2, 44, yX1_init, "KingsTest") ∈ knestM ∧ (yX1_init.name = "<init>" ∧ Cond.instanceMethod yX1_init ∈ ktG) ∧ Cond.initialized yX1_init.cls ∈ ktG ∧ Cond.code yX1_init cX1_init 1 none ∈ ktG := ⟨by decide +kernel, ⟨rfl, (kwm 177 (by decide +kernel) (by decide +kernel))⟩, (kwm 126 (by decide +kernel) (by decide +kernel)), kwm 178 (by decide +kernel) (by decide +kernel)⟩
set_option maxHeartbeats 8000000 in
set_option maxRecDepth 100000 in
def f_iX2_init (h : KH) (v0 : Nat) : Option (KH) :=
  if (kkind h.1 = 24 ∧ klen h.1 = 6) then if kmnaOK (h.1 + 1) 6 5 = true then kl (knewm h 6) fun h3 =>
  if (kkind v0 = 2 ∧ v0 < h3.1) then if h.1 < 999999 then kl (ksR h3 v0 0 h.1) fun h7 =>
  if (kkind h7.1 = 24 ∧ klen h7.1 = 6) then if kmnaOK (h7.1 + 1) 6 2 = true then kl (knewm h7 6) fun h11 =>
  if (kkind v0 = 2 ∧ v0 < h11.1) then if h7.1 < 999999 then kl (ksR h11 v0 1 h7.1) fun h15 =>
  if (kkind h15.1 = 24 ∧ klen h15.1 = 5) then if kmnaOK (h15.1 + 1) 5 3 = true then kl (knewm h15 5) fun h19 =>
  if (kkind v0 = 2 ∧ v0 < h19.1) then if h15.1 < 999999 then kl (ksR h19 v0 2 h15.1) fun h23 =>
  if (kkind v0 = 2 ∧ v0 < h23.1) then kl (ksI h23 v0 3 (0 : Int32)) fun h26 =>
  if (kkind v0 = 2 ∧ v0 < h26.1) then kl (ksI h26 v0 4 (0 : Int32)) fun h29 =>
  if (kkind v0 = 2 ∧ v0 < h29.1) then kl (ksI h29 v0 5 (0 : Int32)) fun h32 =>
  if (kkind v0 = 2 ∧ v0 < h32.1) then kl (ksI h32 v0 6 (50 : Int32)) fun h35 =>
  if (kkind v0 = 2 ∧ v0 < h35.1) then kl (ksI h35 v0 7 (1000 : Int32)) fun h38 =>
  if (kkind v0 = 2 ∧ v0 < h38.1) then kl (ksI h38 v0 8 (0 : Int32)) fun h41 =>
  if (kkind h41.1 = 1 ∧ 1 < 13) then kl (knew h41) fun h44 =>
  if (kkind h41.1 = 1 ∧ h41.1 < h44.1) then kb (f_iX1_init h44 h41.1) fun r47 =>
  if (kkind v0 = 2 ∧ v0 < r47.1) then if h41.1 < 999999 then kl (ksR r47 v0 9 h41.1) fun h53 =>
  if (kkind h53.1 = 20 ∧ klen h53.1 = ((33 : Int32)).toNatClampNeg ∧ ¬ (33 : Int32) < 0 ∧ klen h53.1 ≤ 9000) then kl (knew h53) fun h56 =>
  if (kkind v0 = 2 ∧ v0 < h56.1) then if h53.1 < 999999 then kl (ksR h56 v0 10 h53.1) fun h60 =>
  if (kkind h60.1 = 20 ∧ klen h60.1 = ((600 : Int32)).toNatClampNeg ∧ ¬ (600 : Int32) < 0 ∧ klen h60.1 ≤ 9000) then kl (knew h60) fun h63 =>
  if (kkind v0 = 2 ∧ v0 < h63.1) then if h60.1 < 999999 then kl (ksR h63 v0 11 h60.1) fun h67 =>
  some h67 else none else none else none else none else none else none else none else none else none else none else none else none else none else none else none else none else none else none else none else none else none else none else none else none else none else none else none else none
set_option maxHeartbeats 8000000 in
set_option maxRecDepth 100000 in
theorem s0_iX2_init {xs : Nat → Int32} {L : Nat} (h : KH) (v0 : Nat) {t : KH} (H : f_iX2_init h v0 = some t) : KX (KZs xs L) RX2 cX2_init 1 true 3 (KRv cX2_init t) 0 [(0, .ref v0)] [] h := by
  unfold f_iX2_init at H
  refine x_aload_n (q := 1) dX2_init_0 rfl rfl ?_
  refine x_objInit (q := 4) (rest := []) dX2_init_1 rfl ko_RX2_3 (by decide) (Nat.le_of_ble_eq_true rfl) ?_
  refine x_aload_n (q := 5) dX2_init_4 rfl rfl ?_
  refine x_bipush (q := 7) (v := (6 : Int32)) dX2_init_5 rfl (by decide) ?_
  refine x_iconst (q := 8) (v := (5 : Int32)) dX2_init_7 rfl (by decide) ?_
  replace H := kif H; obtain ⟨g1, H⟩ := H
  replace H := kif H; obtain ⟨g2, H⟩ := H
  replace H := kle H; obtain ⟨h3, q4, H⟩ := H
  refine x_mna (q := 12) (N := 6) (K2 := 5) dX2_init_8 rfl kn_RX2_m9 (fun base sA U hZ => hZ.2.2.2.2.2) ⟨g1.1, g1.2, by decide, by decide, by decide, by decide, by decide, by decide⟩ (kmna_of g2) ?_
  refine x_nmH q4 ?_
  replace H := kif H; obtain ⟨g5, H⟩ := H
  replace H := kif H; obtain ⟨g6, H⟩ := H
  replace H := kle H; obtain ⟨h7, q8, H⟩ := H
  refine x_putR (q := 15) dX2_init_12 rfl kl_RX2_11 (Or.inr ⟨rfl, rfl⟩) rfl g6 g5 ?_
  refine x_nmH q8 ?_
  refine x_aload_n (q := 16) dX2_init_15 rfl rfl ?_
  refine x_bipush (q := 18) (v := (6 : Int32)) dX2_init_16 rfl (by decide) ?_
  refine x_iconst (q := 19) (v := (2 : Int32)) dX2_init_18 rfl (by decide) ?_
  replace H := kif H; obtain ⟨g9, H⟩ := H
  replace H := kif H; obtain ⟨g10, H⟩ := H
  replace H := kle H; obtain ⟨h11, q12, H⟩ := H
  refine x_mna (q := 23) (N := 6) (K2 := 2) dX2_init_19 rfl kn_RX2_m9 (fun base sA U hZ => hZ.2.2.2.2.2) ⟨g9.1, g9.2, by decide, by decide, by decide, by decide, by decide, by decide⟩ (kmna_of g10) ?_
  refine x_nmH q12 ?_
  replace H := kif H; obtain ⟨g13, H⟩ := H
  replace H := kif H; obtain ⟨g14, H⟩ := H
  replace H := kle H; obtain ⟨h15, q16, H⟩ := H
  refine x_putR (q := 26) dX2_init_23 rfl kl_RX2_16 (Or.inr ⟨rfl, rfl⟩) rfl g14 g13 ?_
  refine x_nmH q16 ?_
  refine x_aload_n (q := 27) dX2_init_26 rfl rfl ?_
  refine x_iconst (q := 28) (v := (5 : Int32)) dX2_init_27 rfl (by decide) ?_
  refine x_iconst (q := 29) (v := (3 : Int32)) dX2_init_28 rfl (by decide) ?_
  replace H := kif H; obtain ⟨g17, H⟩ := H
  replace H := kif H; obtain ⟨g18, H⟩ := H
  replace H := kle H; obtain ⟨h19, q20, H⟩ := H
  refine x_mna (q := 33) (N := 5) (K2 := 3) dX2_init_29 rfl kn_RX2_m9 (fun base sA U hZ => hZ.2.2.2.2.2) ⟨g17.1, g17.2, by decide, by decide, by decide, by decide, by decide, by decide⟩ (kmna_of g18) ?_
  refine x_nmH q20 ?_
  replace H := kif H; obtain ⟨g21, H⟩ := H
  replace H := kif H; obtain ⟨g22, H⟩ := H
  replace H := kle H; obtain ⟨h23, q24, H⟩ := H
  refine x_putR (q := 36) dX2_init_33 rfl kl_RX2_19 (Or.inr ⟨rfl, rfl⟩) rfl g22 g21 ?_
  refine x_nmH q24 ?_
  refine x_aload_n (q := 37) dX2_init_36 rfl rfl ?_
  refine x_iconst (q := 38) (v := (0 : Int32)) dX2_init_37 rfl (by decide) ?_
  replace H := kif H; obtain ⟨g25, H⟩ := H
  replace H := kle H; obtain ⟨h26, q27, H⟩ := H
  refine x_putI (q := 41) dX2_init_38 rfl kl_RX2_22 (Or.inl rfl) rfl g25 ?_
  refine x_nmH q27 ?_
  refine x_aload_n (q := 42) dX2_init_41 rfl rfl ?_
  refine x_iconst (q := 43) (v := (0 : Int32)) dX2_init_42 rfl (by decide) ?_
  replace H := kif H; obtain ⟨g28, H⟩ := H
  replace H := kle H; obtain ⟨h29, q30, H⟩ := H
  refine x_putI (q := 46) dX2_init_43 rfl kl_RX2_26 (Or.inl rfl) rfl g28 ?_
  refine x_nmH q30 ?_
  refine x_aload_n (q := 47) dX2_init_46 rfl rfl ?_
  refine x_iconst (q := 48) (v := (0 : Int32)) dX2_init_47 rfl (by decide) ?_
  replace H := kif H; obtain ⟨g31, H⟩ := H
  replace H := kle H; obtain ⟨h32, q33, H⟩ := H
  refine x_putI (q := 51) dX2_init_48 rfl kl_RX2_29 (Or.inl rfl) rfl g31 ?_
  refine x_nmH q33 ?_
  refine x_aload_n (q := 52) dX2_init_51 rfl rfl ?_
  refine x_bipush (q := 54) (v := (50 : Int32)) dX2_init_52 rfl (by decide) ?_
  replace H := kif H; obtain ⟨g34, H⟩ := H
  replace H := kle H; obtain ⟨h35, q36, H⟩ := H
  refine x_putI (q := 57) dX2_init_54 rfl kl_RX2_32 (Or.inl rfl) rfl g34 ?_
  refine x_nmH q36 ?_
  refine x_aload_n (q := 58) dX2_init_57 rfl rfl ?_
  refine x_sipush (q := 61) (v := (1000 : Int32)) dX2_init_58 rfl (by decide) ?_
  replace H := kif H; obtain ⟨g37, H⟩ := H
  replace H := kle H; obtain ⟨h38, q39, H⟩ := H
  refine x_putI (q := 64) dX2_init_61 rfl kl_RX2_35 (Or.inl rfl) rfl g37 ?_
  refine x_nmH q39 ?_
  refine x_aload_n (q := 65) dX2_init_64 rfl rfl ?_
  refine x_iconst (q := 66) (v := (0 : Int32)) dX2_init_65 rfl (by decide) ?_
  replace H := kif H; obtain ⟨g40, H⟩ := H
  replace H := kle H; obtain ⟨h41, q42, H⟩ := H
  refine x_putZ (q := 69) dX2_init_66 rfl kl_RX2_38 (Or.inl rfl) rfl (by decide) g40 ?_
  refine x_nmH q42 ?_
  refine x_aload_n (q := 70) dX2_init_69 rfl rfl ?_
  replace H := kif H; obtain ⟨g43, H⟩ := H
  replace H := kle H; obtain ⟨h44, q45, H⟩ := H
  refine x_new (q := 73) (ci := 1) dX2_init_70 rfl kn_RX2_42 g43 ?_
  refine x_nmH q45 ?_
  refine x_dup (q := 74) dX2_init_73 rfl rfl ?_
  replace H := kif H; obtain ⟨g46, H⟩ := H
  replace H := kbe H; obtain ⟨r47, c48, H⟩ := H
  have m49 := s_iX1_init (xs := xs) (L := L) h44 h41.1  c48
  refine x_callIN (q := 77) (as := []) (rest := [.ref h41.1, .ref v0]) dX2_init_74 rfl kc_RX2_44 kh_X1_init (by decide) (Nat.le_of_ble_eq_true rfl) m49 ?_
  replace H := kif H; obtain ⟨g51, H⟩ := H
  replace H := kif H; obtain ⟨g52, H⟩ := H
  replace H := kle H; obtain ⟨h53, q54, H⟩ := H
  refine x_putR (q := 80) dX2_init_77 rfl kl_RX2_45 (Or.inr ⟨rfl, rfl⟩) rfl g52 g51 ?_
  refine x_nmH q54 ?_
  refine x_aload_n (q := 81) dX2_init_80 rfl rfl ?_
  refine x_bipush (q := 83) (v := (33 : Int32)) dX2_init_81 rfl (by decide) ?_
  replace H := kif H; obtain ⟨g55, H⟩ := H
  replace H := kle H; obtain ⟨h56, q57, H⟩ := H
  refine x_newa (q := 85) (kk := 20) dX2_init_83 rfl (Or.inl ⟨rfl, rfl⟩) kwa_int g55 ?_
  refine x_nmH q57 ?_
  replace H := kif H; obtain ⟨g58, H⟩ := H
  replace H := kif H; obtain ⟨g59, H⟩ := H
  replace H := kle H; obtain ⟨h60, q61, H⟩ := H
  refine x_putR (q := 88) dX2_init_85 rfl kl_RX2_49 (Or.inr ⟨rfl, rfl⟩) rfl g59 g58 ?_
  refine x_nmH q61 ?_
  refine x_aload_n (q := 89) dX2_init_88 rfl rfl ?_
  refine x_sipush (q := 92) (v := (600 : Int32)) dX2_init_89 rfl (by decide) ?_
  replace H := kif H; obtain ⟨g62, H⟩ := H
  replace H := kle H; obtain ⟨h63, q64, H⟩ := H
  refine x_newa (q := 94) (kk := 20) dX2_init_92 rfl (Or.inl ⟨rfl, rfl⟩) kwa_int g62 ?_
  refine x_nmH q64 ?_
  replace H := kif H; obtain ⟨g65, H⟩ := H
  replace H := kif H; obtain ⟨g66, H⟩ := H
  replace H := kle H; obtain ⟨h67, q68, H⟩ := H
  refine x_putR (q := 97) dX2_init_94 rfl kl_RX2_53 (Or.inr ⟨rfl, rfl⟩) rfl g66 g65 ?_
  refine x_nmH q68 ?_
  cases H
  exact x_end ⟨dX2_init_97, rfl, rfl⟩
theorem s_iX2_init {xs : Nat → Int32} {L : Nat} (h : KH) (v0 : Nat) {t : KH} (H : f_iX2_init h v0 = some t) : KM (KZs xs L) yX2_init cX2_init 1 none 3 [.ref v0] h none t :=
  kx_v (own := RX2) (ini := true) (by decide +kernel) (by decide +kernel) rfl (Nat.le_of_ble_eq_true rfl) (s0_iX2_init h v0 H)
theorem dX8_init_0 : decode cX8_init 0 = .ok (.aload_n 0, 1) := by decide +kernel
theorem dX8_init_1 : decode cX8_init 1 = .ok (.invokespecial 3, 3) := by decide +kernel
theorem dX8_init_4 : decode cX8_init 4 = .ok (.aload_n 0, 1) := by decide +kernel
theorem dX8_init_5 : decode cX8_init 5 = .ok (.iconst 0, 1) := by decide +kernel
theorem dX8_init_6 : decode cX8_init 6 = .ok (.putfield 9, 3) := by decide +kernel
theorem dX8_init_9 : decode cX8_init 9 = .ok (.aload_n 0, 1) := by decide +kernel
theorem dX8_init_10 : decode cX8_init 10 = .ok (.iconst 0, 1) := by decide +kernel
theorem dX8_init_11 : decode cX8_init 11 = .ok (.putfield 15, 3) := by decide +kernel
theorem dX8_init_14 : decode cX8_init 14 = .ok (.aload_n 0, 1) := by decide +kernel
theorem dX8_init_15 : decode cX8_init 15 = .ok (.iconst 0, 1) := by decide +kernel
theorem dX8_init_16 : decode cX8_init 16 = .ok (.putfield 18, 3) := by decide +kernel
theorem dX8_init_19 : decode cX8_init 19 = .ok (.aload_n 0, 1) := by decide +kernel
theorem dX8_init_20 : decode cX8_init 20 = .ok (.bipush 6, 2) := by decide +kernel
theorem dX8_init_22 : decode cX8_init 22 = .ok (.newarray .int, 2) := by decide +kernel
theorem dX8_init_24 : decode cX8_init 24 = .ok (.putfield 21, 3) := by decide +kernel
theorem dX8_init_27 : decode cX8_init 27 = .ok (.aload_n 0, 1) := by decide +kernel
theorem dX8_init_28 : decode cX8_init 28 = .ok (.bipush 6, 2) := by decide +kernel
theorem dX8_init_30 : decode cX8_init 30 = .ok (.newarray .int, 2) := by decide +kernel
theorem dX8_init_32 : decode cX8_init 32 = .ok (.putfield 25, 3) := by decide +kernel
theorem dX8_init_35 : decode cX8_init 35 = .ok (.aload_n 0, 1) := by decide +kernel
theorem dX8_init_36 : decode cX8_init 36 = .ok (.bipush 10, 2) := by decide +kernel
theorem dX8_init_38 : decode cX8_init 38 = .ok (.newarray .int, 2) := by decide +kernel
theorem dX8_init_40 : decode cX8_init 40 = .ok (.putfield 28, 3) := by decide +kernel
theorem dX8_init_43 : decode cX8_init 43 = .ok (.return_, 1) := by decide +kernel
theorem ko_RX8_3 : Cond.methodLink RX8 3 Lib.objectInit ∈ ktG ∧ Cond.instanceMethod Lib.objectInit ∈ ktG ∧ Cond.code Lib.objectInit ⟨#[0xb1]⟩ 1 none ∈ ktG := ⟨kwm 417 (by decide +kernel) (by decide +kernel), kwm 150 (by decide +kernel) (by decide +kernel), kwm 151 (by decide +kernel) (by decide +kernel)⟩
set_option maxHeartbeats 8000000 in
set_option maxRecDepth 100000 in
def f_iX8_init (h : KH) (v0 : Nat) : Option (KH) :=
  if (kkind v0 = 8 ∧ v0 < h.1) then kl (ksI h v0 0 (0 : Int32)) fun h2 =>
  if (kkind v0 = 8 ∧ v0 < h2.1) then kl (ksI h2 v0 1 (0 : Int32)) fun h5 =>
  if (kkind v0 = 8 ∧ v0 < h5.1) then kl (ksI h5 v0 2 (0 : Int32)) fun h8 =>
  if (kkind h8.1 = 20 ∧ klen h8.1 = ((6 : Int32)).toNatClampNeg ∧ ¬ (6 : Int32) < 0 ∧ klen h8.1 ≤ 9000) then kl (knew h8) fun h11 =>
  if (kkind v0 = 8 ∧ v0 < h11.1) then if h8.1 < 999999 then kl (ksR h11 v0 3 h8.1) fun h15 =>
  if (kkind h15.1 = 20 ∧ klen h15.1 = ((6 : Int32)).toNatClampNeg ∧ ¬ (6 : Int32) < 0 ∧ klen h15.1 ≤ 9000) then kl (knew h15) fun h18 =>
  if (kkind v0 = 8 ∧ v0 < h18.1) then if h15.1 < 999999 then kl (ksR h18 v0 4 h15.1) fun h22 =>
  if (kkind h22.1 = 20 ∧ klen h22.1 = ((10 : Int32)).toNatClampNeg ∧ ¬ (10 : Int32) < 0 ∧ klen h22.1 ≤ 9000) then kl (knew h22) fun h25 =>
  if (kkind v0 = 8 ∧ v0 < h25.1) then if h22.1 < 999999 then kl (ksR h25 v0 5 h22.1) fun h29 =>
  some h29 else none else none else none else none else none else none else none else none else none else none else none else none
set_option maxHeartbeats 8000000 in
set_option maxRecDepth 100000 in
theorem s0_iX8_init {xs : Nat → Int32} {L : Nat} (h : KH) (v0 : Nat) {t : KH} (H : f_iX8_init h v0 = some t) : KX (KZs xs L) RX8 cX8_init 1 true 2 (KRv cX8_init t) 0 [(0, .ref v0)] [] h := by
  unfold f_iX8_init at H
  refine x_aload_n (q := 1) dX8_init_0 rfl rfl ?_
  refine x_objInit (q := 4) (rest := []) dX8_init_1 rfl ko_RX8_3 (by decide) (Nat.le_of_ble_eq_true rfl) ?_
  refine x_aload_n (q := 5) dX8_init_4 rfl rfl ?_
  refine x_iconst (q := 6) (v := (0 : Int32)) dX8_init_5 rfl (by decide) ?_
  replace H := kif H; obtain ⟨g1, H⟩ := H
  replace H := kle H; obtain ⟨h2, q3, H⟩ := H
  refine x_putI (q := 9) dX8_init_6 rfl kl_RX8_9 (Or.inl rfl) rfl g1 ?_
  refine x_nmH q3 ?_
  refine x_aload_n (q := 10) dX8_init_9 rfl rfl ?_
  refine x_iconst (q := 11) (v := (0 : Int32)) dX8_init_10 rfl (by decide) ?_
  replace H := kif H; obtain ⟨g4, H⟩ := H
  replace H := kle H; obtain ⟨h5, q6, H⟩ := H
  refine x_putI (q := 14) dX8_init_11 rfl kl_RX8_15 (Or.inl rfl) rfl g4 ?_
  refine x_nmH q6 ?_
  refine x_aload_n (q := 15) dX8_init_14 rfl rfl ?_
  refine x_iconst (q := 16) (v := (0 : Int32)) dX8_init_15 rfl (by decide) ?_
  replace H := kif H; obtain ⟨g7, H⟩ := H
  replace H := kle H; obtain ⟨h8, q9, H⟩ := H
  refine x_putI (q := 19) dX8_init_16 rfl kl_RX8_18 (Or.inl rfl) rfl g7 ?_
  refine x_nmH q9 ?_
  refine x_aload_n (q := 20) dX8_init_19 rfl rfl ?_
  refine x_bipush (q := 22) (v := (6 : Int32)) dX8_init_20 rfl (by decide) ?_
  replace H := kif H; obtain ⟨g10, H⟩ := H
  replace H := kle H; obtain ⟨h11, q12, H⟩ := H
  refine x_newa (q := 24) (kk := 20) dX8_init_22 rfl (Or.inl ⟨rfl, rfl⟩) kwa_int g10 ?_
  refine x_nmH q12 ?_
  replace H := kif H; obtain ⟨g13, H⟩ := H
  replace H := kif H; obtain ⟨g14, H⟩ := H
  replace H := kle H; obtain ⟨h15, q16, H⟩ := H
  refine x_putR (q := 27) dX8_init_24 rfl kl_RX8_21 (Or.inr ⟨rfl, rfl⟩) rfl g14 g13 ?_
  refine x_nmH q16 ?_
  refine x_aload_n (q := 28) dX8_init_27 rfl rfl ?_
  refine x_bipush (q := 30) (v := (6 : Int32)) dX8_init_28 rfl (by decide) ?_
  replace H := kif H; obtain ⟨g17, H⟩ := H
  replace H := kle H; obtain ⟨h18, q19, H⟩ := H
  refine x_newa (q := 32) (kk := 20) dX8_init_30 rfl (Or.inl ⟨rfl, rfl⟩) kwa_int g17 ?_
  refine x_nmH q19 ?_
  replace H := kif H; obtain ⟨g20, H⟩ := H
  replace H := kif H; obtain ⟨g21, H⟩ := H
  replace H := kle H; obtain ⟨h22, q23, H⟩ := H
  refine x_putR (q := 35) dX8_init_32 rfl kl_RX8_25 (Or.inr ⟨rfl, rfl⟩) rfl g21 g20 ?_
  refine x_nmH q23 ?_
  refine x_aload_n (q := 36) dX8_init_35 rfl rfl ?_
  refine x_bipush (q := 38) (v := (10 : Int32)) dX8_init_36 rfl (by decide) ?_
  replace H := kif H; obtain ⟨g24, H⟩ := H
  replace H := kle H; obtain ⟨h25, q26, H⟩ := H
  refine x_newa (q := 40) (kk := 20) dX8_init_38 rfl (Or.inl ⟨rfl, rfl⟩) kwa_int g24 ?_
  refine x_nmH q26 ?_
  replace H := kif H; obtain ⟨g27, H⟩ := H
  replace H := kif H; obtain ⟨g28, H⟩ := H
  replace H := kle H; obtain ⟨h29, q30, H⟩ := H
  refine x_putR (q := 43) dX8_init_40 rfl kl_RX8_28 (Or.inr ⟨rfl, rfl⟩) rfl g28 g27 ?_
  refine x_nmH q30 ?_
  cases H
  exact x_end ⟨dX8_init_43, rfl, rfl⟩
theorem s_iX8_init {xs : Nat → Int32} {L : Nat} (h : KH) (v0 : Nat) {t : KH} (H : f_iX8_init h v0 = some t) : KM (KZs xs L) yX8_init cX8_init 1 none 2 [.ref v0] h none t :=
  kx_v (own := RX8) (ini := true) (by decide +kernel) (by decide +kernel) rfl (Nat.le_of_ble_eq_true rfl) (s0_iX8_init h v0 H)
theorem dX5_init_0 : decode cX5_init 0 = .ok (.aload_n 0, 1) := by decide +kernel
theorem dX5_init_1 : decode cX5_init 1 = .ok (.invokespecial 3, 3) := by decide +kernel
theorem dX5_init_4 : decode cX5_init 4 = .ok (.aload_n 0, 1) := by decide +kernel
theorem dX5_init_5 : decode cX5_init 5 = .ok (.bipush 20, 2) := by decide +kernel
theorem dX5_init_7 : decode cX5_init 7 = .ok (.anewarray 9, 3) := by decide +kernel
theorem dX5_init_10 : decode cX5_init 10 = .ok (.putfield 11, 3) := by decide +kernel
theorem dX5_init_13 : decode cX5_init 13 = .ok (.aload_n 0, 1) := by decide +kernel
theorem dX5_init_14 : decode cX5_init 14 = .ok (.sipush 4096, 3) := by decide +kernel
theorem dX5_init_17 : decode cX5_init 17 = .ok (.newarray .int, 2) := by decide +kernel
theorem dX5_init_19 : decode cX5_init 19 = .ok (.putfield 17, 3) := by decide +kernel
theorem dX5_init_22 : decode cX5_init 22 = .ok (.aload_n 0, 1) := by decide +kernel
theorem dX5_init_23 : decode cX5_init 23 = .ok (.iconst 0, 1) := by decide +kernel
theorem dX5_init_24 : decode cX5_init 24 = .ok (.putfield 21, 3) := by decide +kernel
theorem dX5_init_27 : decode cX5_init 27 = .ok (.aload_n 0, 1) := by decide +kernel
theorem dX5_init_28 : decode cX5_init 28 = .ok (.iconst 0, 1) := by decide +kernel
theorem dX5_init_29 : decode cX5_init 29 = .ok (.putfield 25, 3) := by decide +kernel
theorem dX5_init_32 : decode cX5_init 32 = .ok (.iconst 0, 1) := by decide +kernel
theorem dX5_init_33 : decode cX5_init 33 = .ok (.istore_n 1, 1) := by decide +kernel
theorem dX5_init_34 : decode cX5_init 34 = .ok (.iload_n 1, 1) := by decide +kernel
theorem dX5_init_35 : decode cX5_init 35 = .ok (.bipush 20, 2) := by decide +kernel
theorem dX5_init_37 : decode cX5_init 37 = .ok (.if_icmp .ge 22, 3) := by decide +kernel
theorem dX5_init_40 : decode cX5_init 40 = .ok (.aload_n 0, 1) := by decide +kernel
theorem dX5_init_41 : decode cX5_init 41 = .ok (.getfield 11, 3) := by decide +kernel
theorem dX5_init_44 : decode cX5_init 44 = .ok (.iload_n 1, 1) := by decide +kernel
theorem dX5_init_45 : decode cX5_init 45 = .ok (.new 9, 3) := by decide +kernel
theorem dX5_init_48 : decode cX5_init 48 = .ok (.dup, 1) := by decide +kernel
theorem dX5_init_49 : decode cX5_init 49 = .ok (.invokespecial 28, 3) := by decide +kernel
theorem dX5_init_52 : decode cX5_init 52 = .ok (.aastore, 1) := by decide +kernel
theorem dX5_init_53 : decode cX5_init 53 = .ok (.iinc 1 1, 3) := by decide +kernel
theorem dX5_init_56 : decode cX5_init 56 = .ok (.goto (-22), 3) := by decide +kernel
theorem dX5_init_59 : decode cX5_init 59 = .ok (.return_, 1) := by decide +kernel
theorem ko_RX5_3 : Cond.methodLink RX5 3 Lib.objectInit ∈ ktG ∧ Cond.instanceMethod Lib.objectInit ∈ ktG ∧ Cond.code Lib.objectInit ⟨#[0xb1]⟩ 1 none ∈ ktG := ⟨kwm 453 (by decide +kernel) (by decide +kernel), kwm 150 (by decide +kernel) (by decide +kernel), kwm 151 (by decide +kernel) (by decide +kernel)⟩
theorem kn_RX5_q9 : Cond.classLink RX5 9 RX8 ∈ ktG := kwm 454 (by decide +kernel) (by decide +kernel)
theorem kn_RX5_9 : Cond.classLink RX5 9 (kown 8) ∈ ktG ∧ Cond.instantiable (kown 8) (kfts.getD 8 []).length ∈ ktG ∧ Cond.initialized (kown 8) ∈ ktG := ⟨kwm 454 (by decide +kernel) (by decide +kernel), kwm 413 (by decide +kernel) (by decide +kernel), kwm 135 (by decide +kernel) (by decide +kernel)⟩
theorem kc_RX5_28 : (RX5, 28, yX8_init, "KingsTest") ∈ knestM ∧ (yX8_init.name = "<init>" ∧ Cond.instanceMethod yX8_init ∈ ktG) ∧ Cond.initialized yX8_init.cls ∈ ktG ∧ Cond.code yX8_init cX8_init 1 none ∈ ktG := ⟨by decide +kernel, ⟨rfl, (kwm 415 (by decide +kernel) (by decide +kernel))⟩, (kwm 135 (by decide +kernel) (by decide +kernel)), kwm 416 (by decide +kernel) (by decide +kernel)⟩
theorem kh_X8_init : yX8_init.cls ≠ "java/lang/invoke/MethodHandle" ∧ yX8_init.cls ≠ "java/lang/invoke/VarHandle" ∧ (parseMethodDescriptor yX8_init.desc).map (fun d => d.parameters.length) = some 0 := by decide +kernel
def E_iX5_init_l34 (v0 : Nat) : KH → Nat → List (Nat × Value) → List Value → KH → Prop := fun (e : KH) pc ls st hh => pc = 59 ∧ ls = [] ∧ st = [] ∧ e = hh
def B_iX5_init_l34 (v0 : Nat) : ((Int32 × KH) ⊕ (KH)) → Nat → List (Nat × Value) → List Value → KH → Prop := Sum.elim (fun (s : Int32 × KH) pc ls st hh => pc = 34 ∧ ls = [(0, .ref v0), (1, .int s.1)] ∧ st = [] ∧ hh = s.2) (E_iX5_init_l34 v0)
def f_iX5_init_l34 (v0 : Nat) (s : Int32 × KH) : Option ((Int32 × KH) ⊕ (KH)) :=
  if (20 : Int32) ≤ s.1 then
  some (.inr s.2)
  else
  if (kkind v0 = 5 ∧ v0 < s.2.1) then if (kR s.2 v0 0) < 999999 then if (kkind (s.2).1 = 8 ∧ 8 < 13) then kl (knew s.2) fun h5 =>
  if (kkind ((s.2).1) = 8 ∧ ((s.2).1) < h5.1) then kb (f_iX8_init h5 ((s.2).1)) fun r8 =>
  if (kkind (kR s.2 v0 0) = 25 ∧ (kR s.2 v0 0) < r8.1) then if (kkind ((s.2).1) = 8 ∧ ((s.2).1) < r8.1) then if ¬ (s.1 < 0 ∨ klen (kR s.2 v0 0) ≤ (s.1).toNatClampNeg) then kl (ksR r8 (kR s.2 v0 0) (s.1).toNatClampNeg ((s.2).1)) fun h15 =>
  kl (s.1 + (1 : Int32)) fun x17 =>
  some (.inl (x17, h15)) else none else none else none else none else none else none else none
set_option maxHeartbeats 4000000 in
set_option maxRecDepth 100000 in
theorem s_iX5_init_l34 {xs : Nat → Int32} {L : Nat} (v0 : Nat) (s : Int32 × KH) (t : (Int32 × KH) ⊕ (KH)) (H : f_iX5_init_l34 v0 s = some t) : KX (KZs xs L) RX5 cX5_init 2 true 3 (B_iX5_init_l34 v0 t) 34 [(0, .ref v0), (1, .int s.1)] [] s.2 := by
  unfold f_iX5_init_l34 at H
  refine x_iload_n (q := 35) dX5_init_34 rfl rfl ?_
  refine x_bipush (q := 37) (v := (20 : Int32)) dX5_init_35 rfl (by decide) ?_
  replace H := kite H; rcases H with ⟨g1, H⟩ | ⟨g1, H⟩
  · refine x_icmp_ge_t dX5_init_37 (q := 59) (by decide) g1 ?_
    cases H
    refine x_sub (ls2 := []) [] rfl ?_
    exact x_end (x_cfg rfl)
  · refine x_icmp_ge_f (q := 40) dX5_init_37 (t := 59) (by decide) rfl g1 ?_
    refine x_aload_n (q := 41) dX5_init_40 rfl rfl ?_
    replace H := kif H; obtain ⟨g2, H⟩ := H
    replace H := kif H; obtain ⟨g3, H⟩ := H
    refine x_getR (q := 44) dX5_init_41 rfl kl_RX5_11 rfl g2 g3 ?_
    refine x_iload_n (q := 45) dX5_init_44 rfl rfl ?_
    replace H := kif H; obtain ⟨g4, H⟩ := H
    replace H := kle H; obtain ⟨h5, q6, H⟩ := H
    refine x_new (q := 48) (ci := 8) dX5_init_45 rfl kn_RX5_9 g4 ?_
    refine x_nmH q6 ?_
    refine x_dup (q := 49) dX5_init_48 rfl rfl ?_
    replace H := kif H; obtain ⟨g7, H⟩ := H
    replace H := kbe H; obtain ⟨r8, c9, H⟩ := H
    have m10 := s_iX8_init (xs := xs) (L := L) h5 ((s.2).1)  c9
    refine x_callIN (q := 52) (as := []) (rest := [.ref ((s.2).1), .int s.1, .ref (kR s.2 v0 0)]) dX5_init_49 rfl kc_RX5_28 kh_X8_init (by decide) (Nat.le_of_ble_eq_true rfl) m10 ?_
    replace H := kif H; obtain ⟨g12, H⟩ := H
    replace H := kif H; obtain ⟨g13, H⟩ := H
    replace H := kif H; obtain ⟨g14, H⟩ := H
    replace H := kle H; obtain ⟨h15, q16, H⟩ := H
    refine x_astq (q := 53) dX5_init_52 rfl g12 g13 g14 ?_
    refine x_nmH q16 ?_
    replace H := kle H; obtain ⟨x17, q18, H⟩ := H
    refine x_iinc (q := 56) (i := 1) (ls2 := [(1, .int x17), (0, .ref v0)]) dX5_init_53 rfl rfl (by decide) (by rw [q18]; rfl) ?_
    refine x_goto dX5_init_56 (q := 34) (by decide) ?_
    cases H
    refine x_sub (ls2 := [(0, .ref v0), (1, .int x17)]) [1, 0] rfl ?_
    exact x_end (x_cfg rfl)
theorem sl_iX5_init_l34 {xs : Nat → Int32} {L : Nat} (v0 : Nat) (n : Nat) (s : Int32 × KH) (r : KH) (H : kloop (f_iX5_init_l34 v0) n s = some r) : KX (KZs xs L) RX5 cX5_init 2 true 3 (E_iX5_init_l34 v0 r) 34 [(0, .ref v0), (1, .int s.1)] [] s.2 :=
  k_loopc (ls := (fun (s : Int32 × KH) => ([(0, .ref v0), (1, .int s.1)] : List (Nat × Value)))) (hp := (fun (s : Int32 × KH) => (s.2 : KH))) (G := E_iX5_init_l34 v0) (fun s t H => s_iX5_init_l34 v0 s t H) n s r H
set_option maxHeartbeats 8000000 in
set_option maxRecDepth 100000 in
def f_iX5_init (h : KH) (v0 : Nat) : Option (KH) :=
  if (kkind h.1 = 25 ∧ klen h.1 = ((20 : Int32)).toNatClampNeg ∧ ¬ (20 : Int32) < 0 ∧ klen h.1 ≤ 9000) then kl (knew h) fun h2 =>
  if (kkind v0 = 5 ∧ v0 < h2.1) then if h.1 < 999999 then kl (ksR h2 v0 0 h.1) fun h6 =>
  if (kkind h6.1 = 20 ∧ klen h6.1 = ((4096 : Int32)).toNatClampNeg ∧ ¬ (4096 : Int32) < 0 ∧ klen h6.1 ≤ 9000) then kl (knew h6) fun h9 =>
  if (kkind v0 = 5 ∧ v0 < h9.1) then if h6.1 < 999999 then kl (ksR h9 v0 1 h6.1) fun h13 =>
  if (kkind v0 = 5 ∧ v0 < h13.1) then kl (ksI h13 v0 2 (0 : Int32)) fun h16 =>
  if (kkind v0 = 5 ∧ v0 < h16.1) then kl (ksI h16 v0 3 (0 : Int32)) fun h19 =>
  kb (kloop (f_iX5_init_l34 v0) KF ((0 : Int32), h19)) fun e21 =>
  some e21 else none else none else none else none else none else none else none else none
set_option maxHeartbeats 8000000 in
set_option maxRecDepth 100000 in
theorem s0_iX5_init {xs : Nat → Int32} {L : Nat} (h : KH) (v0 : Nat) {t : KH} (H : f_iX5_init h v0 = some t) : KX (KZs xs L) RX5 cX5_init 2 true 3 (KRv cX5_init t) 0 [(0, .ref v0)] [] h := by
  unfold f_iX5_init at H
  refine x_aload_n (q := 1) dX5_init_0 rfl rfl ?_
  refine x_objInit (q := 4) (rest := []) dX5_init_1 rfl ko_RX5_3 (by decide) (Nat.le_of_ble_eq_true rfl) ?_
  refine x_aload_n (q := 5) dX5_init_4 rfl rfl ?_
  refine x_bipush (q := 7) (v := (20 : Int32)) dX5_init_5 rfl (by decide) ?_
  replace H := kif H; obtain ⟨g1, H⟩ := H
  replace H := kle H; obtain ⟨h2, q3, H⟩ := H
  refine x_newq (q := 10) dX5_init_7 rfl kn_RX5_q9 (fun base sA U hZ => hZ.2.2.2.2.1) g1 ?_
  refine x_nmH q3 ?_
  replace H := kif H; obtain ⟨g4, H⟩ := H
  replace H := kif H; obtain ⟨g5, H⟩ := H
  replace H := kle H; obtain ⟨h6, q7, H⟩ := H
  refine x_putR (q := 13) dX5_init_10 rfl kl_RX5_11 (Or.inr ⟨rfl, rfl⟩) rfl g5 g4 ?_
  refine x_nmH q7 ?_
  refine x_aload_n (q := 14) dX5_init_13 rfl rfl ?_
  refine x_sipush (q := 17) (v := (4096 : Int32)) dX5_init_14 rfl (by decide) ?_
  replace H := kif H; obtain ⟨g8, H⟩ := H
  replace H := kle H; obtain ⟨h9, q10, H⟩ := H
  refine x_newa (q := 19) (kk := 20) dX5_init_17 rfl (Or.inl ⟨rfl, rfl⟩) kwa_int g8 ?_
  refine x_nmH q10 ?_
  replace H := kif H; obtain ⟨g11, H⟩ := H
  replace H := kif H; obtain ⟨g12, H⟩ := H
  replace H := kle H; obtain ⟨h13, q14, H⟩ := H
  refine x_putR (q := 22) dX5_init_19 rfl kl_RX5_17 (Or.inr ⟨rfl, rfl⟩) rfl g12 g11 ?_
  refine x_nmH q14 ?_
  refine x_aload_n (q := 23) dX5_init_22 rfl rfl ?_
  refine x_iconst (q := 24) (v := (0 : Int32)) dX5_init_23 rfl (by decide) ?_
  replace H := kif H; obtain ⟨g15, H⟩ := H
  replace H := kle H; obtain ⟨h16, q17, H⟩ := H
  refine x_putI (q := 27) dX5_init_24 rfl kl_RX5_21 (Or.inl rfl) rfl g15 ?_
  refine x_nmH q17 ?_
  refine x_aload_n (q := 28) dX5_init_27 rfl rfl ?_
  refine x_iconst (q := 29) (v := (0 : Int32)) dX5_init_28 rfl (by decide) ?_
  replace H := kif H; obtain ⟨g18, H⟩ := H
  replace H := kle H; obtain ⟨h19, q20, H⟩ := H
  refine x_putI (q := 32) dX5_init_29 rfl kl_RX5_25 (Or.inl rfl) rfl g18 ?_
  refine x_nmH q20 ?_
  refine x_iconst (q := 33) (v := (0 : Int32)) dX5_init_32 rfl (by decide) ?_
  refine x_istore_n (q := 34) (i := 1) (ls2 := [(1, .int (0 : Int32)), (0, .ref v0)]) dX5_init_33 rfl rfl (by decide) rfl ?_
  refine x_sub (ls2 := [(0, .ref v0), (1, .int (0 : Int32))]) [1, 0] rfl ?_
  replace H := kbe H; obtain ⟨e21, c22, H⟩ := H
  refine x_app (sl_iX5_init_l34 v0 KF ((0 : Int32), h19) e21  c22) fun pc2 ls2 st2 h2 hg m23 => ?_
  obtain ⟨rfl, rfl, rfl, rfl⟩ := hg
  cases H
  exact x_end ⟨dX5_init_59, rfl, rfl⟩
theorem s_iX5_init {xs : Nat → Int32} {L : Nat} (h : KH) (v0 : Nat) {t : KH} (H : f_iX5_init h v0 = some t) : KM (KZs xs L) yX5_init cX5_init 2 none 3 [.ref v0] h none t :=
  kx_v (own := RX5) (ini := true) (by decide +kernel) (by decide +kernel) rfl (Nat.le_of_ble_eq_true rfl) (s0_iX5_init h v0 H)
theorem dX0_init_0 : decode cX0_init 0 = .ok (.aload_n 0, 1) := by decide +kernel
theorem dX0_init_1 : decode cX0_init 1 = .ok (.invokespecial 3, 3) := by decide +kernel
theorem dX0_init_4 : decode cX0_init 4 = .ok (.aload_n 0, 1) := by decide +kernel
theorem dX0_init_5 : decode cX0_init 5 = .ok (.bipush 30, 2) := by decide +kernel
theorem dX0_init_7 : decode cX0_init 7 = .ok (.newarray .int, 2) := by decide +kernel
theorem dX0_init_9 : decode cX0_init 9 = .ok (.putfield 9, 3) := by decide +kernel
theorem dX0_init_12 : decode cX0_init 12 = .ok (.aload_n 0, 1) := by decide +kernel
theorem dX0_init_13 : decode cX0_init 13 = .ok (.bipush 30, 2) := by decide +kernel
theorem dX0_init_15 : decode cX0_init 15 = .ok (.newarray .int, 2) := by decide +kernel
theorem dX0_init_17 : decode cX0_init 17 = .ok (.putfield 15, 3) := by decide +kernel
theorem dX0_init_20 : decode cX0_init 20 = .ok (.aload_n 0, 1) := by decide +kernel
theorem dX0_init_21 : decode cX0_init 21 = .ok (.new 18, 3) := by decide +kernel
theorem dX0_init_24 : decode cX0_init 24 = .ok (.dup, 1) := by decide +kernel
theorem dX0_init_25 : decode cX0_init 25 = .ok (.invokespecial 20, 3) := by decide +kernel
theorem dX0_init_28 : decode cX0_init 28 = .ok (.putfield 21, 3) := by decide +kernel
theorem dX0_init_31 : decode cX0_init 31 = .ok (.aload_n 0, 1) := by decide +kernel
theorem dX0_init_32 : decode cX0_init 32 = .ok (.iconst 0, 1) := by decide +kernel
theorem dX0_init_33 : decode cX0_init 33 = .ok (.putfield 25, 3) := by decide +kernel
theorem dX0_init_36 : decode cX0_init 36 = .ok (.return_, 1) := by decide +kernel
theorem ko_RX0_3 : Cond.methodLink RX0 3 Lib.objectInit ∈ ktG ∧ Cond.instanceMethod Lib.objectInit ∈ ktG ∧ Cond.code Lib.objectInit ⟨#[0xb1]⟩ 1 none ∈ ktG := ⟨kwm 476 (by decide +kernel) (by decide +kernel), kwm 150 (by decide +kernel) (by decide +kernel), kwm 151 (by decide +kernel) (by decide +kernel)⟩
theorem kl_RX0_9 : KLk RX0 9 0 0 := ⟨RX0, TX0, 4, rfl, by decide, Or.inl (kwm 479 (by decide +kernel) (by decide +kernel))⟩
theorem kl_RX0_15 : KLk RX0 15 0 1 := ⟨RX0, TX0, 4, rfl, by decide, Or.inl (kwm 481 (by decide +kernel) (by decide +kernel))⟩
theorem kn_RX0_18 : Cond.classLink RX0 18 (kown 8) ∈ ktG ∧ Cond.instantiable (kown 8) (kfts.getD 8 []).length ∈ ktG ∧ Cond.initialized (kown 8) ∈ ktG := ⟨kwm 477 (by decide +kernel) (by decide +kernel), kwm 413 (by decide +kernel) (by decide +kernel), kwm 135 (by decide +kernel) (by decide +kernel)⟩
theorem kc_RX0_20 : (RX0, 20, yX8_init, "KingsTest") ∈ knestM ∧ (yX8_init.name = "<init>" ∧ Cond.instanceMethod yX8_init ∈ ktG) ∧ Cond.initialized yX8_init.cls ∈ ktG ∧ Cond.code yX8_init cX8_init 1 none ∈ ktG := ⟨by decide +kernel, ⟨rfl, (kwm 415 (by decide +kernel) (by decide +kernel))⟩, (kwm 135 (by decide +kernel) (by decide +kernel)), kwm 416 (by decide +kernel) (by decide +kernel)⟩
theorem kl_RX0_21 : KLk RX0 21 0 2 := ⟨RX0, TX0, 4, rfl, by decide, Or.inl (kwm 483 (by decide +kernel) (by decide +kernel))⟩
theorem kl_RX0_25 : KLk RX0 25 0 3 := ⟨RX0, TX0, 4, rfl, by decide, Or.inl (kwm 485 (by decide +kernel) (by decide +kernel))⟩
set_option maxHeartbeats 8000000 in
set_option maxRecDepth 100000 in
def f_iX0_init (h : KH) (v0 : Nat) : Option (KH) :=
  if (kkind h.1 = 20 ∧ klen h.1 = ((30 : Int32)).toNatClampNeg ∧ ¬ (30 : Int32) < 0 ∧ klen h.1 ≤ 9000) then kl (knew h) fun h2 =>
  if (kkind v0 = 0 ∧ v0 < h2.1) then if h.1 < 999999 then kl (ksR h2 v0 0 h.1) fun h6 =>
  if (kkind h6.1 = 20 ∧ klen h6.1 = ((30 : Int32)).toNatClampNeg ∧ ¬ (30 : Int32) < 0 ∧ klen h6.1 ≤ 9000) then kl (knew h6) fun h9 =>
  if (kkind v0 = 0 ∧ v0 < h9.1) then if h6.1 < 999999 then kl (ksR h9 v0 1 h6.1) fun h13 =>
  if (kkind h13.1 = 8 ∧ 8 < 13) then kl (knew h13) fun h16 =>
  if (kkind h13.1 = 8 ∧ h13.1 < h16.1) then kb (f_iX8_init h16 h13.1) fun r19 =>
  if (kkind v0 = 0 ∧ v0 < r19.1) then if h13.1 < 999999 then kl (ksR r19 v0 2 h13.1) fun h25 =>
  if (kkind v0 = 0 ∧ v0 < h25.1) then kl (ksI h25 v0 3 (0 : Int32)) fun h28 =>
  some h28 else none else none else none else none else none else none else none else none else none else none else none
set_option maxHeartbeats 8000000 in
set_option maxRecDepth 100000 in
theorem s0_iX0_init {xs : Nat → Int32} {L : Nat} (h : KH) (v0 : Nat) {t : KH} (H : f_iX0_init h v0 = some t) : KX (KZs xs L) RX0 cX0_init 1 true 3 (KRv cX0_init t) 0 [(0, .ref v0)] [] h := by
  unfold f_iX0_init at H
  refine x_aload_n (q := 1) dX0_init_0 rfl rfl ?_
  refine x_objInit (q := 4) (rest := []) dX0_init_1 rfl ko_RX0_3 (by decide) (Nat.le_of_ble_eq_true rfl) ?_
  refine x_aload_n (q := 5) dX0_init_4 rfl rfl ?_
  refine x_bipush (q := 7) (v := (30 : Int32)) dX0_init_5 rfl (by decide) ?_
  replace H := kif H; obtain ⟨g1, H⟩ := H
  replace H := kle H; obtain ⟨h2, q3, H⟩ := H
  refine x_newa (q := 9) (kk := 20) dX0_init_7 rfl (Or.inl ⟨rfl, rfl⟩) kwa_int g1 ?_
  refine x_nmH q3 ?_
  replace H := kif H; obtain ⟨g4, H⟩ := H
  replace H := kif H; obtain ⟨g5, H⟩ := H
  replace H := kle H; obtain ⟨h6, q7, H⟩ := H
  refine x_putR (q := 12) dX0_init_9 rfl kl_RX0_9 (Or.inr ⟨rfl, rfl⟩) rfl g5 g4 ?_
  refine x_nmH q7 ?_
  refine x_aload_n (q := 13) dX0_init_12 rfl rfl ?_
  refine x_bipush (q := 15) (v := (30 : Int32)) dX0_init_13 rfl (by decide) ?_
  replace H := kif H; obtain ⟨g8, H⟩ := H
  replace H := kle H; obtain ⟨h9, q10, H⟩ := H
  refine x_newa (q := 17) (kk := 20) dX0_init_15 rfl (Or.inl ⟨rfl, rfl⟩) kwa_int g8 ?_
  refine x_nmH q10 ?_
  replace H := kif H; obtain ⟨g11, H⟩ := H
  replace H := kif H; obtain ⟨g12, H⟩ := H
  replace H := kle H; obtain ⟨h13, q14, H⟩ := H
  refine x_putR (q := 20) dX0_init_17 rfl kl_RX0_15 (Or.inr ⟨rfl, rfl⟩) rfl g12 g11 ?_
  refine x_nmH q14 ?_
  refine x_aload_n (q := 21) dX0_init_20 rfl rfl ?_
  replace H := kif H; obtain ⟨g15, H⟩ := H
  replace H := kle H; obtain ⟨h16, q17, H⟩ := H
  refine x_new (q := 24) (ci := 8) dX0_init_21 rfl kn_RX0_18 g15 ?_
  refine x_nmH q17 ?_
  refine x_dup (q := 25) dX0_init_24 rfl rfl ?_
  replace H := kif H; obtain ⟨g18, H⟩ := H
  replace H := kbe H; obtain ⟨r19, c20, H⟩ := H
  have m21 := s_iX8_init (xs := xs) (L := L) h16 h13.1  c20
  refine x_callIN (q := 28) (as := []) (rest := [.ref h13.1, .ref v0]) dX0_init_25 rfl kc_RX0_20 kh_X8_init (by decide) (Nat.le_of_ble_eq_true rfl) m21 ?_
  replace H := kif H; obtain ⟨g23, H⟩ := H
  replace H := kif H; obtain ⟨g24, H⟩ := H
  replace H := kle H; obtain ⟨h25, q26, H⟩ := H
  refine x_putR (q := 31) dX0_init_28 rfl kl_RX0_21 (Or.inr ⟨rfl, rfl⟩) rfl g24 g23 ?_
  refine x_nmH q26 ?_
  refine x_aload_n (q := 32) dX0_init_31 rfl rfl ?_
  refine x_iconst (q := 33) (v := (0 : Int32)) dX0_init_32 rfl (by decide) ?_
  replace H := kif H; obtain ⟨g27, H⟩ := H
  replace H := kle H; obtain ⟨h28, q29, H⟩ := H
  refine x_putI (q := 36) dX0_init_33 rfl kl_RX0_25 (Or.inl rfl) rfl g27 ?_
  refine x_nmH q29 ?_
  cases H
  exact x_end ⟨dX0_init_36, rfl, rfl⟩
theorem s_iX0_init {xs : Nat → Int32} {L : Nat} (h : KH) (v0 : Nat) {t : KH} (H : f_iX0_init h v0 = some t) : KM (KZs xs L) yX0_init cX0_init 1 none 3 [.ref v0] h none t :=
  kx_v (own := RX0) (ini := true) (by decide +kernel) (by decide +kernel) rfl (Nat.le_of_ble_eq_true rfl) (s0_iX0_init h v0 H)
theorem dX10_init_0 : decode cX10_init 0 = .ok (.aload_n 0, 1) := by decide +kernel
theorem dX10_init_1 : decode cX10_init 1 = .ok (.invokespecial 3, 3) := by decide +kernel
theorem dX10_init_4 : decode cX10_init 4 = .ok (.aload_n 0, 1) := by decide +kernel
theorem dX10_init_5 : decode cX10_init 5 = .ok (.bipush 72, 2) := by decide +kernel
theorem dX10_init_7 : decode cX10_init 7 = .ok (.newarray .long, 2) := by decide +kernel
theorem dX10_init_9 : decode cX10_init 9 = .ok (.putfield 11, 3) := by decide +kernel
theorem dX10_init_12 : decode cX10_init 12 = .ok (.aload_n 0, 1) := by decide +kernel
theorem dX10_init_13 : decode cX10_init 13 = .ok (.bipush 72, 2) := by decide +kernel
theorem dX10_init_15 : decode cX10_init 15 = .ok (.newarray .int, 2) := by decide +kernel
theorem dX10_init_17 : decode cX10_init 17 = .ok (.putfield 15, 3) := by decide +kernel
theorem dX10_init_20 : decode cX10_init 20 = .ok (.aload_n 0, 1) := by decide +kernel
theorem dX10_init_21 : decode cX10_init 21 = .ok (.bipush 72, 2) := by decide +kernel
theorem dX10_init_23 : decode cX10_init 23 = .ok (.newarray .int, 2) := by decide +kernel
theorem dX10_init_25 : decode cX10_init 25 = .ok (.putfield 19, 3) := by decide +kernel
theorem dX10_init_28 : decode cX10_init 28 = .ok (.aload_n 0, 1) := by decide +kernel
theorem dX10_init_29 : decode cX10_init 29 = .ok (.iconst 0, 1) := by decide +kernel
theorem dX10_init_30 : decode cX10_init 30 = .ok (.putfield 22, 3) := by decide +kernel
theorem dX10_init_33 : decode cX10_init 33 = .ok (.aload_n 0, 1) := by decide +kernel
theorem dX10_init_34 : decode cX10_init 34 = .ok (.iconst 2, 1) := by decide +kernel
theorem dX10_init_35 : decode cX10_init 35 = .ok (.newarray .long, 2) := by decide +kernel
theorem dX10_init_37 : decode cX10_init 37 = .ok (.putfield 26, 3) := by decide +kernel
theorem dX10_init_40 : decode cX10_init 40 = .ok (.aload_n 0, 1) := by decide +kernel
theorem dX10_init_41 : decode cX10_init 41 = .ok (.bipush 12, 2) := by decide +kernel
theorem dX10_init_43 : decode cX10_init 43 = .ok (.newarray .int, 2) := by decide +kernel
theorem dX10_init_45 : decode cX10_init 45 = .ok (.putfield 29, 3) := by decide +kernel
theorem dX10_init_48 : decode cX10_init 48 = .ok (.aload_n 0, 1) := by decide +kernel
theorem dX10_init_49 : decode cX10_init 49 = .ok (.sipush 4096, 3) := by decide +kernel
theorem dX10_init_52 : decode cX10_init 52 = .ok (.newarray .long, 2) := by decide +kernel
theorem dX10_init_54 : decode cX10_init 54 = .ok (.putfield 32, 3) := by decide +kernel
theorem dX10_init_57 : decode cX10_init 57 = .ok (.aload_n 0, 1) := by decide +kernel
theorem dX10_init_58 : decode cX10_init 58 = .ok (.sipush 4096, 3) := by decide +kernel
theorem dX10_init_61 : decode cX10_init 61 = .ok (.newarray .long, 2) := by decide +kernel
theorem dX10_init_63 : decode cX10_init 63 = .ok (.putfield 35, 3) := by decide +kernel
theorem dX10_init_66 : decode cX10_init 66 = .ok (.return_, 1) := by decide +kernel
theorem ko_RX10_3 : Cond.methodLink RX10 3 Lib.objectInit ∈ ktG ∧ Cond.instanceMethod Lib.objectInit ∈ ktG ∧ Cond.code Lib.objectInit ⟨#[0xb1]⟩ 1 none ∈ ktG := ⟨kwm 501 (by decide +kernel) (by decide +kernel), kwm 150 (by decide +kernel) (by decide +kernel), kwm 151 (by decide +kernel) (by decide +kernel)⟩
theorem kwa_long : Cond.arrayClass (newarray.typeOf .long) ∈ ktG := kwm 527 (by decide +kernel) (by decide +kernel)
set_option maxHeartbeats 8000000 in
set_option maxRecDepth 100000 in
def f_iX10_init (h : KH) (v0 : Nat) : Option (KH) :=
  if (kkind h.1 = 21 ∧ klen h.1 = ((72 : Int32)).toNatClampNeg ∧ ¬ (72 : Int32) < 0 ∧ klen h.1 ≤ 9000) then kl (knew h) fun h2 =>
  if (kkind v0 = 10 ∧ v0 < h2.1) then if h.1 < 999999 then kl (ksR h2 v0 0 h.1) fun h6 =>
  if (kkind h6.1 = 20 ∧ klen h6.1 = ((72 : Int32)).toNatClampNeg ∧ ¬ (72 : Int32) < 0 ∧ klen h6.1 ≤ 9000) then kl (knew h6) fun h9 =>
  if (kkind v0 = 10 ∧ v0 < h9.1) then if h6.1 < 999999 then kl (ksR h9 v0 1 h6.1) fun h13 =>
  if (kkind h13.1 = 20 ∧ klen h13.1 = ((72 : Int32)).toNatClampNeg ∧ ¬ (72 : Int32) < 0 ∧ klen h13.1 ≤ 9000) then kl (knew h13) fun h16 =>
  if (kkind v0 = 10 ∧ v0 < h16.1) then if h13.1 < 999999 then kl (ksR h16 v0 2 h13.1) fun h20 =>
  if (kkind v0 = 10 ∧ v0 < h20.1) then kl (ksI h20 v0 3 (0 : Int32)) fun h23 =>
  if (kkind h23.1 = 21 ∧ klen h23.1 = ((2 : Int32)).toNatClampNeg ∧ ¬ (2 : Int32) < 0 ∧ klen h23.1 ≤ 9000) then kl (knew h23) fun h26 =>
  if (kkind v0 = 10 ∧ v0 < h26.1) then if h23.1 < 999999 then kl (ksR h26 v0 4 h23.1) fun h30 =>
  if (kkind h30.1 = 20 ∧ klen h30.1 = ((12 : Int32)).toNatClampNeg ∧ ¬ (12 : Int32) < 0 ∧ klen h30.1 ≤ 9000) then kl (knew h30) fun h33 =>
  if (kkind v0 = 10 ∧ v0 < h33.1) then if h30.1 < 999999 then kl (ksR h33 v0 5 h30.1) fun h37 =>
  if (kkind h37.1 = 21 ∧ klen h37.1 = ((4096 : Int32)).toNatClampNeg ∧ ¬ (4096 : Int32) < 0 ∧ klen h37.1 ≤ 9000) then kl (knew h37) fun h40 =>
  if (kkind v0 = 10 ∧ v0 < h40.1) then if h37.1 < 999999 then kl (ksR h40 v0 6 h37.1) fun h44 =>
  if (kkind h44.1 = 21 ∧ klen h44.1 = ((4096 : Int32)).toNatClampNeg ∧ ¬ (4096 : Int32) < 0 ∧ klen h44.1 ≤ 9000) then kl (knew h44) fun h47 =>
  if (kkind v0 = 10 ∧ v0 < h47.1) then if h44.1 < 999999 then kl (ksR h47 v0 7 h44.1) fun h51 =>
  some h51 else none else none else none else none else none else none else none else none else none else none else none else none else none else none else none else none else none else none else none else none else none else none
set_option maxHeartbeats 8000000 in
set_option maxRecDepth 100000 in
theorem s0_iX10_init {xs : Nat → Int32} {L : Nat} (h : KH) (v0 : Nat) {t : KH} (H : f_iX10_init h v0 = some t) : KX (KZs xs L) RX10 cX10_init 1 true 2 (KRv cX10_init t) 0 [(0, .ref v0)] [] h := by
  unfold f_iX10_init at H
  refine x_aload_n (q := 1) dX10_init_0 rfl rfl ?_
  refine x_objInit (q := 4) (rest := []) dX10_init_1 rfl ko_RX10_3 (by decide) (Nat.le_of_ble_eq_true rfl) ?_
  refine x_aload_n (q := 5) dX10_init_4 rfl rfl ?_
  refine x_bipush (q := 7) (v := (72 : Int32)) dX10_init_5 rfl (by decide) ?_
  replace H := kif H; obtain ⟨g1, H⟩ := H
  replace H := kle H; obtain ⟨h2, q3, H⟩ := H
  refine x_newa (q := 9) (kk := 21) dX10_init_7 rfl (Or.inr (Or.inl ⟨rfl, rfl⟩)) kwa_long g1 ?_
  refine x_nmH q3 ?_
  replace H := kif H; obtain ⟨g4, H⟩ := H
  replace H := kif H; obtain ⟨g5, H⟩ := H
  replace H := kle H; obtain ⟨h6, q7, H⟩ := H
  refine x_putR (q := 12) dX10_init_9 rfl kl_RX10_11 (Or.inr ⟨rfl, rfl⟩) rfl g5 g4 ?_
  refine x_nmH q7 ?_
  refine x_aload_n (q := 13) dX10_init_12 rfl rfl ?_
  refine x_bipush (q := 15) (v := (72 : Int32)) dX10_init_13 rfl (by decide) ?_
  replace H := kif H; obtain ⟨g8, H⟩ := H
  replace H := kle H; obtain ⟨h9, q10, H⟩ := H
  refine x_newa (q := 17) (kk := 20) dX10_init_15 rfl (Or.inl ⟨rfl, rfl⟩) kwa_int g8 ?_
  refine x_nmH q10 ?_
  replace H := kif H; obtain ⟨g11, H⟩ := H
  replace H := kif H; obtain ⟨g12, H⟩ := H
  replace H := kle H; obtain ⟨h13, q14, H⟩ := H
  refine x_putR (q := 20) dX10_init_17 rfl kl_RX10_15 (Or.inr ⟨rfl, rfl⟩) rfl g12 g11 ?_
  refine x_nmH q14 ?_
  refine x_aload_n (q := 21) dX10_init_20 rfl rfl ?_
  refine x_bipush (q := 23) (v := (72 : Int32)) dX10_init_21 rfl (by decide) ?_
  replace H := kif H; obtain ⟨g15, H⟩ := H
  replace H := kle H; obtain ⟨h16, q17, H⟩ := H
  refine x_newa (q := 25) (kk := 20) dX10_init_23 rfl (Or.inl ⟨rfl, rfl⟩) kwa_int g15 ?_
  refine x_nmH q17 ?_
  replace H := kif H; obtain ⟨g18, H⟩ := H
  replace H := kif H; obtain ⟨g19, H⟩ := H
  replace H := kle H; obtain ⟨h20, q21, H⟩ := H
  refine x_putR (q := 28) dX10_init_25 rfl kl_RX10_19 (Or.inr ⟨rfl, rfl⟩) rfl g19 g18 ?_
  refine x_nmH q21 ?_
  refine x_aload_n (q := 29) dX10_init_28 rfl rfl ?_
  refine x_iconst (q := 30) (v := (0 : Int32)) dX10_init_29 rfl (by decide) ?_
  replace H := kif H; obtain ⟨g22, H⟩ := H
  replace H := kle H; obtain ⟨h23, q24, H⟩ := H
  refine x_putI (q := 33) dX10_init_30 rfl kl_RX10_22 (Or.inl rfl) rfl g22 ?_
  refine x_nmH q24 ?_
  refine x_aload_n (q := 34) dX10_init_33 rfl rfl ?_
  refine x_iconst (q := 35) (v := (2 : Int32)) dX10_init_34 rfl (by decide) ?_
  replace H := kif H; obtain ⟨g25, H⟩ := H
  replace H := kle H; obtain ⟨h26, q27, H⟩ := H
  refine x_newa (q := 37) (kk := 21) dX10_init_35 rfl (Or.inr (Or.inl ⟨rfl, rfl⟩)) kwa_long g25 ?_
  refine x_nmH q27 ?_
  replace H := kif H; obtain ⟨g28, H⟩ := H
  replace H := kif H; obtain ⟨g29, H⟩ := H
  replace H := kle H; obtain ⟨h30, q31, H⟩ := H
  refine x_putR (q := 40) dX10_init_37 rfl kl_RX10_26 (Or.inr ⟨rfl, rfl⟩) rfl g29 g28 ?_
  refine x_nmH q31 ?_
  refine x_aload_n (q := 41) dX10_init_40 rfl rfl ?_
  refine x_bipush (q := 43) (v := (12 : Int32)) dX10_init_41 rfl (by decide) ?_
  replace H := kif H; obtain ⟨g32, H⟩ := H
  replace H := kle H; obtain ⟨h33, q34, H⟩ := H
  refine x_newa (q := 45) (kk := 20) dX10_init_43 rfl (Or.inl ⟨rfl, rfl⟩) kwa_int g32 ?_
  refine x_nmH q34 ?_
  replace H := kif H; obtain ⟨g35, H⟩ := H
  replace H := kif H; obtain ⟨g36, H⟩ := H
  replace H := kle H; obtain ⟨h37, q38, H⟩ := H
  refine x_putR (q := 48) dX10_init_45 rfl kl_RX10_29 (Or.inr ⟨rfl, rfl⟩) rfl g36 g35 ?_
  refine x_nmH q38 ?_
  refine x_aload_n (q := 49) dX10_init_48 rfl rfl ?_
  refine x_sipush (q := 52) (v := (4096 : Int32)) dX10_init_49 rfl (by decide) ?_
  replace H := kif H; obtain ⟨g39, H⟩ := H
  replace H := kle H; obtain ⟨h40, q41, H⟩ := H
  refine x_newa (q := 54) (kk := 21) dX10_init_52 rfl (Or.inr (Or.inl ⟨rfl, rfl⟩)) kwa_long g39 ?_
  refine x_nmH q41 ?_
  replace H := kif H; obtain ⟨g42, H⟩ := H
  replace H := kif H; obtain ⟨g43, H⟩ := H
  replace H := kle H; obtain ⟨h44, q45, H⟩ := H
  refine x_putR (q := 57) dX10_init_54 rfl kl_RX10_32 (Or.inr ⟨rfl, rfl⟩) rfl g43 g42 ?_
  refine x_nmH q45 ?_
  refine x_aload_n (q := 58) dX10_init_57 rfl rfl ?_
  refine x_sipush (q := 61) (v := (4096 : Int32)) dX10_init_58 rfl (by decide) ?_
  replace H := kif H; obtain ⟨g46, H⟩ := H
  replace H := kle H; obtain ⟨h47, q48, H⟩ := H
  refine x_newa (q := 63) (kk := 21) dX10_init_61 rfl (Or.inr (Or.inl ⟨rfl, rfl⟩)) kwa_long g46 ?_
  refine x_nmH q48 ?_
  replace H := kif H; obtain ⟨g49, H⟩ := H
  replace H := kif H; obtain ⟨g50, H⟩ := H
  replace H := kle H; obtain ⟨h51, q52, H⟩ := H
  refine x_putR (q := 66) dX10_init_63 rfl kl_RX10_35 (Or.inr ⟨rfl, rfl⟩) rfl g50 g49 ?_
  refine x_nmH q52 ?_
  cases H
  exact x_end ⟨dX10_init_66, rfl, rfl⟩
theorem s_iX10_init {xs : Nat → Int32} {L : Nat} (h : KH) (v0 : Nat) {t : KH} (H : f_iX10_init h v0 = some t) : KM (KZs xs L) yX10_init cX10_init 1 none 2 [.ref v0] h none t :=
  kx_v (own := RX10) (ini := true) (by decide +kernel) (by decide +kernel) rfl (Nat.le_of_ble_eq_true rfl) (s0_iX10_init h v0 H)
theorem dX11_init_0 : decode cX11_init 0 = .ok (.aload_n 0, 1) := by decide +kernel
theorem dX11_init_1 : decode cX11_init 1 = .ok (.invokespecial 3, 3) := by decide +kernel
theorem dX11_init_4 : decode cX11_init 4 = .ok (.aload_n 0, 1) := by decide +kernel
theorem dX11_init_5 : decode cX11_init 5 = .ok (.new 9, 3) := by decide +kernel
theorem dX11_init_8 : decode cX11_init 8 = .ok (.dup, 1) := by decide +kernel
theorem dX11_init_9 : decode cX11_init 9 = .ok (.invokespecial 11, 3) := by decide +kernel
theorem dX11_init_12 : decode cX11_init 12 = .ok (.putfield 12, 3) := by decide +kernel
theorem dX11_init_15 : decode cX11_init 15 = .ok (.aload_n 0, 1) := by decide +kernel
theorem dX11_init_16 : decode cX11_init 16 = .ok (.new 16, 3) := by decide +kernel
theorem dX11_init_19 : decode cX11_init 19 = .ok (.dup, 1) := by decide +kernel
theorem dX11_init_20 : decode cX11_init 20 = .ok (.invokespecial 18, 3) := by decide +kernel
theorem dX11_init_23 : decode cX11_init 23 = .ok (.putfield 19, 3) := by decide +kernel
theorem dX11_init_26 : decode cX11_init 26 = .ok (.aload_n 0, 1) := by decide +kernel
theorem dX11_init_27 : decode cX11_init 27 = .ok (.new 23, 3) := by decide +kernel
theorem dX11_init_30 : decode cX11_init 30 = .ok (.dup, 1) := by decide +kernel
theorem dX11_init_31 : decode cX11_init 31 = .ok (.aload_n 0, 1) := by decide +kernel
theorem dX11_init_32 : decode cX11_init 32 = .ok (.getfield 12, 3) := by decide +kernel
theorem dX11_init_35 : decode cX11_init 35 = .ok (.invokespecial 25, 3) := by decide +kernel
theorem dX11_init_38 : decode cX11_init 38 = .ok (.putfield 28, 3) := by decide +kernel
theorem dX11_init_41 : decode cX11_init 41 = .ok (.aload_n 0, 1) := by decide +kernel
theorem dX11_init_42 : decode cX11_init 42 = .ok (.new 32, 3) := by decide +kernel
theorem dX11_init_45 : decode cX11_init 45 = .ok (.dup, 1) := by decide +kernel
theorem dX11_init_46 : decode cX11_init 46 = .ok (.aload_n 0, 1) := by decide +kernel
theorem dX11_init_47 : decode cX11_init 47 = .ok (.getfield 28, 3) := by decide +kernel
theorem dX11_init_50 : decode cX11_init 50 = .ok (.aload_n 0, 1) := by decide +kernel
theorem dX11_init_51 : decode cX11_init 51 = .ok (.getfield 19, 3) := by decide +kernel
theorem dX11_init_54 : decode cX11_init 54 = .ok (.getfield 34, 3) := by decide +kernel
theorem dX11_init_57 : decode cX11_init 57 = .ok (.invokespecial 38, 3) := by decide +kernel
theorem dX11_init_60 : decode cX11_init 60 = .ok (.putfield 41, 3) := by decide +kernel
theorem dX11_init_63 : decode cX11_init 63 = .ok (.aload_n 0, 1) := by decide +kernel
theorem dX11_init_64 : decode cX11_init 64 = .ok (.new 45, 3) := by decide +kernel
theorem dX11_init_67 : decode cX11_init 67 = .ok (.dup, 1) := by decide +kernel
theorem dX11_init_68 : decode cX11_init 68 = .ok (.aload_n 0, 1) := by decide +kernel
theorem dX11_init_69 : decode cX11_init 69 = .ok (.getfield 28, 3) := by decide +kernel
theorem dX11_init_72 : decode cX11_init 72 = .ok (.aload_n 0, 1) := by decide +kernel
theorem dX11_init_73 : decode cX11_init 73 = .ok (.getfield 41, 3) := by decide +kernel
theorem dX11_init_76 : decode cX11_init 76 = .ok (.invokespecial 47, 3) := by decide +kernel
theorem dX11_init_79 : decode cX11_init 79 = .ok (.putfield 50, 3) := by decide +kernel
theorem dX11_init_82 : decode cX11_init 82 = .ok (.aload_n 0, 1) := by decide +kernel
theorem dX11_init_83 : decode cX11_init 83 = .ok (.new 54, 3) := by decide +kernel
theorem dX11_init_86 : decode cX11_init 86 = .ok (.dup, 1) := by decide +kernel
theorem dX11_init_87 : decode cX11_init 87 = .ok (.invokespecial 56, 3) := by decide +kernel
theorem dX11_init_90 : decode cX11_init 90 = .ok (.putfield 57, 3) := by decide +kernel
theorem dX11_init_93 : decode cX11_init 93 = .ok (.aload_n 0, 1) := by decide +kernel
theorem dX11_init_94 : decode cX11_init 94 = .ok (.new 54, 3) := by decide +kernel
theorem dX11_init_97 : decode cX11_init 97 = .ok (.dup, 1) := by decide +kernel
theorem dX11_init_98 : decode cX11_init 98 = .ok (.invokespecial 56, 3) := by decide +kernel
theorem dX11_init_101 : decode cX11_init 101 = .ok (.putfield 61, 3) := by decide +kernel
theorem dX11_init_104 : decode cX11_init 104 = .ok (.aload_n 0, 1) := by decide +kernel
theorem dX11_init_105 : decode cX11_init 105 = .ok (.new 64, 3) := by decide +kernel
theorem dX11_init_108 : decode cX11_init 108 = .ok (.dup, 1) := by decide +kernel
theorem dX11_init_109 : decode cX11_init 109 = .ok (.invokespecial 66, 3) := by decide +kernel
theorem dX11_init_112 : decode cX11_init 112 = .ok (.putfield 67, 3) := by decide +kernel
theorem dX11_init_115 : decode cX11_init 115 = .ok (.aload_n 0, 1) := by decide +kernel
theorem dX11_init_116 : decode cX11_init 116 = .ok (.new 64, 3) := by decide +kernel
theorem dX11_init_119 : decode cX11_init 119 = .ok (.dup, 1) := by decide +kernel
theorem dX11_init_120 : decode cX11_init 120 = .ok (.invokespecial 66, 3) := by decide +kernel
theorem dX11_init_123 : decode cX11_init 123 = .ok (.putfield 71, 3) := by decide +kernel
theorem dX11_init_126 : decode cX11_init 126 = .ok (.aload_n 0, 1) := by decide +kernel
theorem dX11_init_127 : decode cX11_init 127 = .ok (.new 74, 3) := by decide +kernel
theorem dX11_init_130 : decode cX11_init 130 = .ok (.dup, 1) := by decide +kernel
theorem dX11_init_131 : decode cX11_init 131 = .ok (.invokespecial 76, 3) := by decide +kernel
theorem dX11_init_134 : decode cX11_init 134 = .ok (.putfield 77, 3) := by decide +kernel
theorem dX11_init_137 : decode cX11_init 137 = .ok (.aload_n 0, 1) := by decide +kernel
theorem dX11_init_138 : decode cX11_init 138 = .ok (.new 81, 3) := by decide +kernel
theorem dX11_init_141 : decode cX11_init 141 = .ok (.dup, 1) := by decide +kernel
theorem dX11_init_142 : decode cX11_init 142 = .ok (.invokespecial 83, 3) := by decide +kernel
theorem dX11_init_145 : decode cX11_init 145 = .ok (.putfield 84, 3) := by decide +kernel
theorem dX11_init_148 : decode cX11_init 148 = .ok (.aload_n 0, 1) := by decide +kernel
theorem dX11_init_149 : decode cX11_init 149 = .ok (.new 88, 3) := by decide +kernel
theorem dX11_init_152 : decode cX11_init 152 = .ok (.dup, 1) := by decide +kernel
theorem dX11_init_153 : decode cX11_init 153 = .ok (.invokespecial 90, 3) := by decide +kernel
theorem dX11_init_156 : decode cX11_init 156 = .ok (.putfield 91, 3) := by decide +kernel
theorem dX11_init_159 : decode cX11_init 159 = .ok (.aload_n 0, 1) := by decide +kernel
theorem dX11_init_160 : decode cX11_init 160 = .ok (.bipush 64, 2) := by decide +kernel
theorem dX11_init_162 : decode cX11_init 162 = .ok (.newarray .int, 2) := by decide +kernel
theorem dX11_init_164 : decode cX11_init 164 = .ok (.putfield 95, 3) := by decide +kernel
theorem dX11_init_167 : decode cX11_init 167 = .ok (.aload_n 0, 1) := by decide +kernel
theorem dX11_init_168 : decode cX11_init 168 = .ok (.iconst 0, 1) := by decide +kernel
theorem dX11_init_169 : decode cX11_init 169 = .ok (.putfield 99, 3) := by decide +kernel
theorem dX11_init_172 : decode cX11_init 172 = .ok (.aload_n 0, 1) := by decide +kernel
theorem dX11_init_173 : decode cX11_init 173 = .ok (.iconst 1, 1) := by decide +kernel
theorem dX11_init_174 : decode cX11_init 174 = .ok (.putfield 103, 3) := by decide +kernel
theorem dX11_init_177 : decode cX11_init 177 = .ok (.aload_n 0, 1) := by decide +kernel
theorem dX11_init_178 : decode cX11_init 178 = .ok (.bipush 27, 2) := by decide +kernel
theorem dX11_init_180 : decode cX11_init 180 = .ok (.newarray .int, 2) := by decide +kernel
theorem dX11_init_182 : decode cX11_init 182 = .ok (.putfield 106, 3) := by decide +kernel
theorem dX11_init_185 : decode cX11_init 185 = .ok (.aload_n 0, 1) := by decide +kernel
theorem dX11_init_186 : decode cX11_init 186 = .ok (.iconst 0, 1) := by decide +kernel
theorem dX11_init_187 : decode cX11_init 187 = .ok (.putfield 109, 3) := by decide +kernel
theorem dX11_init_190 : decode cX11_init 190 = .ok (.aload_n 0, 1) := by decide +kernel
theorem dX11_init_191 : decode cX11_init 191 = .ok (.bipush 6, 2) := by decide +kernel
theorem dX11_init_193 : decode cX11_init 193 = .ok (.newarray .int, 2) := by decide +kernel
theorem dX11_init_195 : decode cX11_init 195 = .ok (.putfield 112, 3) := by decide +kernel
theorem dX11_init_198 : decode cX11_init 198 = .ok (.return_, 1) := by decide +kernel
theorem ko_RX11_3 : Cond.methodLink RX11 3 Lib.objectInit ∈ ktG ∧ Cond.instanceMethod Lib.objectInit ∈ ktG ∧ Cond.code Lib.objectInit ⟨#[0xb1]⟩ 1 none ∈ ktG := ⟨kwm 149 (by decide +kernel) (by decide +kernel), kwm 150 (by decide +kernel) (by decide +kernel), kwm 151 (by decide +kernel) (by decide +kernel)⟩
theorem kn_RX11_9 : Cond.classLink RX11 9 (kown 9) ∈ ktG ∧ Cond.instantiable (kown 9) (kfts.getD 9 []).length ∈ ktG ∧ Cond.initialized (kown 9) ∈ ktG := ⟨kwm 152 (by decide +kernel) (by decide +kernel), kwm 153 (by decide +kernel) (by decide +kernel), kwm 124 (by decide +kernel) (by decide +kernel)⟩
theorem kc_RX11_11 : (RX11, 11, yX9_init, "KingsTest") ∈ knestM ∧ (yX9_init.name = "<init>" ∧ Cond.instanceMethod yX9_init ∈ ktG) ∧ Cond.initialized yX9_init.cls ∈ ktG ∧ Cond.code yX9_init cX9_init 1 none ∈ ktG := ⟨by decide +kernel, ⟨rfl, (kwm 155 (by decide +kernel) (by decide +kernel))⟩, (kwm 124 (by decide +kernel) (by decide +kernel)), kwm 156 (by decide +kernel) (by decide +kernel)⟩
theorem kh_X9_init : yX9_init.cls ≠ "java/lang/invoke/MethodHandle" ∧ yX9_init.cls ≠ "java/lang/invoke/VarHandle" ∧ (parseMethodDescriptor yX9_init.desc).map (fun d => d.parameters.length) = some 0 := by decide +kernel
theorem kn_RX11_16 : Cond.classLink RX11 16 (kown 6) ∈ ktG ∧ Cond.instantiable (kown 6) (kfts.getD 6 []).length ∈ ktG ∧ Cond.initialized (kown 6) ∈ ktG := ⟨kwm 168 (by decide +kernel) (by decide +kernel), kwm 169 (by decide +kernel) (by decide +kernel), kwm 125 (by decide +kernel) (by decide +kernel)⟩
theorem kc_RX11_18 : (RX11, 18, yX6_init, "KingsTest") ∈ knestM ∧ (yX6_init.name = "<init>" ∧ Cond.instanceMethod yX6_init ∈ ktG) ∧ Cond.initialized yX6_init.cls ∈ ktG ∧ Cond.code yX6_init cX6_init 1 none ∈ ktG := ⟨by decide +kernel, ⟨rfl, (kwm 171 (by decide +kernel) (by decide +kernel))⟩, (kwm 125 (by decide +kernel) (by decide +kernel)), kwm 172 (by decide +kernel) (by decide +kernel)⟩
theorem kh_X6_init : yX6_init.cls ≠ "java/lang/invoke/MethodHandle" ∧ yX6_init.cls ≠ "java/lang/invoke/VarHandle" ∧ (parseMethodDescriptor yX6_init.desc).map (fun d => d.parameters.length) = some 0 := by decide +kernel
theorem kn_RX11_23 : Cond.classLink RX11 23 (kown 7) ∈ ktG ∧ Cond.instantiable (kown 7) (kfts.getD 7 []).length ∈ ktG ∧ Cond.initialized (kown 7) ∈ ktG := ⟨kwm 210 (by decide +kernel) (by decide +kernel), kwm 211 (by decide +kernel) (by decide +kernel), kwm 127 (by decide +kernel) (by decide +kernel)⟩
theorem kc_RX11_25 : Cond.methodLink RX11 25 yX7_init ∈ ktG ∧ (yX7_init.name = "<init>" ∧ Cond.instanceMethod yX7_init ∈ ktG) ∧ Cond.initialized yX7_init.cls ∈ ktG ∧ Cond.code yX7_init cX7_init 2 none ∈ ktG := ⟨(kwm 212 (by decide +kernel) (by decide +kernel)), ⟨rfl, (kwm 213 (by decide +kernel) (by decide +kernel))⟩, (kwm 127 (by decide +kernel) (by decide +kernel)), kwm 214 (by decide +kernel) (by decide +kernel)⟩
theorem kh_X7_init : yX7_init.cls ≠ "java/lang/invoke/MethodHandle" ∧ yX7_init.cls ≠ "java/lang/invoke/VarHandle" ∧ (parseMethodDescriptor yX7_init.desc).map (fun d => d.parameters.length) = some 1 := by decide +kernel
theorem kn_RX11_32 : Cond.classLink RX11 32 (kown 4) ∈ ktG ∧ Cond.instantiable (kown 4) (kfts.getD 4 []).length ∈ ktG ∧ Cond.initialized (kown 4) ∈ ktG := ⟨kwm 310 (by decide +kernel) (by decide +kernel), kwm 311 (by decide +kernel) (by decide +kernel), kwm 132 (by decide +kernel) (by decide +kernel)⟩
theorem kc_RX11_38 : Cond.methodLink RX11 38 yX4_init ∈ ktG ∧ (yX4_init.name = "<init>" ∧ Cond.instanceMethod yX4_init ∈ ktG) ∧ Cond.initialized yX4_init.cls ∈ ktG ∧ Cond.code yX4_init cX4_init 3 none ∈ ktG := ⟨(kwm 312 (by decide +kernel) (by decide +kernel)), ⟨rfl, (kwm 313 (by decide +kernel) (by decide +kernel))⟩, (kwm 132 (by decide +kernel) (by decide +kernel)), kwm 314 (by decide +kernel) (by decide +kernel)⟩
theorem kh_X4_init : yX4_init.cls ≠ "java/lang/invoke/MethodHandle" ∧ yX4_init.cls ≠ "java/lang/invoke/VarHandle" ∧ (parseMethodDescriptor yX4_init.desc).map (fun d => d.parameters.length) = some 2 := by decide +kernel
theorem kn_RX11_45 : Cond.classLink RX11 45 (kown 3) ∈ ktG ∧ Cond.instantiable (kown 3) (kfts.getD 3 []).length ∈ ktG ∧ Cond.initialized (kown 3) ∈ ktG := ⟨kwm 326 (by decide +kernel) (by decide +kernel), kwm 327 (by decide +kernel) (by decide +kernel), kwm 133 (by decide +kernel) (by decide +kernel)⟩
theorem kc_RX11_47 : Cond.methodLink RX11 47 yX3_init ∈ ktG ∧ (yX3_init.name = "<init>" ∧ Cond.instanceMethod yX3_init ∈ ktG) ∧ Cond.initialized yX3_init.cls ∈ ktG ∧ Cond.code yX3_init cX3_init 3 none ∈ ktG := ⟨(kwm 328 (by decide +kernel) (by decide +kernel)), ⟨rfl, (kwm 329 (by decide +kernel) (by decide +kernel))⟩, (kwm 133 (by decide +kernel) (by decide +kernel)), kwm 330 (by decide +kernel) (by decide +kernel)⟩
theorem kh_X3_init : yX3_init.cls ≠ "java/lang/invoke/MethodHandle" ∧ yX3_init.cls ≠ "java/lang/invoke/VarHandle" ∧ (parseMethodDescriptor yX3_init.desc).map (fun d => d.parameters.length) = some 2 := by decide +kernel
theorem kn_RX11_54 : Cond.classLink RX11 54 (kown 2) ∈ ktG ∧ Cond.instantiable (kown 2) (kfts.getD 2 []).length ∈ ktG ∧ Cond.initialized (kown 2) ∈ ktG := ⟨kwm 339 (by decide +kernel) (by decide +kernel), kwm 340 (by decide +kernel) (by decide +kernel), kwm 134 (by decide +kernel) (by decide +kernel)⟩
theorem kc_RX11_56 : (RX11, 56, yX2_init, "KingsTest") ∈ knestM ∧ (yX2_init.name = "<init>" ∧ Cond.instanceMethod yX2_init ∈ ktG) ∧ Cond.initialized yX2_init.cls ∈ ktG ∧ Cond.code yX2_init cX2_init 1 none ∈ ktG := ⟨by decide +kernel, ⟨rfl, (kwm 342 (by decide +kernel) (by decide +kernel))⟩, (kwm 134 (by decide +kernel) (by decide +kernel)), kwm 343 (by decide +kernel) (by decide +kernel)⟩
theorem kh_X2_init : yX2_init.cls ≠ "java/lang/invoke/MethodHandle" ∧ yX2_init.cls ≠ "java/lang/invoke/VarHandle" ∧ (parseMethodDescriptor yX2_init.desc).map (fun d => d.parameters.length) = some 0 := by decide +kernel
theorem kn_RX11_64 : Cond.classLink RX11 64 (kown 8) ∈ ktG ∧ Cond.instantiable (kown 8) (kfts.getD 8 []).length ∈ ktG ∧ Cond.initialized (kown 8) ∈ ktG := ⟨kwm 412 (by decide +kernel) (by decide +kernel), kwm 413 (by decide +kernel) (by decide +kernel), kwm 135 (by decide +kernel) (by decide +kernel)⟩
theorem kc_RX11_66 : (RX11, 66, yX8_init, "KingsTest") ∈ knestM ∧ (yX8_init.name = "<init>" ∧ Cond.instanceMethod yX8_init ∈ ktG) ∧ Cond.initialized yX8_init.cls ∈ ktG ∧ Cond.code yX8_init cX8_init 1 none ∈ ktG := ⟨by decide +kernel, ⟨rfl, (kwm 415 (by decide +kernel) (by decide +kernel))⟩, (kwm 135 (by decide +kernel) (by decide +kernel)), kwm 416 (by decide +kernel) (by decide +kernel)⟩
theorem kn_RX11_74 : Cond.classLink RX11 74 (kown 5) ∈ ktG ∧ Cond.instantiable (kown 5) (kfts.getD 5 []).length ∈ ktG ∧ Cond.initialized (kown 5) ∈ ktG := ⟨kwm 448 (by decide +kernel) (by decide +kernel), kwm 449 (by decide +kernel) (by decide +kernel), kwm 136 (by decide +kernel) (by decide +kernel)⟩
theorem kc_RX11_76 : Cond.methodLink RX11 76 yX5_init ∈ ktG ∧ (yX5_init.name = "<init>" ∧ Cond.instanceMethod yX5_init ∈ ktG) ∧ Cond.initialized yX5_init.cls ∈ ktG ∧ Cond.code yX5_init cX5_init 2 none ∈ ktG := ⟨(kwm 450 (by decide +kernel) (by decide +kernel)), ⟨rfl, (kwm 451 (by decide +kernel) (by decide +kernel))⟩, (kwm 136 (by decide +kernel) (by decide +kernel)), kwm 452 (by decide +kernel) (by decide +kernel)⟩
theorem kh_X5_init : yX5_init.cls ≠ "java/lang/invoke/MethodHandle" ∧ yX5_init.cls ≠ "java/lang/invoke/VarHandle" ∧ (parseMethodDescriptor yX5_init.desc).map (fun d => d.parameters.length) = some 0 := by decide +kernel
theorem kn_RX11_81 : Cond.classLink RX11 81 (kown 0) ∈ ktG ∧ Cond.instantiable (kown 0) (kfts.getD 0 []).length ∈ ktG ∧ Cond.initialized (kown 0) ∈ ktG := ⟨kwm 471 (by decide +kernel) (by decide +kernel), kwm 472 (by decide +kernel) (by decide +kernel), kwm 137 (by decide +kernel) (by decide +kernel)⟩
theorem kc_RX11_83 : (RX11, 83, yX0_init, "KingsTest") ∈ knestM ∧ (yX0_init.name = "<init>" ∧ Cond.instanceMethod yX0_init ∈ ktG) ∧ Cond.initialized yX0_init.cls ∈ ktG ∧ Cond.code yX0_init cX0_init 1 none ∈ ktG := ⟨by decide +kernel, ⟨rfl, (kwm 474 (by decide +kernel) (by decide +kernel))⟩, (kwm 137 (by decide +kernel) (by decide +kernel)), kwm 475 (by decide +kernel) (by decide +kernel)⟩
theorem kh_X0_init : yX0_init.cls ≠ "java/lang/invoke/MethodHandle" ∧ yX0_init.cls ≠ "java/lang/invoke/VarHandle" ∧ (parseMethodDescriptor yX0_init.desc).map (fun d => d.parameters.length) = some 0 := by decide +kernel
theorem kn_RX11_88 : Cond.classLink RX11 88 (kown 10) ∈ ktG ∧ Cond.instantiable (kown 10) (kfts.getD 10 []).length ∈ ktG ∧ Cond.initialized (kown 10) ∈ ktG := ⟨kwm 496 (by decide +kernel) (by decide +kernel), kwm 497 (by decide +kernel) (by decide +kernel), kwm 138 (by decide +kernel) (by decide +kernel)⟩
theorem kc_RX11_90 : (RX11, 90, yX10_init, "KingsTest") ∈ knestM ∧ (yX10_init.name = "<init>" ∧ Cond.instanceMethod yX10_init ∈ ktG) ∧ Cond.initialized yX10_init.cls ∈ ktG ∧ Cond.code yX10_init cX10_init 1 none ∈ ktG := ⟨by decide +kernel, ⟨rfl, (kwm 499 (by decide +kernel) (by decide +kernel))⟩, (kwm 138 (by decide +kernel) (by decide +kernel)), kwm 500 (by decide +kernel) (by decide +kernel)⟩
theorem kh_X10_init : yX10_init.cls ≠ "java/lang/invoke/MethodHandle" ∧ yX10_init.cls ≠ "java/lang/invoke/VarHandle" ∧ (parseMethodDescriptor yX10_init.desc).map (fun d => d.parameters.length) = some 0 := by decide +kernel
set_option maxHeartbeats 8000000 in
set_option maxRecDepth 100000 in
def f_iX11_init (h : KH) (v0 : Nat) : Option (KH) :=
  if (kkind h.1 = 9 ∧ 9 < 13) then kl (knew h) fun h2 =>
  if (kkind h.1 = 9 ∧ h.1 < h2.1) then kb (f_iX9_init h2 h.1) fun r5 =>
  if (kkind v0 = 11 ∧ v0 < r5.1) then if h.1 < 999999 then kl (ksR r5 v0 0 h.1) fun h11 =>
  if (kkind h11.1 = 6 ∧ 6 < 13) then kl (knew h11) fun h14 =>
  if (kkind h11.1 = 6 ∧ h11.1 < h14.1) then kb (f_iX6_init h14 h11.1) fun r17 =>
  if (kkind v0 = 11 ∧ v0 < r17.1) then if h11.1 < 999999 then kl (ksR r17 v0 1 h11.1) fun h23 =>
  if (kkind h23.1 = 7 ∧ 7 < 13) then kl (knew h23) fun h26 =>
  if (kkind v0 = 11 ∧ v0 < h26.1) then if (kR h26 v0 0) < 999999 then if (kkind h23.1 = 7 ∧ h23.1 < h26.1) then kb (f_iX7_init h26 h23.1 (kR h26 v0 0)) fun r31 =>
  if (kkind v0 = 11 ∧ v0 < r31.1) then if h23.1 < 999999 then kl (ksR r31 v0 2 h23.1) fun h37 =>
  if (kkind h37.1 = 4 ∧ 4 < 13) then kl (knew h37) fun h40 =>
  if (kkind v0 = 11 ∧ v0 < h40.1) then if (kR h40 v0 2) < 999999 then if (kR h40 v0 1) < 999999 then if (kkind (kR h40 v0 1) = 6 ∧ (kR h40 v0 1) < h40.1) then if (kR h40 (kR h40 v0 1) 0) < 999999 then if (kkind h37.1 = 4 ∧ h37.1 < h40.1) then kb (f_iX4_init h40 h37.1 (kR h40 v0 2) (kR h40 (kR h40 v0 1) 0)) fun r48 =>
  if (kkind v0 = 11 ∧ v0 < r48.1) then if h37.1 < 999999 then kl (ksR r48 v0 3 h37.1) fun h54 =>
  if (kkind h54.1 = 3 ∧ 3 < 13) then kl (knew h54) fun h57 =>
  if (kkind v0 = 11 ∧ v0 < h57.1) then if (kR h57 v0 2) < 999999 then if (kR h57 v0 3) < 999999 then if (kkind h54.1 = 3 ∧ h54.1 < h57.1) then kb (f_iX3_init h57 h54.1 (kR h57 v0 2) (kR h57 v0 3)) fun r63 =>
  if (kkind v0 = 11 ∧ v0 < r63.1) then if h54.1 < 999999 then kl (ksR r63 v0 4 h54.1) fun h69 =>
  if (kkind h69.1 = 2 ∧ 2 < 13) then kl (knew h69) fun h72 =>
  if (kkind h69.1 = 2 ∧ h69.1 < h72.1) then kb (f_iX2_init h72 h69.1) fun r75 =>
  if (kkind v0 = 11 ∧ v0 < r75.1) then if h69.1 < 999999 then kl (ksR r75 v0 5 h69.1) fun h81 =>
  if (kkind h81.1 = 2 ∧ 2 < 13) then kl (knew h81) fun h84 =>
  if (kkind h81.1 = 2 ∧ h81.1 < h84.1) then kb (f_iX2_init h84 h81.1) fun r87 =>
  if (kkind v0 = 11 ∧ v0 < r87.1) then if h81.1 < 999999 then kl (ksR r87 v0 6 h81.1) fun h93 =>
  if (kkind h93.1 = 8 ∧ 8 < 13) then kl (knew h93) fun h96 =>
  if (kkind h93.1 = 8 ∧ h93.1 < h96.1) then kb (f_iX8_init h96 h93.1) fun r99 =>
  if (kkind v0 = 11 ∧ v0 < r99.1) then if h93.1 < 999999 then kl (ksR r99 v0 7 h93.1) fun h105 =>
  if (kkind h105.1 = 8 ∧ 8 < 13) then kl (knew h105) fun h108 =>
  if (kkind h105.1 = 8 ∧ h105.1 < h108.1) then kb (f_iX8_init h108 h105.1) fun r111 =>
  if (kkind v0 = 11 ∧ v0 < r111.1) then if h105.1 < 999999 then kl (ksR r111 v0 8 h105.1) fun h117 =>
  if (kkind h117.1 = 5 ∧ 5 < 13) then kl (knew h117) fun h120 =>
  if (kkind h117.1 = 5 ∧ h117.1 < h120.1) then kb (f_iX5_init h120 h117.1) fun r123 =>
  if (kkind v0 = 11 ∧ v0 < r123.1) then if h117.1 < 999999 then kl (ksR r123 v0 9 h117.1) fun h129 =>
  if (kkind h129.1 = 0 ∧ 0 < 13) then kl (knew h129) fun h132 =>
  if (kkind h129.1 = 0 ∧ h129.1 < h132.1) then kb (f_iX0_init h132 h129.1) fun r135 =>
  if (kkind v0 = 11 ∧ v0 < r135.1) then if h129.1 < 999999 then kl (ksR r135 v0 10 h129.1) fun h141 =>
  if (kkind h141.1 = 10 ∧ 10 < 13) then kl (knew h141) fun h144 =>
  if (kkind h141.1 = 10 ∧ h141.1 < h144.1) then kb (f_iX10_init h144 h141.1) fun r147 =>
  if (kkind v0 = 11 ∧ v0 < r147.1) then if h141.1 < 999999 then kl (ksR r147 v0 11 h141.1) fun h153 =>
  if (kkind h153.1 = 20 ∧ klen h153.1 = ((64 : Int32)).toNatClampNeg ∧ ¬ (64 : Int32) < 0 ∧ klen h153.1 ≤ 9000) then kl (knew h153) fun h156 =>
  if (kkind v0 = 11 ∧ v0 < h156.1) then if h153.1 < 999999 then kl (ksR h156 v0 12 h153.1) fun h160 =>
  if (kkind v0 = 11 ∧ v0 < h160.1) then kl (ksI h160 v0 13 (0 : Int32)) fun h163 =>
  if (kkind v0 = 11 ∧ v0 < h163.1) then kl (ksI h163 v0 14 (1 : Int32)) fun h166 =>
  if (kkind h166.1 = 20 ∧ klen h166.1 = ((27 : Int32)).toNatClampNeg ∧ ¬ (27 : Int32) < 0 ∧ klen h166.1 ≤ 9000) then kl (knew h166) fun h169 =>
  if (kkind v0 = 11 ∧ v0 < h169.1) then if h166.1 < 999999 then kl (ksR h169 v0 15 h166.1) fun h173 =>
  if (kkind v0 = 11 ∧ v0 < h173.1) then kl (ksI h173 v0 16 (0 : Int32)) fun h176 =>
  if (kkind h176.1 = 20 ∧ klen h176.1 = ((6 : Int32)).toNatClampNeg ∧ ¬ (6 : Int32) < 0 ∧ klen h176.1 ≤ 9000) then kl (knew h176) fun h179 =>
  if (kkind v0 = 11 ∧ v0 < h179.1) then if h176.1 < 999999 then kl (ksR h179 v0 17 h176.1) fun h183 =>
  some h183 else none else none else none else none else none else none else none else none else none else none else none else none else none else none else none else none else none else none else none else none else none else none else none else none else none else none else none else none else none else none else none else none else none else none else none else none else none else none else none else none else none else none else none else none else none else none else none else none else none else none else none else none else none else none else none else none else none else none else none else none else none else none else none else none else none else none else none else none else none else none
set_option maxHeartbeats 8000000 in
set_option maxRecDepth 100000 in
theorem s0_iX11_init {xs : Nat → Int32} {L : Nat} (h : KH) (v0 : Nat) {t : KH} (H : f_iX11_init h v0 = some t) : KX (KZs xs L) RX11 cX11_init 1 true 8 (KRv cX11_init t) 0 [(0, .ref v0)] [] h := by
  unfold f_iX11_init at H
  refine x_aload_n (q := 1) dX11_init_0 rfl rfl ?_
  refine x_objInit (q := 4) (rest := []) dX11_init_1 rfl ko_RX11_3 (by decide) (Nat.le_of_ble_eq_true rfl) ?_
  refine x_aload_n (q := 5) dX11_init_4 rfl rfl ?_
  replace H := kif H; obtain ⟨g1, H⟩ := H
  replace H := kle H; obtain ⟨h2, q3, H⟩ := H
  refine x_new (q := 8) (ci := 9) dX11_init_5 rfl kn_RX11_9 g1 ?_
  refine x_nmH q3 ?_
  refine x_dup (q := 9) dX11_init_8 rfl rfl ?_
  replace H := kif H; obtain ⟨g4, H⟩ := H
  replace H := kbe H; obtain ⟨r5, c6, H⟩ := H
  have m7 := s_iX9_init (xs := xs) (L := L) h2 h.1  c6
  refine x_callIN (q := 12) (as := []) (rest := [.ref h.1, .ref v0]) dX11_init_9 rfl kc_RX11_11 kh_X9_init (by decide) (Nat.le_of_ble_eq_true rfl) m7 ?_
  replace H := kif H; obtain ⟨g9, H⟩ := H
  replace H := kif H; obtain ⟨g10, H⟩ := H
  replace H := kle H; obtain ⟨h11, q12, H⟩ := H
  refine x_putR (q := 15) dX11_init_12 rfl kl_RX11_12 (Or.inr ⟨rfl, rfl⟩) rfl g10 g9 ?_
  refine x_nmH q12 ?_
  refine x_aload_n (q := 16) dX11_init_15 rfl rfl ?_
  replace H := kif H; obtain ⟨g13, H⟩ := H
  replace H := kle H; obtain ⟨h14, q15, H⟩ := H
  refine x_new (q := 19) (ci := 6) dX11_init_16 rfl kn_RX11_16 g13 ?_
  refine x_nmH q15 ?_
  refine x_dup (q := 20) dX11_init_19 rfl rfl ?_
  replace H := kif H; obtain ⟨g16, H⟩ := H
  replace H := kbe H; obtain ⟨r17, c18, H⟩ := H
  have m19 := s_iX6_init (xs := xs) (L := L) h14 h11.1  c18
  refine x_callIN (q := 23) (as := []) (rest := [.ref h11.1, .ref v0]) dX11_init_20 rfl kc_RX11_18 kh_X6_init (by decide) (Nat.le_of_ble_eq_true rfl) m19 ?_
  replace H := kif H; obtain ⟨g21, H⟩ := H
  replace H := kif H; obtain ⟨g22, H⟩ := H
  replace H := kle H; obtain ⟨h23, q24, H⟩ := H
  refine x_putR (q := 26) dX11_init_23 rfl kl_RX11_19 (Or.inr ⟨rfl, rfl⟩) rfl g22 g21 ?_
  refine x_nmH q24 ?_
  refine x_aload_n (q := 27) dX11_init_26 rfl rfl ?_
  replace H := kif H; obtain ⟨g25, H⟩ := H
  replace H := kle H; obtain ⟨h26, q27, H⟩ := H
  refine x_new (q := 30) (ci := 7) dX11_init_27 rfl kn_RX11_23 g25 ?_
  refine x_nmH q27 ?_
  refine x_dup (q := 31) dX11_init_30 rfl rfl ?_
  refine x_aload_n (q := 32) dX11_init_31 rfl rfl ?_
  replace H := kif H; obtain ⟨g28, H⟩ := H
  replace H := kif H; obtain ⟨g29, H⟩ := H
  refine x_getR (q := 35) dX11_init_32 rfl kl_RX11_12 rfl g28 g29 ?_
  replace H := kif H; obtain ⟨g30, H⟩ := H
  replace H := kbe H; obtain ⟨r31, c32, H⟩ := H
  have m33 := s_iX7_init (xs := xs) (L := L) h26 h23.1 (kR h26 v0 0)  c32
  refine x_callI (q := 38) (as := [.ref (kR h26 v0 0)]) (rest := [.ref h23.1, .ref v0]) dX11_init_35 rfl kc_RX11_25 kh_X7_init (by decide) (Nat.le_of_ble_eq_true rfl) m33 ?_
  replace H := kif H; obtain ⟨g35, H⟩ := H
  replace H := kif H; obtain ⟨g36, H⟩ := H
  replace H := kle H; obtain ⟨h37, q38, H⟩ := H
  refine x_putR (q := 41) dX11_init_38 rfl kl_RX11_28 (Or.inr ⟨rfl, rfl⟩) rfl g36 g35 ?_
  refine x_nmH q38 ?_
  refine x_aload_n (q := 42) dX11_init_41 rfl rfl ?_
  replace H := kif H; obtain ⟨g39, H⟩ := H
  replace H := kle H; obtain ⟨h40, q41, H⟩ := H
  refine x_new (q := 45) (ci := 4) dX11_init_42 rfl kn_RX11_32 g39 ?_
  refine x_nmH q41 ?_
  refine x_dup (q := 46) dX11_init_45 rfl rfl ?_
  refine x_aload_n (q := 47) dX11_init_46 rfl rfl ?_
  replace H := kif H; obtain ⟨g42, H⟩ := H
  replace H := kif H; obtain ⟨g43, H⟩ := H
  refine x_getR (q := 50) dX11_init_47 rfl kl_RX11_28 rfl g42 g43 ?_
  refine x_aload_n (q := 51) dX11_init_50 rfl rfl ?_
  replace H := kif H; obtain ⟨g44, H⟩ := H
  refine x_getR (q := 54) dX11_init_51 rfl kl_RX11_19 rfl g42 g44 ?_
  replace H := kif H; obtain ⟨g45, H⟩ := H
  replace H := kif H; obtain ⟨g46, H⟩ := H
  refine x_getR (q := 57) dX11_init_54 rfl kl_RX11_34 rfl g45 g46 ?_
  replace H := kif H; obtain ⟨g47, H⟩ := H
  replace H := kbe H; obtain ⟨r48, c49, H⟩ := H
  have m50 := s_iX4_init (xs := xs) (L := L) h40 h37.1 (kR h40 v0 2) (kR h40 (kR h40 v0 1) 0)  c49
  refine x_callI (q := 60) (as := [.ref (kR h40 v0 2), .ref (kR h40 (kR h40 v0 1) 0)]) (rest := [.ref h37.1, .ref v0]) dX11_init_57 rfl kc_RX11_38 kh_X4_init (by decide) (Nat.le_of_ble_eq_true rfl) m50 ?_
  replace H := kif H; obtain ⟨g52, H⟩ := H
  replace H := kif H; obtain ⟨g53, H⟩ := H
  replace H := kle H; obtain ⟨h54, q55, H⟩ := H
  refine x_putR (q := 63) dX11_init_60 rfl kl_RX11_41 (Or.inr ⟨rfl, rfl⟩) rfl g53 g52 ?_
  refine x_nmH q55 ?_
  refine x_aload_n (q := 64) dX11_init_63 rfl rfl ?_
  replace H := kif H; obtain ⟨g56, H⟩ := H
  replace H := kle H; obtain ⟨h57, q58, H⟩ := H
  refine x_new (q := 67) (ci := 3) dX11_init_64 rfl kn_RX11_45 g56 ?_
  refine x_nmH q58 ?_
  refine x_dup (q := 68) dX11_init_67 rfl rfl ?_
  refine x_aload_n (q := 69) dX11_init_68 rfl rfl ?_
  replace H := kif H; obtain ⟨g59, H⟩ := H
  replace H := kif H; obtain ⟨g60, H⟩ := H
  refine x_getR (q := 72) dX11_init_69 rfl kl_RX11_28 rfl g59 g60 ?_
  refine x_aload_n (q := 73) dX11_init_72 rfl rfl ?_
  replace H := kif H; obtain ⟨g61, H⟩ := H
  refine x_getR (q := 76) dX11_init_73 rfl kl_RX11_41 rfl g59 g61 ?_
  replace H := kif H; obtain ⟨g62, H⟩ := H
  replace H := kbe H; obtain ⟨r63, c64, H⟩ := H
  have m65 := s_iX3_init (xs := xs) (L := L) h57 h54.1 (kR h57 v0 2) (kR h57 v0 3)  c64
  refine x_callI (q := 79) (as := [.ref (kR h57 v0 2), .ref (kR h57 v0 3)]) (rest := [.ref h54.1, .ref v0]) dX11_init_76 rfl kc_RX11_47 kh_X3_init (by decide) (Nat.le_of_ble_eq_true rfl) m65 ?_
  replace H := kif H; obtain ⟨g67, H⟩ := H
  replace H := kif H; obtain ⟨g68, H⟩ := H
  replace H := kle H; obtain ⟨h69, q70, H⟩ := H
  refine x_putR (q := 82) dX11_init_79 rfl kl_RX11_50 (Or.inr ⟨rfl, rfl⟩) rfl g68 g67 ?_
  refine x_nmH q70 ?_
  refine x_aload_n (q := 83) dX11_init_82 rfl rfl ?_
  replace H := kif H; obtain ⟨g71, H⟩ := H
  replace H := kle H; obtain ⟨h72, q73, H⟩ := H
  refine x_new (q := 86) (ci := 2) dX11_init_83 rfl kn_RX11_54 g71 ?_
  refine x_nmH q73 ?_
  refine x_dup (q := 87) dX11_init_86 rfl rfl ?_
  replace H := kif H; obtain ⟨g74, H⟩ := H
  replace H := kbe H; obtain ⟨r75, c76, H⟩ := H
  have m77 := s_iX2_init (xs := xs) (L := L) h72 h69.1  c76
  refine x_callIN (q := 90) (as := []) (rest := [.ref h69.1, .ref v0]) dX11_init_87 rfl kc_RX11_56 kh_X2_init (by decide) (Nat.le_of_ble_eq_true rfl) m77 ?_
  replace H := kif H; obtain ⟨g79, H⟩ := H
  replace H := kif H; obtain ⟨g80, H⟩ := H
  replace H := kle H; obtain ⟨h81, q82, H⟩ := H
  refine x_putR (q := 93) dX11_init_90 rfl kl_RX11_57 (Or.inl rfl) rfl g80 g79 ?_
  refine x_nmH q82 ?_
  refine x_aload_n (q := 94) dX11_init_93 rfl rfl ?_
  replace H := kif H; obtain ⟨g83, H⟩ := H
  replace H := kle H; obtain ⟨h84, q85, H⟩ := H
  refine x_new (q := 97) (ci := 2) dX11_init_94 rfl kn_RX11_54 g83 ?_
  refine x_nmH q85 ?_
  refine x_dup (q := 98) dX11_init_97 rfl rfl ?_
  replace H := kif H; obtain ⟨g86, H⟩ := H
  replace H := kbe H; obtain ⟨r87, c88, H⟩ := H
  have m89 := s_iX2_init (xs := xs) (L := L) h84 h81.1  c88
  refine x_callIN (q := 101) (as := []) (rest := [.ref h81.1, .ref v0]) dX11_init_98 rfl kc_RX11_56 kh_X2_init (by decide) (Nat.le_of_ble_eq_true rfl) m89 ?_
  replace H := kif H; obtain ⟨g91, H⟩ := H
  replace H := kif H; obtain ⟨g92, H⟩ := H
  replace H := kle H; obtain ⟨h93, q94, H⟩ := H
  refine x_putR (q := 104) dX11_init_101 rfl kl_RX11_61 (Or.inl rfl) rfl g92 g91 ?_
  refine x_nmH q94 ?_
  refine x_aload_n (q := 105) dX11_init_104 rfl rfl ?_
  replace H := kif H; obtain ⟨g95, H⟩ := H
  replace H := kle H; obtain ⟨h96, q97, H⟩ := H
  refine x_new (q := 108) (ci := 8) dX11_init_105 rfl kn_RX11_64 g95 ?_
  refine x_nmH q97 ?_
  refine x_dup (q := 109) dX11_init_108 rfl rfl ?_
  replace H := kif H; obtain ⟨g98, H⟩ := H
  replace H := kbe H; obtain ⟨r99, c100, H⟩ := H
  have m101 := s_iX8_init (xs := xs) (L := L) h96 h93.1  c100
  refine x_callIN (q := 112) (as := []) (rest := [.ref h93.1, .ref v0]) dX11_init_109 rfl kc_RX11_66 kh_X8_init (by decide) (Nat.le_of_ble_eq_true rfl) m101 ?_
  replace H := kif H; obtain ⟨g103, H⟩ := H
  replace H := kif H; obtain ⟨g104, H⟩ := H
  replace H := kle H; obtain ⟨h105, q106, H⟩ := H
  refine x_putR (q := 115) dX11_init_112 rfl kl_RX11_67 (Or.inr ⟨rfl, rfl⟩) rfl g104 g103 ?_
  refine x_nmH q106 ?_
  refine x_aload_n (q := 116) dX11_init_115 rfl rfl ?_
  replace H := kif H; obtain ⟨g107, H⟩ := H
  replace H := kle H; obtain ⟨h108, q109, H⟩ := H
  refine x_new (q := 119) (ci := 8) dX11_init_116 rfl kn_RX11_64 g107 ?_
  refine x_nmH q109 ?_
  refine x_dup (q := 120) dX11_init_119 rfl rfl ?_
  replace H := kif H; obtain ⟨g110, H⟩ := H
  replace H := kbe H; obtain ⟨r111, c112, H⟩ := H
  have m113 := s_iX8_init (xs := xs) (L := L) h108 h105.1  c112
  refine x_callIN (q := 123) (as := []) (rest := [.ref h105.1, .ref v0]) dX11_init_120 rfl kc_RX11_66 kh_X8_init (by decide) (Nat.le_of_ble_eq_true rfl) m113 ?_
  replace H := kif H; obtain ⟨g115, H⟩ := H
  replace H := kif H; obtain ⟨g116, H⟩ := H
  replace H := kle H; obtain ⟨h117, q118, H⟩ := H
  refine x_putR (q := 126) dX11_init_123 rfl kl_RX11_71 (Or.inr ⟨rfl, rfl⟩) rfl g116 g115 ?_
  refine x_nmH q118 ?_
  refine x_aload_n (q := 127) dX11_init_126 rfl rfl ?_
  replace H := kif H; obtain ⟨g119, H⟩ := H
  replace H := kle H; obtain ⟨h120, q121, H⟩ := H
  refine x_new (q := 130) (ci := 5) dX11_init_127 rfl kn_RX11_74 g119 ?_
  refine x_nmH q121 ?_
  refine x_dup (q := 131) dX11_init_130 rfl rfl ?_
  replace H := kif H; obtain ⟨g122, H⟩ := H
  replace H := kbe H; obtain ⟨r123, c124, H⟩ := H
  have m125 := s_iX5_init (xs := xs) (L := L) h120 h117.1  c124
  refine x_callI (q := 134) (as := []) (rest := [.ref h117.1, .ref v0]) dX11_init_131 rfl kc_RX11_76 kh_X5_init (by decide) (Nat.le_of_ble_eq_true rfl) m125 ?_
  replace H := kif H; obtain ⟨g127, H⟩ := H
  replace H := kif H; obtain ⟨g128, H⟩ := H
  replace H := kle H; obtain ⟨h129, q130, H⟩ := H
  refine x_putR (q := 137) dX11_init_134 rfl kl_RX11_77 (Or.inr ⟨rfl, rfl⟩) rfl g128 g127 ?_
  refine x_nmH q130 ?_
  refine x_aload_n (q := 138) dX11_init_137 rfl rfl ?_
  replace H := kif H; obtain ⟨g131, H⟩ := H
  replace H := kle H; obtain ⟨h132, q133, H⟩ := H
  refine x_new (q := 141) (ci := 0) dX11_init_138 rfl kn_RX11_81 g131 ?_
  refine x_nmH q133 ?_
  refine x_dup (q := 142) dX11_init_141 rfl rfl ?_
  replace H := kif H; obtain ⟨g134, H⟩ := H
  replace H := kbe H; obtain ⟨r135, c136, H⟩ := H
  have m137 := s_iX0_init (xs := xs) (L := L) h132 h129.1  c136
  refine x_callIN (q := 145) (as := []) (rest := [.ref h129.1, .ref v0]) dX11_init_142 rfl kc_RX11_83 kh_X0_init (by decide) (Nat.le_of_ble_eq_true rfl) m137 ?_
  replace H := kif H; obtain ⟨g139, H⟩ := H
  replace H := kif H; obtain ⟨g140, H⟩ := H
  replace H := kle H; obtain ⟨h141, q142, H⟩ := H
  refine x_putR (q := 148) dX11_init_145 rfl kl_RX11_84 (Or.inr ⟨rfl, rfl⟩) rfl g140 g139 ?_
  refine x_nmH q142 ?_
  refine x_aload_n (q := 149) dX11_init_148 rfl rfl ?_
  replace H := kif H; obtain ⟨g143, H⟩ := H
  replace H := kle H; obtain ⟨h144, q145, H⟩ := H
  refine x_new (q := 152) (ci := 10) dX11_init_149 rfl kn_RX11_88 g143 ?_
  refine x_nmH q145 ?_
  refine x_dup (q := 153) dX11_init_152 rfl rfl ?_
  replace H := kif H; obtain ⟨g146, H⟩ := H
  replace H := kbe H; obtain ⟨r147, c148, H⟩ := H
  have m149 := s_iX10_init (xs := xs) (L := L) h144 h141.1  c148
  refine x_callIN (q := 156) (as := []) (rest := [.ref h141.1, .ref v0]) dX11_init_153 rfl kc_RX11_90 kh_X10_init (by decide) (Nat.le_of_ble_eq_true rfl) m149 ?_
  replace H := kif H; obtain ⟨g151, H⟩ := H
  replace H := kif H; obtain ⟨g152, H⟩ := H
  replace H := kle H; obtain ⟨h153, q154, H⟩ := H
  refine x_putR (q := 159) dX11_init_156 rfl kl_RX11_91 (Or.inr ⟨rfl, rfl⟩) rfl g152 g151 ?_
  refine x_nmH q154 ?_
  refine x_aload_n (q := 160) dX11_init_159 rfl rfl ?_
  refine x_bipush (q := 162) (v := (64 : Int32)) dX11_init_160 rfl (by decide) ?_
  replace H := kif H; obtain ⟨g155, H⟩ := H
  replace H := kle H; obtain ⟨h156, q157, H⟩ := H
  refine x_newa (q := 164) (kk := 20) dX11_init_162 rfl (Or.inl ⟨rfl, rfl⟩) kwa_int g155 ?_
  refine x_nmH q157 ?_
  replace H := kif H; obtain ⟨g158, H⟩ := H
  replace H := kif H; obtain ⟨g159, H⟩ := H
  replace H := kle H; obtain ⟨h160, q161, H⟩ := H
  refine x_putR (q := 167) dX11_init_164 rfl kl_RX11_95 (Or.inr ⟨rfl, rfl⟩) rfl g159 g158 ?_
  refine x_nmH q161 ?_
  refine x_aload_n (q := 168) dX11_init_167 rfl rfl ?_
  refine x_iconst (q := 169) (v := (0 : Int32)) dX11_init_168 rfl (by decide) ?_
  replace H := kif H; obtain ⟨g162, H⟩ := H
  replace H := kle H; obtain ⟨h163, q164, H⟩ := H
  refine x_putI (q := 172) dX11_init_169 rfl kl_RX11_99 (Or.inl rfl) rfl g162 ?_
  refine x_nmH q164 ?_
  refine x_aload_n (q := 173) dX11_init_172 rfl rfl ?_
  refine x_iconst (q := 174) (v := (1 : Int32)) dX11_init_173 rfl (by decide) ?_
  replace H := kif H; obtain ⟨g165, H⟩ := H
  replace H := kle H; obtain ⟨h166, q167, H⟩ := H
  refine x_putI (q := 177) dX11_init_174 rfl kl_RX11_103 (Or.inl rfl) rfl g165 ?_
  refine x_nmH q167 ?_
  refine x_aload_n (q := 178) dX11_init_177 rfl rfl ?_
  refine x_bipush (q := 180) (v := (27 : Int32)) dX11_init_178 rfl (by decide) ?_
  replace H := kif H; obtain ⟨g168, H⟩ := H
  replace H := kle H; obtain ⟨h169, q170, H⟩ := H
  refine x_newa (q := 182) (kk := 20) dX11_init_180 rfl (Or.inl ⟨rfl, rfl⟩) kwa_int g168 ?_
  refine x_nmH q170 ?_
  replace H := kif H; obtain ⟨g171, H⟩ := H
  replace H := kif H; obtain ⟨g172, H⟩ := H
  replace H := kle H; obtain ⟨h173, q174, H⟩ := H
  refine x_putR (q := 185) dX11_init_182 rfl kl_RX11_106 (Or.inr ⟨rfl, rfl⟩) rfl g172 g171 ?_
  refine x_nmH q174 ?_
  refine x_aload_n (q := 186) dX11_init_185 rfl rfl ?_
  refine x_iconst (q := 187) (v := (0 : Int32)) dX11_init_186 rfl (by decide) ?_
  replace H := kif H; obtain ⟨g175, H⟩ := H
  replace H := kle H; obtain ⟨h176, q177, H⟩ := H
  refine x_putI (q := 190) dX11_init_187 rfl kl_RX11_109 (Or.inl rfl) rfl g175 ?_
  refine x_nmH q177 ?_
  refine x_aload_n (q := 191) dX11_init_190 rfl rfl ?_
  refine x_bipush (q := 193) (v := (6 : Int32)) dX11_init_191 rfl (by decide) ?_
  replace H := kif H; obtain ⟨g178, H⟩ := H
  replace H := kle H; obtain ⟨h179, q180, H⟩ := H
  refine x_newa (q := 195) (kk := 20) dX11_init_193 rfl (Or.inl ⟨rfl, rfl⟩) kwa_int g178 ?_
  refine x_nmH q180 ?_
  replace H := kif H; obtain ⟨g181, H⟩ := H
  replace H := kif H; obtain ⟨g182, H⟩ := H
  replace H := kle H; obtain ⟨h183, q184, H⟩ := H
  refine x_putR (q := 198) dX11_init_195 rfl kl_RX11_112 (Or.inr ⟨rfl, rfl⟩) rfl g182 g181 ?_
  refine x_nmH q184 ?_
  cases H
  exact x_end ⟨dX11_init_198, rfl, rfl⟩
theorem s_iX11_init {xs : Nat → Int32} {L : Nat} (h : KH) (v0 : Nat) {t : KH} (H : f_iX11_init h v0 = some t) : KM (KZs xs L) yX11_init cX11_init 1 none 8 [.ref v0] h none t :=
  kx_v (own := RX11) (ini := true) (by decide +kernel) (by decide +kernel) rfl (Nat.le_of_ble_eq_true rfl) (s0_iX11_init h v0 H)
