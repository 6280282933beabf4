/-! rows of instructions that read and write cells -/
def ktyOK : Nat → FieldType → Bool
  | 0, .int => true
  | 1, .long => true
  | 2, .object _ => true
  | 2, .array _ => true
  | 3, .boolean => true
  | _, _ => false
def kty (ci j : Nat) : Nat := (kfts.getD ci []).getD j 9
def kfin (ci j : Nat) : Bool := match kcl[ci]? with | some q => (q.2.1 j).2.2.2 | none => true
def kown (ci : Nat) : String := match kcl[ci]? with | some q => q.1 | none => ""
/-- a class's facts -/
def KFC (ci : Nat) : Prop := ∃ (C : String) (T : u_T) (N : Nat) (ty0 : Nat → FieldType), kcl[ci]? = some (C, T, N) ∧ (kfts.getD ci []).length = N ∧ (∀ w ∈ u_ws C T N, w ∈ ktG) ∧ (∀ k, k < N → parseFieldDescriptor (T k).2.2.1 = some (ty0 k)) ∧ (∀ a, a < N → ∀ b, b < N → a ≠ b → (T a).2.1 ≠ (T b).2.1) ∧ (∀ k, k < N → (T k).1 = C) ∧ ∀ k, k < N → ktyOK (kty ci k) (ty0 k) = true
theorem KFC_all : ∀ ci, ci < 13 → KFC ci := by
  intro ci h
  match ci, h with
  | 0, _ => exact ⟨RX0, TX0, 4, tyX0, rfl, rfl, lgX0, tyX0_ok, nmX0, by decide +kernel, by decide +kernel⟩
  | 1, _ => exact ⟨RX1, TX1, 3, tyX1, rfl, rfl, lgX1, tyX1_ok, nmX1, by decide +kernel, by decide +kernel⟩
  | 2, _ => exact ⟨RX2, TX2, 12, tyX2, rfl, rfl, lgX2, tyX2_ok, nmX2, by decide +kernel, by decide +kernel⟩
  | 3, _ => exact ⟨RX3, TX3, 2, tyX3, rfl, rfl, lgX3, tyX3_ok, nmX3, by decide +kernel, by decide +kernel⟩
  | 4, _ => exact ⟨RX4, TX4, 3, tyX4, rfl, rfl, lgX4, tyX4_ok, nmX4, by decide +kernel, by decide +kernel⟩
  | 5, _ => exact ⟨RX5, TX5, 4, tyX5, rfl, rfl, lgX5, tyX5_ok, nmX5, by decide +kernel, by decide +kernel⟩
  | 6, _ => exact ⟨RX6, TX6, 5, tyX6, rfl, rfl, lgX6, tyX6_ok, nmX6, by decide +kernel, by decide +kernel⟩
  | 7, _ => exact ⟨RX7, TX7, 9, tyX7, rfl, rfl, lgX7, tyX7_ok, nmX7, by decide +kernel, by decide +kernel⟩
  | 8, _ => exact ⟨RX8, TX8, 6, tyX8, rfl, rfl, lgX8, tyX8_ok, nmX8, by decide +kernel, by decide +kernel⟩
  | 9, _ => exact ⟨RX9, TX9, 2, tyX9, rfl, rfl, lgX9, tyX9_ok, nmX9, by decide +kernel, by decide +kernel⟩
  | 10, _ => exact ⟨RX10, TX10, 8, tyX10, rfl, rfl, lgX10, tyX10_ok, nmX10, by decide +kernel, by decide +kernel⟩
  | 11, _ => exact ⟨RX11, TX11, 18, tyX11, rfl, rfl, lgX11, tyX11_ok, nmX11, by decide +kernel, by decide +kernel⟩
  | 12, _ => exact ⟨RX12, TX12, 97, tyX12, rfl, rfl, lgX12, tyX12_ok, nmX12, by decide +kernel, by decide +kernel⟩
/-- a field's place in a class's constants -/
def KLk (own : String) (idx ci j : Nat) : Prop := ∃ (C : String) (T : u_T) (N : Nat), kcl[ci]? = some (C, T, N) ∧ j < N ∧ (Cond.fieldLink own idx C (T j).2.1 (T j).2.2.1 ∈ ktG ∨ (own, idx, C, (T j).2.1, (T j).2.2.1, "KingsTest") ∈ knestF)
theorem kkind_lt {l : Nat} (h : kkind l < 99) : l < 243 := by
  by_cases hl : l < 243
  · exact hl
  · have : kcells.length = 243 := rfl
    unfold kkind at h
    rw [List.getD_eq_getElem?_getD, List.getElem?_eq_none (by omega)] at h
    exact absurd h (by decide)
theorem kadr_lt {base : Nat} {sA : Nat → Nat} {l : Nat} (h : l < 999999) : kadr base sA l = base + l := if_pos h
theorem kadr_k {base : Nat} {sA : Nat → Nat} {l : Nat} (h : kkind l < 99) : kadr base sA l = base + l := kadr_lt (Nat.lt_trans (kkind_lt h) (Nat.le_of_ble_eq_true rfl))
theorem kty_getD {ci j : Nat} (hj : j < (kfts.getD ci []).length) : (kfts.getD ci []).getD j 0 = kty ci j := by
  unfold kty
  generalize kfts.getD ci [] = ts at hj ⊢
  rw [List.getD_eq_getElem?_getD, List.getD_eq_getElem?_getD, List.getElem?_eq_getElem hj]
  rfl
theorem kfields_len {base : Nat} {h : KH} {l : Nat} {ts : List Nat} : (kfields base h l ts).length = ts.length := by simp [kfields]
theorem kfields_get {base : Nat} {h : KH} {l : Nat} {ts : List Nat} {j : Nat} (hj : j < ts.length) : (kfields base h l ts)[j]? = some (kfv base h l (ts.getD j 0) j) := by
  simp [kfields, hj]
theorem kcell_o {dA : Nat → ClassId} {base : Nat} {h : KH} {l ci : Nat} (hk : kkind l = ci) (hc : ci < 20) : kcell dA base h l = .inr (ci, kfields base h l (kfts.getD ci [])) := by
  unfold kcell
  rw [if_pos (by rw [hk]; exact hc), hk]
theorem kcell_i {dA : Nat → ClassId} {base : Nat} {h : KH} {l k : Nat} (hk : kkind l = k) (hc : k = 20 ∨ k = 22 ∨ k = 23) : kcell dA base h l = .inl (dA k, klen l, .inl (kI h l)) := by
  unfold kcell
  rw [hk, if_neg (by omega), if_neg (by omega), if_neg (by omega)]
theorem kcell_l {dA : Nat → ClassId} {base : Nat} {h : KH} {l : Nat} (hk : kkind l = 21) : kcell dA base h l = .inl (dA 21, klen l, .inr (.inl (kL h l))) := by
  unfold kcell
  rw [hk, if_neg (by omega), if_pos rfl]
theorem kcell_q {dA : Nat → ClassId} {base : Nat} {h : KH} {l k : Nat} (hk : kkind l = k) (hc : k = 24 ∨ k = 25) : kcell dA base h l = .inl (dA k, klen l, .inr (.inr (.inr (.inr (fun j => krq base (kR h l j)))))) := by
  unfold kcell
  rw [hk, if_neg (by omega), if_neg (by omega), if_pos (by omega)]
theorem kcl_lt {ci : Nat} {q : vw_C} (h : kcl[ci]? = some q) : ci < 13 := (List.getElem?_eq_some_iff.mp h).1
theorem kI_sI {h : KH} {l j a b : Nat} {v : Int32} : kI (ksI h l j v) a b = if a = l ∧ b = j then v else kI h a b := rfl
theorem kL_sI {h : KH} {l j a b : Nat} {v : Int32} : kL (ksI h l j v) a b = kL h a b := rfl
theorem kR_sI {h : KH} {l j a b : Nat} {v : Int32} : kR (ksI h l j v) a b = kR h a b := rfl
theorem kI_sL {h : KH} {l j a b : Nat} {v : Int64} : kI (ksL h l j v) a b = kI h a b := rfl
theorem kL_sL {h : KH} {l j a b : Nat} {v : Int64} : kL (ksL h l j v) a b = if a = l ∧ b = j then v else kL h a b := rfl
theorem kR_sL {h : KH} {l j a b : Nat} {v : Int64} : kR (ksL h l j v) a b = kR h a b := rfl
theorem kI_sR {h : KH} {l j a b v : Nat} : kI (ksR h l j v) a b = kI h a b := rfl
theorem kL_sR {h : KH} {l j a b v : Nat} : kL (ksR h l j v) a b = kL h a b := rfl
theorem kR_sR {h : KH} {l j a b v : Nat} : kR (ksR h l j v) a b = if a = l ∧ b = j then v else kR h a b := rfl
theorem kcell_other {dA : Nat → ClassId} {base : Nat} {h h' : KH} {l : Nat} (hI : ∀ a j, a ≠ l → kI h' a j = kI h a j) (hL : ∀ a j, a ≠ l → kL h' a j = kL h a j) (hR : ∀ a j, a ≠ l → kR h' a j = kR h a j) : ∀ a, a ≠ l → kcell dA base h' a = kcell dA base h a :=
  fun a ha => kcell_ext (fun j => hI a j ha) (fun j => hL a j ha) (fun j => hR a j ha)
theorem kfields_set {base : Nat} {h h' : KH} {l j : Nat} {v : Value} {ts : List Nat} (hv : kfv base h' l (ts.getD j 0) j = v) (ho : ∀ i, i ≠ j → kI h' l i = kI h l i ∧ kL h' l i = kL h l i ∧ kR h' l i = kR h l i) : kfields base h' l ts = (kfields base h l ts).set j v := by
  apply List.ext_getElem?
  intro i
  by_cases hi : i < ts.length
  · rw [kfields_get hi]
    by_cases hij : i = j
    · subst hij
      rw [List.getElem?_set_self (by simp [kfields, hi]), hv]
    · rw [List.getElem?_set_ne (Ne.symm hij), kfields_get hi]
      obtain ⟨e1, e2, e3⟩ := ho i hij
      simp only [kfv, e1, e2, e3]
  · rw [List.getElem?_eq_none (by simp [kfields]; omega), List.getElem?_eq_none (by simp [kfields]; omega)]
theorem knest_ne : ∀ q ∈ knestF, q.1 ≠ q.2.2.1 := by decide +kernel
theorem kW_size {D : va_G} {dA : Nat → ClassId} {base n0 : Nat} {h : KH} {p : Program} {l : Launch} {e : Env} {R : Room} {s : State} {m : MethodId} {args : Array Value} {below : List Frame} {meth : Method} {c : Code} {H : Heap} {locs : List Loc} {cells slots : Nat} {Q : State → Prop} {g : JFrame} (hs : s.heap.size = base + n0) (h1 : cells + n0 = h.1) (hP : va_P D kcl (kws dA base h) H) (hz : s.heap.size ≤ H.size)
    (k : KHp D dA base h H → W p l e R s m args below meth c H locs cells slots Q g) : W p l e R s m args below meth c H locs cells slots Q g := by
  intro T hT X
  refine k ⟨hP, ?_⟩ T hT X
  have hu := X.heapSize
  rw [hT] at hu
  by_cases h0 : h.1 = 0
  · omega
  · have := (hP (h.1 - 1) _ (kws_get (by omega))).lt
    simp only at this
    omega
section KR
variable {Z : Nat → (Nat → Nat) → State → Prop} {own : String} {cc : ByteArray} {nL : Nat} {ini : Bool} {d pc : Nat} {ls : List (Nat × Value)} {st : List Value} {h : KH} {pc9 : Nat} {ls9 : List (Nat × Value)} {st9 : List Value} {h9 : KH}
theorem r_getf {i l ci j q : Nat} {v : Value} (hd : decode cc pc = .ok (.getfield i, 3)) (hq : pc + 3 = q) (hk : KLk own i ci j) (ho : kkind l = ci ∧ l < h.1) (hv : ∀ base sA, kfv base h l (kty ci j) j = kv base sA v) (k : KS Z own cc nL ini d q ls (v :: st) h pc9 ls9 st9 h9) : KS Z own cc nL ini d pc ls (.ref l :: st) h pc9 ls9 st9 h9 := by
  refine ⟨k.1, ?_⟩
  subst hq
  intro nF n0 D dA base sA H0 p l' e R s m args below meth c Q C hl hn K lsM H locs cells slots hL hP hS h1 h2
  obtain ⟨C', T, N, hc, hj, hlk⟩ := hk
  obtain ⟨C2, T2, N2, ty0, hc2, hlen, hws, hty, hnm, hcls, hok⟩ := KFC_all ci (kcl_lt hc)
  cases hc.symm.trans hc2
  have hci : ci < 20 := Nat.lt_trans (kcl_lt hc) (by decide)
  have he := kws_get (dA := dA) (base := base) ho.2
  rw [kcell_o ho.1 hci] at he
  have hf := kfields_get (base := base) (h := h) (l := l) (ts := kfts.getD ci []) (j := j) (by rw [hlen]; exact hj)
  have e9 : (kfts.getD ci []).getD j 0 = kty ci j := kty_getD (by rw [hlen]; exact hj)
  rw [e9, hv base sA] at hf
  have hkk := k.2 nF n0 D dA base sA H0 p l' e R s m args below meth c Q C hl hn K lsM H locs cells slots hL hP hS h1 h2
  show W p l' e R s m args below meth c H locs cells slots Q (F0 m pc lsM (Value.ref (kadr base sA l) :: kst base sA st))
  rw [kadr_k (by rw [ho.1]; exact Nat.lt_trans hci (by decide))]
  rcases hlk with hlk | hlk
  · exact va_get (D := D) (ref := C') C.1.1 C.1.2.1 C.1.2.2.2.2 hws C.1.2.2.2.1 C.2.1.1.1 hP.1 l he hc j hj (C.1.2.2.2.2 _ hlk) (by rw [hcls j hj]; exact fun _ z => z) hf hd hkk
  · exact va_getN (D := D) (ref := C') (host := "KingsTest") C.1.1 C.1.2.1 C.1.2.2.2.2 hws C.1.2.2.2.1 C.2.1.1.1 hP.1 l he hc j hj (va_Nw.use rfl (C.2.1.1.2.1 _ hlk)) (by rw [hcls j hj]; exact fun _ z => z) hf hd hkk
theorem r_getI {i l ci j q : Nat} (hd : decode cc pc = .ok (.getfield i, 3)) (hq : pc + 3 = q) (hk : KLk own i ci j) (ht : kty ci j = 0 ∨ kty ci j = 3) (ho : kkind l = ci ∧ l < h.1) (k : KS Z own cc nL ini d q ls (.int (kI h l j) :: st) h pc9 ls9 st9 h9) : KS Z own cc nL ini d pc ls (.ref l :: st) h pc9 ls9 st9 h9 :=
  r_getf hd hq hk ho (fun base sA => by unfold kfv; rcases ht with ht | ht <;> rw [ht] <;> rfl) k
theorem r_getL {i l ci j q : Nat} (hd : decode cc pc = .ok (.getfield i, 3)) (hq : pc + 3 = q) (hk : KLk own i ci j) (ht : kty ci j = 1) (ho : kkind l = ci ∧ l < h.1) (k : KS Z own cc nL ini d q ls (.long (kL h l j) :: st) h pc9 ls9 st9 h9) : KS Z own cc nL ini d pc ls (.ref l :: st) h pc9 ls9 st9 h9 :=
  r_getf hd hq hk ho (fun base sA => by unfold kfv; rw [ht]; rfl) k
theorem r_getR {i l ci j q : Nat} (hd : decode cc pc = .ok (.getfield i, 3)) (hq : pc + 3 = q) (hk : KLk own i ci j) (ht : kty ci j = 2) (ho : kkind l = ci ∧ l < h.1) (hr : kR h l j < 999999) (k : KS Z own cc nL ini d q ls (.ref (kR h l j) :: st) h pc9 ls9 st9 h9) : KS Z own cc nL ini d pc ls (.ref l :: st) h pc9 ls9 st9 h9 :=
  r_getf hd hq hk ho (fun base sA => by
    unfold kfv krf
    rw [ht, if_neg (by decide), if_pos rfl, if_neg (Nat.ne_of_lt hr)]
    show _ = Value.ref (kadr base sA (kR h l j))
    rw [kadr_lt hr]) k
theorem r_putf {i l ci j q : Nat} {v : Value} {h2 : KH} (hd : decode cc pc = .ok (.putfield i, 3)) (hq : pc + 3 = q) (hk : KLk own i ci j) (hfin : kfin ci j = false ∨ (ini = true ∧ kown ci = own)) (ho : kkind l = ci ∧ l < h.1) (hn1 : h2.1 = h.1)
    (hv : ∀ base sA, kfv base h2 l (kty ci j) j = kv base sA v) (hfit : ∀ (ty : FieldType) (base : Nat) (sA : Nat → Nat), ktyOK (kty ci j) ty = true → narrow ty (kv base sA v) = kv base sA v ∧ fits ty (kv base sA v) = true)
    (hsame : ∀ a b, ¬ (a = l ∧ b = j) → kI h2 a b = kI h a b ∧ kL h2 a b = kL h a b ∧ kR h2 a b = kR h a b)
    (k : KS Z own cc nL ini d q ls st h2 pc9 ls9 st9 h9) : KS Z own cc nL ini d pc ls (v :: .ref l :: st) h pc9 ls9 st9 h9 := by
  refine ⟨by unfold kmon; rw [← hn1]; exact k.1, ?_⟩
  subst hq
  intro nF n0 D dA base sA H0 p l' e R s m args below meth c Q C hl hn K lsM H locs cells slots hL hP hS h1 h2'
  obtain ⟨C', T, N, hc, hj, hlk⟩ := hk
  obtain ⟨C2, T2, N2, ty0, hc2, hlen, hws, hty, hnm, hcls, hok⟩ := KFC_all ci (kcl_lt hc)
  cases hc.symm.trans hc2
  have hci : ci < 20 := Nat.lt_trans (kcl_lt hc) (by decide)
  have he := kws_get (dA := dA) (base := base) ho.2
  rw [kcell_o ho.1 hci] at he
  have e9 : (kfts.getD ci []).getD j 0 = kty ci j := kty_getD (by rw [hlen]; exact hj)
  have hset : (kws dA base h).set l (base + l, .inr (ci, (kfields base h l (kfts.getD ci [])).set j (kv base sA v))) = kws dA base h2 := by
    refine kws_set hn1 ?_ (kcell_other (fun a b q => (hsame a b (fun z => q z.1)).1) (fun a b q => (hsame a b (fun z => q z.1)).2.1) (fun a b q => (hsame a b (fun z => q z.1)).2.2))
    rw [kcell_o ho.1 hci, kfields_set (v := kv base sA v) (by rw [e9]; exact hv base sA) (fun b q => hsame l b (fun z => q z.2))]
  have hkk : ∀ (H1 : Heap) (locs1 : List Loc), va_P D kcl ((kws dA base h).set l (base + l, .inr (ci, (kfields base h l (kfts.getD ci [])).set j (kv base sA v)))) H1 → va_S (fun q => base ≤ q) H0 H1 locs1 → W p l' e R s m args below meth c H1 locs1 cells slots Q (F0 m (pc + 3) lsM (kst base sA st)) := fun H1 locs1 a1 a3 =>
    kW_size (by rw [← C.2.2.2.2.2]; exact C.2.2.2.2.1) (h := h2) (by rw [hn1]; exact h1) (by rw [← hset]; exact a1) (by rw [← C.2.2.2.2.2]; exact a3.1) fun hP2 =>
    k.2 nF n0 D dA base sA H0 p l' e R s m args below meth c Q C hl hn K lsM H1 locs1 cells slots hL hP2 a3 (by rw [hn1]; exact h1) (by rw [hn1]; exact h2')
  obtain ⟨hnar, hfi⟩ := hfit (ty0 j) base sA (hok j hj)
  show W p l' e R s m args below meth c H locs cells slots Q (F0 m pc lsM (kv base sA v :: Value.ref (kadr base sA l) :: kst base sA st))
  rw [kadr_k (by rw [ho.1]; exact Nat.lt_trans hci (by decide))]
  have hlt : j < (kfields base h l (kfts.getD ci [])).length := by rw [kfields_len, hlen]; exact hj
  have hsm : ∀ x, s.fieldFound? (T j).1 (T j).2.1 (T j).2.2.1 = some x → s.fieldFound? C' (T j).2.1 (T j).2.2.1 = some x := by rw [hcls j hj]; exact fun _ z => z
  have hfn : kfin ci j = (T j).2.2.2 := by unfold kfin; rw [hc]
  have hkn : kown ci = C' := by unfold kown; rw [hc]
  rcases hfin with hfin | ⟨hini, hown⟩
  · rw [hfn] at hfin
    rcases hlk with hlk | hlk
    · exact va_put (D := D) (ref := C') C.1.1 C.1.2.1 C.1.2.2.2.2 hws ty0 hty hnm C.1.2.2.2.1 C.2.1.1.1 hP.1 kws_D hS l he hc j hj (C.1.2.2.2.2 _ hlk) hsm hfin (hty j hj) hnar hfi hlt hd (fun H1 locs1 a1 _ a3 => hkk H1 locs1 a1 a3)
    · exact va_putN (D := D) (ref := C') (host := "KingsTest") C.1.1 C.1.2.1 C.1.2.2.2.2 hws ty0 hty hnm C.1.2.2.2.1 C.2.1.1.1 hP.1 kws_D hS l he hc j hj (va_Nw.use rfl (C.2.1.1.2.1 _ hlk)) hsm hfin (hty j hj) hnar hfi hlt hd (fun H1 locs1 a1 _ a3 => hkk H1 locs1 a1 a3)
  · cases hff : (T j).2.2.2 with
    | true =>
      rcases hlk with hlk | hlk
      · exact va_putF (D := D) (ref := C') C.1.1 C.1.2.1 C.1.2.2.2.2 hws ty0 hty hnm C.1.2.2.2.1 C.2.1.1.1 hP.1 kws_D hS l he hc j hj (C.1.2.2.2.2 _ hlk) hsm hff (C.2.2.1 hini) (by rw [hcls j hj, ← hkn]; exact hown) (hty j hj) hnar hfi hlt hd (fun H1 locs1 a1 _ a3 => hkk H1 locs1 a1 a3)
      · exact absurd (hown.symm.trans hkn) (knest_ne _ hlk)
    | false =>
      rcases hlk with hlk | hlk
      · exact va_put (D := D) (ref := C') C.1.1 C.1.2.1 C.1.2.2.2.2 hws ty0 hty hnm C.1.2.2.2.1 C.2.1.1.1 hP.1 kws_D hS l he hc j hj (C.1.2.2.2.2 _ hlk) hsm hff (hty j hj) hnar hfi hlt hd (fun H1 locs1 a1 _ a3 => hkk H1 locs1 a1 a3)
      · exact va_putN (D := D) (ref := C') (host := "KingsTest") C.1.1 C.1.2.1 C.1.2.2.2.2 hws ty0 hty hnm C.1.2.2.2.1 C.2.1.1.1 hP.1 kws_D hS l he hc j hj (va_Nw.use rfl (C.2.1.1.2.1 _ hlk)) hsm hff (hty j hj) hnar hfi hlt hd (fun H1 locs1 a1 _ a3 => hkk H1 locs1 a1 a3)
theorem r_putI {i l ci j q : Nat} {x : Int32} (hd : decode cc pc = .ok (.putfield i, 3)) (hq : pc + 3 = q) (hk : KLk own i ci j) (hfin : kfin ci j = false ∨ (ini = true ∧ kown ci = own)) (ht : kty ci j = 0) (ho : kkind l = ci ∧ l < h.1)
    (k : KS Z own cc nL ini d q ls st (ksI h l j x) pc9 ls9 st9 h9) : KS Z own cc nL ini d pc ls (.int x :: .ref l :: st) h pc9 ls9 st9 h9 :=
  r_putf (h2 := ksI h l j x) (v := .int x) hd hq hk hfin ho rfl (fun base sA => by rw [ht]; simp [kfv, kI_sI, kv]) (fun ty base sA hty => by rw [ht] at hty; cases ty <;> first | exact ⟨rfl, rfl⟩ | cases hty) (fun a b hab => ⟨by rw [kI_sI, if_neg hab], rfl, rfl⟩) k
theorem r_putZ {i l ci j q : Nat} {x : Int32} (hd : decode cc pc = .ok (.putfield i, 3)) (hq : pc + 3 = q) (hk : KLk own i ci j) (hfin : kfin ci j = false ∨ (ini = true ∧ kown ci = own)) (ht : kty ci j = 3) (hx : x = 0 ∨ x = 1) (ho : kkind l = ci ∧ l < h.1)
    (k : KS Z own cc nL ini d q ls st (ksI h l j x) pc9 ls9 st9 h9) : KS Z own cc nL ini d pc ls (.int x :: .ref l :: st) h pc9 ls9 st9 h9 :=
  r_putf (h2 := ksI h l j x) (v := .int x) hd hq hk hfin ho rfl (fun base sA => by rw [ht]; simp [kfv, kI_sI, kv]) (fun ty base sA hty => by rw [ht] at hty; cases ty <;> first | (show narrow .boolean (.int x) = .int x ∧ fits .boolean (.int x) = true; rcases hx with rfl | rfl <;> exact ⟨by decide, by decide⟩) | cases hty) (fun a b hab => ⟨by rw [kI_sI, if_neg hab], rfl, rfl⟩) k
theorem r_putL {i l ci j q : Nat} {x : Int64} (hd : decode cc pc = .ok (.putfield i, 3)) (hq : pc + 3 = q) (hk : KLk own i ci j) (hfin : kfin ci j = false ∨ (ini = true ∧ kown ci = own)) (ht : kty ci j = 1) (ho : kkind l = ci ∧ l < h.1)
    (k : KS Z own cc nL ini d q ls st (ksL h l j x) pc9 ls9 st9 h9) : KS Z own cc nL ini d pc ls (.long x :: .ref l :: st) h pc9 ls9 st9 h9 :=
  r_putf (h2 := ksL h l j x) (v := .long x) hd hq hk hfin ho rfl (fun base sA => by rw [ht]; simp [kfv, kL_sL, kv]) (fun ty base sA hty => by rw [ht] at hty; cases ty <;> first | exact ⟨rfl, rfl⟩ | cases hty) (fun a b hab => ⟨rfl, by rw [kL_sL, if_neg hab], rfl⟩) k
theorem r_putR {i l ci j q : Nat} {x : Nat} (hd : decode cc pc = .ok (.putfield i, 3)) (hq : pc + 3 = q) (hk : KLk own i ci j) (hfin : kfin ci j = false ∨ (ini = true ∧ kown ci = own)) (ht : kty ci j = 2) (hx : x < 999999) (ho : kkind l = ci ∧ l < h.1)
    (k : KS Z own cc nL ini d q ls st (ksR h l j x) pc9 ls9 st9 h9) : KS Z own cc nL ini d pc ls (.ref x :: .ref l :: st) h pc9 ls9 st9 h9 :=
  r_putf (h2 := ksR h l j x) (v := .ref x) hd hq hk hfin ho rfl (fun base sA => by rw [ht]; simp [kfv, krf, kR_sR, kv, kadr, hx]; intro z; omega) (fun ty base sA hty => by rw [ht] at hty; cases ty <;> first | exact ⟨rfl, rfl⟩ | cases hty) (fun a b hab => ⟨rfl, rfl, by rw [kR_sR, if_neg hab]⟩) k
end KR
