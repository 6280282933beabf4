/-! what the rules say stands in the upper halves alone; parts of the relation over frames -/
def Wup (l i : Nat) : Prop := (l = 198 ∧ 3 ≤ i) ∨ (l = 200 ∧ 24 ≤ i) ∨ (l = 201 ∧ 6 ≤ i) ∨ (l = 202 ∧ 10 ≤ i) ∨ (l = 203 ∧ 2 ≤ i) ∨ (l = 204 ∧ i = 1) ∨ (l = 205 ∧ i = 1) ∨ (l = 206 ∧ 1600 ≤ i)
def LawU (h h' : KH) : Prop := ∀ l i, Wup l i → kI h' l i = kI h l i
theorem LawU.n {h h' : KH} (e : LawU h h') (l i : Nat) (z : Wup l i) : kN h' l i = kN h l i := kN_same (e l i z)
theorem LawU.yb {h h' : KH} (e : LawU h h') : ybN h' = ybN h := by
  funext k t tr x
  have ep : pvY h' k t tr x = pvY h k t tr x := by
    funext p
    unfold pvY
    rw [e.n 200 (24 + 4 * k) (by unfold Wup; omega), e.n 200 (25 + 4 * k) (by unfold Wup; omega), e.n 201 (6 + t) (by unfold Wup; omega)]
  have ec : cdY h' = cdY h := by
    funext i
    exact e.n 206 (1600 + i) (by unfold Wup; omega)
  unfold ybN
  rw [e 204 1 (by unfold Wup; omega), ep, ec, e.n 205 1 (by unfold Wup; omega)]
theorem LawU.bits {h h' : KH} (e : LawU h h') : bitsN h' = bitsN h := by
  have ey := e.yb
  have eb : ∀ t x n, byN h' t x n = byN h t x n := fun t x n => by
    induction n with
    | zero => rfl
    | succ n ih => rw [byN, byN, ih, ey]
  funext t x
  unfold bitsN
  rw [e 204 1 (by unfold Wup; omega), eb, e.n 198 3 (by unfold Wup; omega)]
theorem LawU.aw {h h' : KH} (e : LawU h h') (T : Nat → Nat) (who : Nat) : ∀ n, awN h' T who n = awN h T who n
  | 0 => rfl
  | n + 1 => by rw [awN, awN, LawU.aw e T who n, e.bits]
theorem LawU.pa {h h' : KH} (e : LawU h h') (T : Nat → Nat) : paN h' T = paN h T := by
  funext w
  unfold paN
  rw [e.n 198 4 (by unfold Wup; omega), e.aw, e.aw]
theorem pmN_cgU {h h' : KH} (e : ∀ i, kN h' 202 (10 + i) = kN h 202 (10 + i)) (L : Nat → Nat) (cl tr : Nat) : ∀ n, pmN h' L cl tr n = pmN h L cl tr n
  | 0 => rfl
  | n + 1 => by
    rw [pmN, pmN, pmN_cgU e L cl tr n]
    unfold mkN
    rw [Nat.add_assoc, e]
theorem LawU.wt {h h' : KH} (x : LawU h h') : wtN h' = wtN h := by
  have ef : fcN h' = fcN h := by
    funext T A L cl k tr
    have eo : okH h' T A cl k tr ↔ okH h T A cl k tr := by
      unfold okH
      rw [x.n 198 4 (by unfold Wup; omega), x.yb]
    have eq : fqN h' k tr = fqN h k tr := x.n 200 (24 + 4 * k + (3 - tr)) (by unfold Wup; omega)
    have ep := pmN_cgU (h := h) (h' := h') (fun i => x.n 202 (10 + i) (by unfold Wup; omega)) L cl tr
    obtain ⟨a1, a2⟩ := fc_eq (h := h') T A L cl k tr
    obtain ⟨b1, b2⟩ := fc_eq (h := h) T A L cl k tr
    by_cases z : okH h T A cl k tr
    · rw [a1 (eo.mpr z), b1 z, eq, ep, x.n 198 5 (by unfold Wup; omega)]
    · rw [a2 (fun y => z (eo.mp y)), b2 z]
  funext T A L w
  unfold wtN
  rw [ef, x.n 198 3 (by unfold Wup; omega), x.n 203 2 (by unfold Wup; omega)]
theorem LawU.hm {h h' : KH} (e : LawU h h') (s : Nat) (n : Nat) : hmN h' s n = hmN h s n := hmN_cg (fun t => e.n 201 (6 + t) (by unfold Wup; omega)) n
theorem LawU.fw {h h' : KH} (e : LawU h h') : fW h' = fW h := by
  unfold fW
  rw [e.wt]
theorem LawU.bs {h h' : KH} (e : LawU h h') : bsN h' = bsN h := by
  funext W P hd
  have em : mrX h' W P = mrX h W P := by
    funext s
    unfold mrX mrZ prN
    rw [e.hm, e.n 198 4 (by unfold Wup; omega), e.n 203 3 (by unfold Wup; omega)]
  unfold bsN
  rw [em, e.n 198 4 (by unfold Wup; omega)]
theorem tma_eqU {h h' : KH} (e : LawU h h') (e7 : ∀ i, kI h' 207 i = kI h 207 i) : tma h' = tma h := by
  have et : tmM h' = tmM h := by
    funext t
    exact kN_same (e7 _)
  have ea : anN h' = anN h := by
    funext t
    exact kN_same (e7 _)
  have ed : hdN h' = hdN h := by
    unfold hdN
    rw [ea, e.n 198 4 (by unfold Wup; omega)]
  funext n
  induction n with
  | zero =>
    funext t
    rw [tma_0, tma_0, ed, et]
  | succ n ih =>
    funext t
    rw [tma_s, tma_s]
    unfold bsa
    rw [e.fw, e.bs, e.pa, ih]
theorem seI_eqU {h h' : KH} (e : LawU h h') (e7 : ∀ i, kI h' 207 i = kI h 207 i) : seI h' = seI h ∧ riI h' = riI h := by
  have a := tma_eqU e e7
  have b : bsa h' = bsa h := by
    funext n
    unfold bsa
    rw [e.fw, e.bs, e.pa, a]
  constructor
  · funext n
    unfold seI
    rw [e.fw, b]
  · funext n
    unfold riI raN
    rw [e.fw, e.pa, a, b]
theorem Rcoming.up {h h' : KH} (r : Rcoming h) (e : LawU h h') (I : ∀ l i, (155 ≤ l ∧ l ≤ 161) ∨ l = 207 → kI h' l i = kI h l i) : Rcoming h' := by
  obtain ⟨m, m30, em, y⟩ := r
  have e7 : ∀ i, kI h' 207 i = kI h 207 i := fun i => I _ _ (by omega)
  refine ⟨m, m30, (I _ _ (by omega)).trans em, y.imp id fun z => ⟨?_, fun n hn => ?_⟩⟩
  · rw [tma_eqU e e7]
    exact z.1.move fun l i a b => I l i (by omega)
  · rw [(seI_eqU e e7).1, (seI_eqU e e7).2, I _ _ (by omega), I _ _ (by omega)]
    exact z.2 n hn
theorem Ryt.up {h h' : KH} {c : Nat} (r : Ryt h c) (e : LawU h h') (I : ∀ i, kI h' (c + 25) i = kI h (c + 25) i) : Ryt h' c := by
  intro a t ht x hx
  rw [e 204 1 (by unfold Wup; omega)] at a
  rw [e.n 198 4 (by unfold Wup; omega)] at ht
  rw [I, e.bits]
  exact r a t ht x hx
theorem Rnames.fp {W : Nat → Nat → Prop} {h h' : KH} {c : Nat} (r : Rnames h c) (x : kfp W h h') (hm : Rmany h c) (hd : ∀ l i, (l = 198 ∧ 3 ≤ i) ∨ (l = 199 ∧ 18 ≤ i) ∨ (c + 2 ≤ l ∧ l ≤ c + 20) → ¬ W l i) : Rnames h' c := by
  intro s hs k hk
  rw [kN_same (x.2.2.1 198 (3 + s) (hd _ _ (by omega)))] at hk
  have a1 := hm.1.1.2
  have a2 := hm.2.1.1.2
  have a3 := hm.2.2.1.1.2
  have lb : 2 + 7 * s + k ≤ 20 := by
    have es : s = 0 ∨ s = 1 ∨ s = 2 := by omega
    rcases es with rfl | rfl | rfl
    · have h3 : k < kN h 198 3 := hk
      omega
    · have h4 : k < kN h 198 4 := hk
      omega
    · have h5 : k < kN h 198 5 := hk
      omega
  obtain ⟨v, n, b1, b2, b3⟩ := r s hs k hk
  exact ⟨v, n, b1, (x.2.2.2 _ _ (hd _ _ (by omega))).trans b2, (x.2.2.1 _ _ (hd _ _ (by omega))).trans b3⟩
theorem Rans.fp {W : Nat → Nat → Prop} {h h' : KH} (r : Rans h) (x : kfp W h h') (hd : ∀ l i, (l = 0 ∧ i = 13) ∨ l = 170 ∨ (l = 173 ∧ i = 58) ∨ l = 216 ∨ (l = 198 ∧ i = 3) → ¬ W l i) : Rans h' := by
  obtain ⟨n, n16, a, b, r⟩ := r
  refine ⟨n, n16, (x.2.2.1 _ _ (hd _ _ (by omega))).trans a, (x.2.2.1 _ _ (hd _ _ (by omega))).trans b, fun i hi => ?_⟩
  obtain ⟨r1, r2, r3⟩ := r i hi
  have e6 : kI h' 216 i = kI h 216 i := x.2.2.1 _ _ (hd _ _ (by omega))
  have em : mxN h' i = mxN h i := by
    unfold mxN
    rw [kN_same (x.2.2.1 198 3 (hd _ _ (by omega)))]
  exact ⟨r1.same e6, (x.2.2.1 _ _ (hd _ _ (by omega))).trans (r2.trans e6.symm), by rw [kN_same e6, em]; exact r3⟩
theorem Rfault.fp {W : Nat → Nat → Prop} {h h' : KH} (r : Rfault h) (x : kfp W h h') (hd : ∀ l i, (l = 8 ∧ (i = 7 ∨ i = 8)) ∨ (l = 173 ∧ (i = 7 ∨ i = 8)) → ¬ W l i) : Rfault h' :=
  ⟨(x.2.2.1 _ _ (hd _ _ (by omega))).trans (r.1.trans (x.2.2.1 _ _ (hd _ _ (by omega))).symm), (x.2.2.1 _ _ (hd _ _ (by omega))).trans (r.2.trans (x.2.2.1 _ _ (hd _ _ (by omega))).symm)⟩
theorem Rimg.fp {W : Nat → Nat → Prop} {h h' : KH} (r : Rimg h) (x : kfp W h h') (hd : ∀ l i, (l = 0 ∧ i = 16) ∨ (l = 173 ∧ i = 96) ∨ l = 171 ∨ l = 242 → ¬ W l i) : Rimg h' := by
  obtain ⟨n, n27, a, b, r⟩ := r
  exact ⟨n, n27, (x.2.2.1 _ _ (hd _ _ (by omega))).trans a, (x.2.2.1 _ _ (hd _ _ (by omega))).trans b, fun j hj => (x.2.2.1 _ _ (hd _ _ (by omega))).trans ((r j hj).trans (x.2.2.1 _ _ (hd _ _ (by omega))).symm)⟩
/-- the grammar's code alone changes -/
theorem RC.r10 {h : KH} {c v : Nat} (rc : RC h c) (r0 : kRefs (ksR h 10 1 v)) : RC (ksR h 10 1 v) c := by
  obtain ⟨hr, hc, h5, hm, hk, ht, hma⟩ := rc
  exact ⟨r0, hc, by rw [kR_sR, if_neg (by omega)]; exact h5, hm, hk, ht, hma⟩
theorem r10_of {h g : KH} {v : Nat} {W : Nat → Nat → Prop} (f : kfp W (ksR h 10 1 v) g) (rg : kRefs g) : kRefs (ksR h 10 1 v) := rg.same f.1.symm fun l i => (f.2.1 l i).symm
