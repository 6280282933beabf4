/-! cells that hold counts; where the court's cells lie; the relation's parts on the court and the state -/
def kN (h : KH) (l i : Nat) : Nat := (kI h l i).toNatClampNeg
def cn (h : KH) (l i b : Nat) : Prop := kI h l i = Int32.ofNat (kN h l i) ∧ kN h l i ≤ b
theorem cn_of {h : KH} {l i b n : Nat} (e : kI h l i = Int32.ofNat n) (hn : n ≤ b) (hb : b < 2147483648) : cn h l i b := by
  have e2 : kN h l i = n := by
    unfold kN
    rw [e, n32_cl (by omega)]
  exact ⟨by rw [e2, e], by rw [e2]; exact hn⟩
theorem kN_of {h : KH} {l i n : Nat} (e : kI h l i = Int32.ofNat n) (hn : n < 2147483648) : kN h l i = n := by
  unfold kN
  rw [e, n32_cl hn]
theorem kN_same {h h' : KH} {l i l' i' : Nat} (e : kI h' l' i' = kI h l i) : kN h' l' i' = kN h l i := by
  unfold kN
  rw [e]
theorem cn.same {h h' : KH} {l i l' i' b : Nat} (c : cn h l i b) (e : kI h' l' i' = kI h l i) : cn h' l' i' b := by
  unfold cn
  rw [kN_same e, e]
  exact c
theorem cn.wide {h : KH} {l i b b' : Nat} (c : cn h l i b) (hb : b ≤ b') : cn h l i b' := ⟨c.1, Nat.le_trans c.2 hb⟩
/-- the two places where a court lies -/
def ctc (c : Nat) : Prop := c = 12 ∨ c = 38
theorem ctc.lt {c : Nat} (hc : ctc c) : c < 39 := by
  rcases hc with rfl | rfl <;> omega
theorem ct_kk {c : Nat} (hc : ctc c) : kkind c = 2 := by
  rcases hc with rfl | rfl
  · exact kk12
  · exact kk38
theorem ct_kt {c : Nat} (hc : ctc c) : kkind (c + 1) = 24 ∧ kkind (c + 8) = 24 ∧ kkind (c + 15) = 24 ∧ klen (c + 1) = 6 ∧ klen (c + 8) = 6 ∧ klen (c + 15) = 5 := by
  rcases hc with rfl | rfl <;> decide +kernel
theorem ct_kc {c : Nat} (hc : ctc c) : kkind (c + 21) = 1 ∧ kkind (c + 22) = 20 ∧ klen (c + 22) = 1600 ∧ kkind (c + 23) = 20 ∧ klen (c + 23) = 64 ∧ kkind (c + 24) = 20 ∧ klen (c + 24) = 33 ∧ kkind (c + 25) = 20 ∧ klen (c + 25) = 600 := by
  rcases hc with rfl | rfl <;> decide +kernel
theorem ct_row0 : ∀ k, k < 6 → kkind (12 + 2 + k) = 20 ∧ klen (12 + 2 + k) = 5 ∧ kkind (38 + 2 + k) = 20 ∧ klen (38 + 2 + k) = 5 ∧ kkind (12 + 9 + k) = 20 ∧ klen (12 + 9 + k) = 2 ∧ kkind (38 + 9 + k) = 20 ∧ klen (38 + 9 + k) = 2 := by decide +kernel
theorem ct_row1 : ∀ k, k < 5 → kkind (12 + 16 + k) = 20 ∧ klen (12 + 16 + k) = 3 ∧ kkind (38 + 16 + k) = 20 ∧ klen (38 + 16 + k) = 3 := by decide +kernel
theorem ct_kind {c k : Nat} (hc : ctc c) (hk : k < 6) : kkind (c + 2 + k) = 20 ∧ klen (c + 2 + k) = 5 := by
  obtain ⟨a1, a2, a3, a4, -⟩ := ct_row0 k hk
  rcases hc with rfl | rfl
  · exact ⟨a1, a2⟩
  · exact ⟨a3, a4⟩
theorem ct_test {c k : Nat} (hc : ctc c) (hk : k < 6) : kkind (c + 9 + k) = 20 ∧ klen (c + 9 + k) = 2 := by
  obtain ⟨-, -, -, -, a1, a2, a3, a4⟩ := ct_row0 k hk
  rcases hc with rfl | rfl
  · exact ⟨a1, a2⟩
  · exact ⟨a3, a4⟩
theorem ct_mark {c k : Nat} (hc : ctc c) (hk : k < 5) : kkind (c + 16 + k) = 20 ∧ klen (c + 16 + k) = 3 := by
  obtain ⟨a1, a2, a3, a4⟩ := ct_row1 k hk
  rcases hc with rfl | rfl
  · exact ⟨a1, a2⟩
  · exact ⟨a3, a4⟩
theorem krt_c : ((krt.getD 12 []).length = 12 ∧ (krt.getD 38 []).length = 12) ∧ (krt.getD 12 []).getD 0 0 = 13 ∧ (krt.getD 12 []).getD 1 0 = 20 ∧ (krt.getD 12 []).getD 2 0 = 27 ∧ (krt.getD 12 []).getD 9 0 = 33 ∧ (krt.getD 12 []).getD 10 0 = 36 ∧ (krt.getD 12 []).getD 11 0 = 37 ∧
    (krt.getD 38 []).getD 0 0 = 39 ∧ (krt.getD 38 []).getD 1 0 = 46 ∧ (krt.getD 38 []).getD 2 0 = 53 ∧ (krt.getD 38 []).getD 9 0 = 59 ∧ (krt.getD 38 []).getD 10 0 = 62 ∧ (krt.getD 38 []).getD 11 0 = 63 := by decide +kernel
theorem ct_r {h : KH} (hr : kRefs h) {c : Nat} (hc : ctc c) : kR h c 0 = c + 1 ∧ kR h c 1 = c + 8 ∧ kR h c 2 = c + 15 ∧ kR h c 9 = c + 21 ∧ kR h c 10 = c + 24 ∧ kR h c 11 = c + 25 := by
  obtain ⟨⟨l1, l2⟩, a1, a2, a3, a4, a5, a6, b1, b2, b3, b4, b5, b6⟩ := krt_c
  rcases hc with rfl | rfl
  · refine ⟨?_, ?_, ?_, ?_, ?_, ?_⟩ <;> (rw [hr.2.1 12 (by omega) _ (by omega) (by omega) (by omega)]; assumption)
  · refine ⟨?_, ?_, ?_, ?_, ?_, ?_⟩ <;> (rw [hr.2.1 38 (by omega) _ (by omega) (by omega) (by omega)]; assumption)
theorem krt_row : ∀ k, k < 6 → (k < (krt.getD 13 []).length ∧ k < (krt.getD 39 []).length ∧ k < (krt.getD 20 []).length ∧ k < (krt.getD 46 []).length) ∧ (krt.getD 13 []).getD k 0 = 14 + k ∧ (krt.getD 39 []).getD k 0 = 40 + k ∧ (krt.getD 20 []).getD k 0 = 21 + k ∧ (krt.getD 46 []).getD k 0 = 47 + k := by decide +kernel
theorem krt_row5 : ∀ k, k < 5 → (k < (krt.getD 27 []).length ∧ k < (krt.getD 53 []).length) ∧ (krt.getD 27 []).getD k 0 = 28 + k ∧ (krt.getD 53 []).getD k 0 = 54 + k := by decide +kernel
theorem ct_rk {h : KH} (hr : kRefs h) {c k : Nat} (hc : ctc c) (hk : k < 6) : kR h (c + 1) k = c + 2 + k := by
  obtain ⟨⟨l1, l2, l3, l4⟩, a1, a2, a3, a4⟩ := krt_row k hk
  rcases hc with rfl | rfl
  · rw [hr.2.1 13 (by omega) _ l1 (by omega) (by omega)]; exact a1
  · rw [hr.2.1 39 (by omega) _ l2 (by omega) (by omega)]; exact a2
theorem ct_rt {h : KH} (hr : kRefs h) {c k : Nat} (hc : ctc c) (hk : k < 6) : kR h (c + 8) k = c + 9 + k := by
  obtain ⟨⟨l1, l2, l3, l4⟩, a1, a2, a3, a4⟩ := krt_row k hk
  rcases hc with rfl | rfl
  · rw [hr.2.1 20 (by omega) _ l3 (by omega) (by omega)]; exact a3
  · rw [hr.2.1 46 (by omega) _ l4 (by omega) (by omega)]; exact a4
theorem ct_rm {h : KH} (hr : kRefs h) {c k : Nat} (hc : ctc c) (hk : k < 5) : kR h (c + 15) k = c + 16 + k := by
  obtain ⟨⟨l1, l2⟩, a1, a2⟩ := krt_row5 k hk
  rcases hc with rfl | rfl
  · rw [hr.2.1 27 (by omega) _ l1 (by omega) (by omega)]; exact a1
  · rw [hr.2.1 53 (by omega) _ l2 (by omega) (by omega)]; exact a2
theorem ct_rc {h : KH} (hr : kRefs h) {c : Nat} (hc : ctc c) : kR h (c + 21) 0 = c + 22 ∧ kR h (c + 21) 1 = c + 23 := by
  rcases hc with rfl | rfl
  · exact ⟨rf33_0 hr, rf33_1 hr⟩
  · exact ⟨rf59_0 hr, rf59_1 hr⟩
theorem ctc.of {h : KH} (hr : kRefs h) : ctc (kR h 0 5) := by
  rcases hr.2.2.1 with z | z
  · exact Or.inl z.1
  · exact Or.inr z.1
/-! the court that stands, as both hold it: c is the class's -/
def Rmany (h : KH) (c : Nat) : Prop := (cn h 198 3 6 ∧ kI h c 3 = kI h 198 3) ∧ (cn h 198 4 6 ∧ kI h c 4 = kI h 198 4) ∧ (cn h 198 5 5 ∧ kI h c 5 = kI h 198 5) ∧ (cn h 203 2 99 ∧ 1 ≤ kN h 203 2 ∧ kI h c 6 = kI h 203 2) ∧ (cn h 203 3 9999 ∧ kI h c 7 = kI h 203 3)
def Rkinds (h : KH) (c : Nat) : Prop := ∀ k, k < kN h 198 3 → ∀ j, j < 4 → cn h 200 (24 + 4 * k + j) (if j < 2 then 99 else 9) ∧ kI h (c + 2 + k) (j + 1) = kI h 200 (24 + 4 * k + j)
def Rtests (h : KH) (c : Nat) : Prop := ∀ t, t < kN h 198 4 → cn h 201 (6 + t) 99 ∧ kI h (c + 9 + t) 1 = kI h 201 (6 + t)
def Rmarks (h : KH) (c : Nat) : Prop := ∀ m, m < kN h 198 5 → ∀ j, j < 2 → cn h 202 (10 + 2 * m + j) 9 ∧ 1 ≤ kN h 202 (10 + 2 * m + j) ∧ kI h (c + 16 + m) (j + 1) = kI h 202 (10 + 2 * m + j)
/-- a NAME of n letters as the model's number -/
def nmo (v n : Nat) : Prop := 1 ≤ n ∧ n ≤ 6 ∧ 27 ^ (n - 1) ≤ v ∧ v < 27 ^ n ∧ v % 27 ≠ 0
def Rnames (h : KH) (c : Nat) : Prop := ∀ s, s < 3 → ∀ k, k < kN h 198 (3 + s) → ∃ v n, nmo v n ∧ kL h 199 (18 + 6 * s + k) = Int64.ofNat v ∧ kI h (c + (2 + 7 * s) + k) 0 = Int32.ofNat (v * 27 ^ (6 - n))
/-- a State at v against a block of the model's at l, o -/
def Sst (h : KH) (v l o : Nat) : Prop := (cn h l o 9999 ∧ kI h v 0 = kI h l o) ∧ (cn h l (o + 1) 9999 ∧ kI h v 1 = kI h l (o + 1)) ∧
  (∀ t, t < 6 → (cn h l (o + (2 + 2 * t)) 99 ∧ kI h (v + 1) t = kI h l (o + (2 + 2 * t))) ∧ (cn h l (o + (2 + 2 * t + 1)) 4 ∧ kI h (v + 2) t = kI h l (o + (2 + 2 * t + 1))) ∧ (kN h 198 4 ≤ t → kN h l (o + (2 + 2 * t)) = 0 ∧ kN h l (o + (2 + 2 * t + 1)) = 0)) ∧
  (∀ i, i < 10 → cn h l (o + (14 + i)) 2 ∧ kI h (v + 3) i = kI h l (o + (14 + i)) ∧ (2 * kN h 198 5 ≤ i → kN h l (o + (14 + i)) = 0))
/-- what is told as KEPT of a State at v, against a block at l, o -/
def Kst (h : KH) (v l o : Nat) : Prop := (cn h v 2 9999 ∧ kN h v 2 ≤ kN h l o) ∧ kI h l (o + 24) = Int32.ofNat (min (kN h v 2) 40) ∧
  ∀ j, j < min (kN h v 2) 40 → ∀ i, i < 4 → kI h 74 (4 * ((kN h v 2 - min (kN h v 2) 40 + j) % 1024) + i) = kI h l (o + (25 + 4 * j + i))
/-- the state that is, on both sides -/
def RS (h : KH) : Prop := Sst h 64 207 0
theorem RS.c {h : KH} (s : RS h) : cn h 207 0 9999 ∧ kI h 64 0 = kI h 207 0 := by simpa using s.1
theorem RS.h {h : KH} (s : RS h) : cn h 207 1 9999 ∧ kI h 64 1 = kI h 207 1 := by simpa using s.2.1
theorem RS.t {h : KH} (s : RS h) {t : Nat} (ht : t < 6) : cn h 207 (2 + 2 * t) 99 ∧ kI h 65 t = kI h 207 (2 + 2 * t) := by simpa using (s.2.2.1 t ht).1
theorem RS.a {h : KH} (s : RS h) {t : Nat} (ht : t < 6) : cn h 207 (2 + 2 * t + 1) 4 ∧ kI h 66 t = kI h 207 (2 + 2 * t + 1) := by simpa using (s.2.2.1 t ht).2.1
theorem RS.az {h : KH} (s : RS h) {t : Nat} (ht : t < 6) (hn : kN h 198 4 ≤ t) : kN h 207 (2 + 2 * t + 1) = 0 := by simpa using ((s.2.2.1 t ht).2.2 hn).2
theorem RS.tz {h : KH} (s : RS h) {t : Nat} (ht : t < 6) (hn : kN h 198 4 ≤ t) : kN h 207 (2 + 2 * t) = 0 := by simpa using ((s.2.2.1 t ht).2.2 hn).1
theorem RS.l {h : KH} (s : RS h) {i : Nat} (hi : i < 10) : cn h 207 (14 + i) 2 ∧ kI h 67 i = kI h 207 (14 + i) := by
  have := s.2.2.2 i hi
  simp only [Nat.zero_add] at this
  exact ⟨this.1, this.2.1⟩
theorem RS.lz {h : KH} (s : RS h) {i : Nat} (hi : i < 10) (hn : 2 * kN h 198 5 ≤ i) : kN h 207 (14 + i) = 0 := by
  have := s.2.2.2 i hi
  simp only [Nat.zero_add] at this
  exact this.2.2 hn
/-- a State's own cells; the model's own -/
def XS (h : KH) (v : Nat) : Prop := cn h v 0 9999 ∧ cn h v 1 9999 ∧ (∀ t, t < 6 → cn h (v + 1) t 99 ∧ cn h (v + 2) t 4 ∧ (kN h 198 4 ≤ t → kN h (v + 2) t = 0)) ∧ ∀ i, i < 10 → cn h (v + 3) i 2 ∧ (2 * kN h 198 5 ≤ i → kN h (v + 3) i = 0)
def MS (h : KH) : Prop := cn h 207 0 9999 ∧ cn h 207 1 9999 ∧ (∀ t, t < 6 → cn h 207 (2 + 2 * t) 99 ∧ cn h 207 (2 + 2 * t + 1) 4 ∧ (kN h 198 4 ≤ t → kN h 207 (2 + 2 * t + 1) = 0)) ∧ ∀ i, i < 10 → cn h 207 (14 + i) 2 ∧ (2 * kN h 198 5 ≤ i → kN h 207 (14 + i) = 0)
theorem RS.ms {h : KH} (s : RS h) : MS h := ⟨s.c.1, s.h.1, fun _ ht => ⟨(s.t ht).1, (s.a ht).1, s.az ht⟩, fun _ hi => ⟨(s.l hi).1, s.lz hi⟩⟩
theorem RS.xs {h : KH} (s : RS h) : XS h 64 :=
  ⟨s.c.1.same s.c.2, s.h.1.same s.h.2, fun _ ht => ⟨(s.t ht).1.same (s.t ht).2, (s.a ht).1.same (s.a ht).2, fun z => (kN_same (s.a ht).2).trans (s.az ht z)⟩, fun _ hi => ⟨(s.l hi).1.same (s.l hi).2, fun z => (kN_same (s.l hi).2).trans (s.lz hi z)⟩⟩
