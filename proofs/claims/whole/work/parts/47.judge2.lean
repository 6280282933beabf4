/-! judge -/
/-- where the court that stands lies, in both -/
def Wct (c l i : Nat) : Prop := (l = c ∧ 3 ≤ i ∧ i ≤ 8) ∨ (c + 2 ≤ l ∧ l ≤ c + 7) ∨ (c + 9 ≤ l ∧ l ≤ c + 14) ∨ (c + 16 ≤ l ∧ l ≤ c + 20) ∨ (l = 198 ∧ 3 ≤ i) ∨ (l = 199 ∧ 18 ≤ i) ∨ (l = 200 ∧ 24 ≤ i) ∨ (l = 201 ∧ 6 ≤ i) ∨ (l = 202 ∧ 10 ≤ i) ∨ (l = 203 ∧ 2 ≤ i)
theorem RC.fp {W : Nat → Nat → Prop} {h h' : KH} {c : Nat} (rc : RC h c) (x : kfp W h h') (hd : ∀ l i, Wct c l i → ¬ W l i) : RC h' c := by
  obtain ⟨hr, hc, h5, hm, hk, ht, hma⟩ := rc
  have I : ∀ l i, Wct c l i → kI h' l i = kI h l i := fun l i z => x.2.2.1 l i (hd l i z)
  have c39 := hc.lt
  have a3 : kI h' 198 3 = kI h 198 3 := I _ _ (by unfold Wct; omega)
  have a4 : kI h' 198 4 = kI h 198 4 := I _ _ (by unfold Wct; omega)
  have a5 : kI h' 198 5 = kI h 198 5 := I _ _ (by unfold Wct; omega)
  have b2 : kI h' 203 2 = kI h 203 2 := I _ _ (by unfold Wct; omega)
  have b3 : kI h' 203 3 = kI h 203 3 := I _ _ (by unfold Wct; omega)
  have n3 : kN h' 198 3 = kN h 198 3 := kN_same a3
  have n4 : kN h' 198 4 = kN h 198 4 := kN_same a4
  have n5 : kN h' 198 5 = kN h 198 5 := kN_same a5
  have u3 := hm.1.1.2
  have u4 := hm.2.1.1.2
  have u5 := hm.2.2.1.1.2
  refine ⟨hr.fp x, hc, (x.2.1 0 5).trans h5, ⟨⟨hm.1.1.same a3, ?_⟩, ⟨hm.2.1.1.same a4, ?_⟩, ⟨hm.2.2.1.1.same a5, ?_⟩, ⟨hm.2.2.2.1.1.same b2, ?_, ?_⟩, hm.2.2.2.2.1.same b3, ?_⟩, fun k hk' j hj => ?_, fun t ht' => ?_, fun m hm' j hj => ?_⟩
  · rw [a3, I c 3 (by unfold Wct; omega)]; exact hm.1.2
  · rw [a4, I c 4 (by unfold Wct; omega)]; exact hm.2.1.2
  · rw [a5, I c 5 (by unfold Wct; omega)]; exact hm.2.2.1.2
  · rw [kN_same b2]; exact hm.2.2.2.1.2.1
  · rw [b2, I c 6 (by unfold Wct; omega)]; exact hm.2.2.2.1.2.2
  · rw [b3, I c 7 (by unfold Wct; omega)]; exact hm.2.2.2.2.2
  · rw [n3] at hk'
    obtain ⟨g1, g2⟩ := hk k hk' j hj
    have e : kI h' 200 (24 + 4 * k + j) = kI h 200 (24 + 4 * k + j) := I _ _ (by unfold Wct; omega)
    exact ⟨g1.same e, by rw [e, I (c + 2 + k) (j + 1) (by unfold Wct; omega)]; exact g2⟩
  · rw [n4] at ht'
    obtain ⟨g1, g2⟩ := ht t ht'
    have e : kI h' 201 (6 + t) = kI h 201 (6 + t) := I _ _ (by unfold Wct; omega)
    exact ⟨g1.same e, by rw [e, I (c + 9 + t) 1 (by unfold Wct; omega)]; exact g2⟩
  · rw [n5] at hm'
    obtain ⟨g1, g2, g3⟩ := hma m hm' j hj
    have e : kI h' 202 (10 + 2 * m + j) = kI h 202 (10 + 2 * m + j) := I _ _ (by unfold Wct; omega)
    exact ⟨g1.same e, by rw [kN_same e]; exact g2, by rw [e, I (c + 16 + m) (j + 1) (by unfold Wct; omega)]; exact g3⟩
theorem XS.fp {W : Nat → Nat → Prop} {h h' : KH} {v : Nat} (s : XS h v) (x : kfp W h h') (hd : ∀ l i, (v ≤ l ∧ l ≤ v + 3) ∨ (l = 198 ∧ 3 ≤ i) → ¬ W l i) : XS h' v := by
  have I : ∀ l i, (v ≤ l ∧ l ≤ v + 3) ∨ (l = 198 ∧ 3 ≤ i) → kI h' l i = kI h l i := fun l i z => x.2.2.1 l i (hd l i z)
  have n4 : kN h' 198 4 = kN h 198 4 := kN_same (I _ _ (by omega))
  have n5 : kN h' 198 5 = kN h 198 5 := kN_same (I _ _ (by omega))
  refine ⟨s.1.same (I _ _ (by omega)), s.2.1.same (I _ _ (by omega)), fun t ht => ⟨(s.2.2.1 t ht).1.same (I _ _ (by omega)), (s.2.2.1 t ht).2.1.same (I _ _ (by omega)), fun z => ?_⟩, fun i hi => ⟨(s.2.2.2 i hi).1.same (I _ _ (by omega)), fun z => ?_⟩⟩
  · rw [kN_same (I (v + 2) t (by omega))]
    exact (s.2.2.1 t ht).2.2 (by omega)
  · rw [kN_same (I (v + 3) i (by omega))]
    exact (s.2.2.2 i hi).2 (by omega)
theorem MS.fp {W : Nat → Nat → Prop} {h h' : KH} (s : MS h) (x : kfp W h h') (hd : ∀ l i, l = 207 ∨ (l = 198 ∧ 3 ≤ i) → ¬ W l i) : MS h' := by
  have I : ∀ l i, l = 207 ∨ (l = 198 ∧ 3 ≤ i) → kI h' l i = kI h l i := fun l i z => x.2.2.1 l i (hd l i z)
  have n4 : kN h' 198 4 = kN h 198 4 := kN_same (I _ _ (by omega))
  have n5 : kN h' 198 5 = kN h 198 5 := kN_same (I _ _ (by omega))
  refine ⟨s.1.same (I _ _ (by omega)), s.2.1.same (I _ _ (by omega)), fun t ht => ⟨(s.2.2.1 t ht).1.same (I _ _ (by omega)), (s.2.2.1 t ht).2.1.same (I _ _ (by omega)), fun z => ?_⟩, fun i hi => ⟨(s.2.2.2 i hi).1.same (I _ _ (by omega)), fun z => ?_⟩⟩
  · rw [kN_same (I 207 _ (by omega))]
    exact (s.2.2.1 t ht).2.2 (by omega)
  · rw [kN_same (I 207 _ (by omega))]
    exact (s.2.2.2 i hi).2 (by omega)
theorem RS.fp {W : Nat → Nat → Prop} {h h' : KH} (s : RS h) (x : kfp W h h') (hd : ∀ l i, (64 ≤ l ∧ l ≤ 67) ∨ l = 207 ∨ (l = 198 ∧ 3 ≤ i) → ¬ W l i) : RS h' := by
  have I : ∀ l i, (64 ≤ l ∧ l ≤ 67) ∨ l = 207 ∨ (l = 198 ∧ 3 ≤ i) → kI h' l i = kI h l i := fun l i z => x.2.2.1 l i (hd l i z)
  exact s.move ⟨fun i _ => I _ _ (by omega), fun t _ => ⟨I _ _ (by omega), I _ _ (by omega)⟩, fun i _ => I _ _ (by omega), fun i _ => I _ _ (by omega), I _ _ (by omega), I _ _ (by omega)⟩
theorem RK.fp {W : Nat → Nat → Prop} {h h' : KH} (s : RK h) (x : kfp W h h') (hd : ∀ l i, (64 ≤ l ∧ l ≤ 67) ∨ l = 74 ∨ l = 207 ∨ (l = 198 ∧ 3 ≤ i) → ¬ W l i) : RK h' := by
  have I : ∀ l i, (64 ≤ l ∧ l ≤ 67) ∨ l = 74 ∨ l = 207 ∨ (l = 198 ∧ 3 ≤ i) → kI h' l i = kI h l i := fun l i z => x.2.2.1 l i (hd l i z)
  exact Kst.move s ⟨fun i _ => I _ _ (by omega), fun t _ => ⟨I _ _ (by omega), I _ _ (by omega)⟩, fun i _ => I _ _ (by omega), fun i _ => I _ _ (by omega), I _ _ (by omega), I _ _ (by omega)⟩ fun j _ i _ => I _ _ (by omega)
/-- behind a case judged: what both wrote is alike -/
theorem aft_judged {h h' : KH} (rs : RS h) (rk : RK h) {H w : Nat} {cl rt : Int32} (c9 : kN h 207 0 < 9999) (Hl : H < 2 ^ kN h 198 4)
    (E4 : kI h' 198 4 = kI h 198 4) (E5 : kI h' 198 5 = kI h 198 5)
    (X0 : kI h' 64 0 = Int32.ofNat (kN h 64 0 + 1)) (X1 : kI h' 64 1 = Int32.ofNat (min 9999 (kN h 64 1 + w))) (X2 : kI h' 64 2 = Int32.ofNat (kN h 64 2 + 1))
    (X3 : ∀ t, t < 6 → kI h' 65 t = Int32.ofNat (moreN H (kN h 65 t) t) ∧ kI h' 66 t = 0) (X4 : ∀ i, i < 10 → kI h' 67 i = 0)
    (P0 : kI h' 74 (4 * (kN h 64 2 % 1024)) = cl) (P1 : kI h' 74 (4 * (kN h 64 2 % 1024) + 1) = Int32.ofNat w) (P2 : kI h' 74 (4 * (kN h 64 2 % 1024) + 2) = Int32.ofNat (pcN H)) (P3 : kI h' 74 (4 * (kN h 64 2 % 1024) + 3) = rt)
    (D : ∀ x, x < kN h 64 2 → kN h 64 2 < x + 1024 → ∀ i, i < 4 → kI h' 74 (4 * (x % 1024) + i) = kI h 74 (4 * (x % 1024) + i))
    (M0 : kI h' 207 0 = Int32.ofNat (kN h 207 0 + 1)) (M1 : kI h' 207 1 = Int32.ofNat (min 9999 (kN h 207 1 + w)))
    (M3 : ∀ t, t < 6 → kI h' 207 (2 + 2 * t) = Int32.ofNat (moreN H (kN h 207 (2 + 2 * t)) t) ∧ kI h' 207 (2 + 2 * t + 1) = 0) (M4 : ∀ i, i < 10 → kI h' 207 (14 + i) = 0)
    (M5 : kI h' 207 24 = Int32.ofNat (min 40 (min (kN h 64 2) 40 + 1)))
    (M6 : ∀ j, j + 1 < min 40 (min (kN h 64 2) 40 + 1) → ∀ i, i < 4 → kI h' 207 (25 + 4 * j + i) = kI h 207 (25 + 4 * (if min (kN h 64 2) 40 = 40 then j + 1 else j) + i))
    (Q0 : kI h' 207 (25 + 4 * (min 40 (min (kN h 64 2) 40 + 1) - 1) + 0) = cl) (Q1 : kI h' 207 (25 + 4 * (min 40 (min (kN h 64 2) 40 + 1) - 1) + 1) = Int32.ofNat w) (Q2 : kI h' 207 (25 + 4 * (min 40 (min (kN h 64 2) 40 + 1) - 1) + 2) = Int32.ofNat (pcN H)) (Q3 : kI h' 207 (25 + 4 * (min 40 (min (kN h 64 2) 40 + 1) - 1) + 3) = rt) : RS h' ∧ RK h' := by
  have k0 := rk.k.1.2
  have k1 := rk.k.2
  have e0 : kN h 64 0 = kN h 207 0 := kN_same rs.c.2
  have e1 : kN h 64 1 = kN h 207 1 := kN_same rs.h.2
  have z0 : (0 : Int32) = Int32.ofNat 0 := rfl
  rw [e0] at X0
  rw [e1] at X1
  refine ⟨⟨⟨cn_of M0 (by omega) (by omega), X0.trans M0.symm⟩, ⟨cn_of (l := 207) (i := 0 + 1) M1 (Nat.min_le_left _ _) (by omega), X1.trans M1.symm⟩, fun t ht => ?_, fun i hi => ?_⟩, ⟨cn_of X2 (by omega) (by omega), ?_⟩, ?_, fun j hj i hi => ?_⟩
  · obtain ⟨x1, x2⟩ := X3 t ht
    obtain ⟨m1, m2⟩ := M3 t ht
    have et : kN h 65 t = kN h 207 (2 + 2 * t) := kN_same (rs.t ht).2
    rw [et] at x1
    rw [Nat.zero_add, Nat.zero_add]
    refine ⟨⟨cn_of m1 (moreN_le (rs.t ht).1.2) (by omega), x1.trans m1.symm⟩, ⟨cn_of (m2.trans z0) (by omega) (by omega), x2.trans m2.symm⟩, fun y => ⟨?_, kN_of (m2.trans z0) (by omega)⟩⟩
    rw [kN_same E4] at y
    have e : moreN H (kN h 207 (2 + 2 * t)) t = 0 := by
      unfold moreN
      rw [if_pos (bit_hi Hl y), rs.tz ht y]
    rw [e] at m1
    exact kN_of m1 (by omega)
  · rw [Nat.zero_add]
    exact ⟨cn_of ((M4 i hi).trans z0) (by omega) (by omega), (X4 i hi).trans (M4 i hi).symm, fun _ => kN_of ((M4 i hi).trans z0) (by omega)⟩
  · rw [kN_of X2 (by omega), kN_of M0 (by omega)]
    omega
  · rw [kN_of X2 (by omega)]
    show kI h' 207 24 = _
    rw [M5]
    congr 1
    omega
  · rw [kN_of X2 (by omega)] at hj ⊢
    rw [Nat.zero_add]
    by_cases z : j + 1 < min 40 (min (kN h 64 2) 40 + 1)
    · rw [M6 j z i hi]
      by_cases y : min (kN h 64 2) 40 = 40
      · rw [if_pos y]
        have r := rk.r (j := j + 1) (i := i) (by omega) hi
        rw [← r, show kN h 64 2 + 1 - min (kN h 64 2 + 1) 40 + j = kN h 64 2 - min (kN h 64 2) 40 + (j + 1) by omega]
        exact D _ (by omega) (by omega) i hi
      · rw [if_neg y]
        have r := rk.r (j := j) (i := i) (by omega) hi
        rw [← r, show kN h 64 2 + 1 - min (kN h 64 2 + 1) 40 + j = kN h 64 2 - min (kN h 64 2) 40 + j by omega]
        exact D _ (by omega) (by omega) i hi
    · rw [show kN h 64 2 + 1 - min (kN h 64 2 + 1) 40 + j = kN h 64 2 by omega, show 25 + 4 * j + i = 25 + 4 * (min 40 (min (kN h 64 2) 40 + 1) - 1) + i by omega]
      have e : i = 0 ∨ i = 1 ∨ i = 2 ∨ i = 3 := by omega
      rcases e with rfl | rfl | rfl | rfl
      · rw [Q0, Nat.add_zero, P0]
      · rw [Q1, P1]
      · rw [Q2, P2]
      · rw [Q3, P3]
theorem n32_heard : ∀ n, n < 7 → ∀ s, s < 2 ^ n → (Int32.ofNat (2 ^ n - 1)) &&& ((Int32.ofNat (2 ^ n - 1 - s)) ^^^ (-1 : Int32)) = Int32.ofNat s := by decide +kernel
