/-! the relation's first parts at the start -/
set_option maxHeartbeats 8000000 in
set_option maxRecDepth 1000000 in
theorem khI_174 : ∀ i : Nat, khI.map (fun h => kI h 174 i) = some 0 := fun i => by with_unfolding_all rfl
set_option maxHeartbeats 8000000 in
set_option maxRecDepth 1000000 in
theorem khI_2 : ∀ i : Nat, khI.map (fun h => kI h 2 i) = some 0 := fun i => by with_unfolding_all rfl
theorem khI_few : khI.map (fun h => ([kI h 1 1, kI h 173 1, kI h 0 14, kI h 172 0, kI h 172 1, kI h 172 2, kI h 172 3, kI h 172 4, kI h 172 5, kI h 175 0, kI h 175 1, kI h 175 2, kI h 175 3, kI h 175 4, kI h 175 5, kI h 8 7, kI h 8 8, kI h 173 7, kI h 173 8, kI h 0 16, kI h 173 96], kL h 173 63)) = some ([0, 0, 1, 0, 0, 0, 0, 0, 0, 0, 0, 0, 0, 0, 0, 0, -1, 0, -1, 0, 0], 1) := by decide +kernel
/-- FAULT and its place -/
def Rfault (h : KH) : Prop := kI h 8 7 = kI h 173 7 ∧ kI h 8 8 = kI h 173 8
/-- the latest image -/
def Rimg (h : KH) : Prop := ∃ n : Nat, n ≤ 27 ∧ kI h 0 16 = Int32.ofNat n ∧ kI h 173 96 = Int32.ofNat n ∧ ∀ j, j < n → kI h 171 j = kI h 242 j
theorem start1 {h : KH} (hk : khI = some h) : Rtape h ∧ Rref h ∧ Rseed h ∧ Rfault h ∧ Rimg h := by
  have z := khI_few
  rw [hk] at z
  have z := Option.some.inj z
  have e1 := congrArg Prod.fst z
  have e2 : kL h 173 63 = 1 := congrArg Prod.snd z
  simp only [List.cons.injEq, and_true] at e1
  obtain ⟨a0, a1, a2, b0, b1, b2, b3, b4, b5, c0, c1, c2, c3, c4, c5, f1, f2, f3, f4, i1, i2⟩ := e1
  have t1 : ∀ i, kI h 174 i = 0 := fun i => by
    have y := khI_174 i
    rw [hk] at y
    exact Option.some.inj y
  have t2 : ∀ i, kI h 2 i = 0 := fun i => by
    have y := khI_2 i
    rw [hk] at y
    exact Option.some.inj y
  refine ⟨⟨⟨0, by omega, a0, a1⟩, fun i _ => by rw [t1, t2]; rfl⟩, fun j hj => ?_, ⟨by rw [a2]; decide, by rw [a2, e2]; rfl⟩, ⟨by rw [f1, f3], by rw [f2, f4]⟩, 0, by omega, i1, i2, fun j hj => absurd hj (Nat.not_lt_zero _)⟩
  match j, hj with
  | 0, _ => rw [b0, c0]
  | 1, _ => rw [b1, c1]
  | 2, _ => rw [b2, c2]
  | 3, _ => rw [b3, c3]
  | 4, _ => rw [b4, c4]
  | 5, _ => rw [b5, c5]
  | k + 6, h => omega
