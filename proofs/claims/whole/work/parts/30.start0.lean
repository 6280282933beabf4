/-! the relation's first parts at the start -/
set_option maxHeartbeats 8000000 in
set_option maxRecDepth 1000000 in
theorem khI_174 : ∀ i : Nat, khI.map (fun h => kI h 174 i) = some 0 := fun i => by with_unfolding_all rfl
set_option maxHeartbeats 8000000 in
set_option maxRecDepth 1000000 in
theorem khI_2 : ∀ i : Nat, khI.map (fun h => kI h 2 i) = some 0 := fun i => by with_unfolding_all rfl
theorem khI_few : khI.map (fun h => ([kI h 1 1, kI h 173 1, kI h 0 14, kI h 172 0, kI h 172 1, kI h 172 2, kI h 172 3, kI h 172 4, kI h 172 5, kI h 175 0, kI h 175 1, kI h 175 2, kI h 175 3, kI h 175 4, kI h 175 5, kI h 8 7, kI h 8 8, kI h 173 7, kI h 173 8, kI h 0 16, kI h 173 96], kL h 173 63)) = some ([0, 0, 1, 0, 0, 0, 0, 0, 0, 0, 0, 0, 0, 0, 0, 0, -1, 0, -1, 0, 0], 1) := by decide +kernel
