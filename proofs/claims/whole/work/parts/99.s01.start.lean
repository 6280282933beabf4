/-! the relation at the start -/
set_option maxHeartbeats 8000000 in
set_option maxRecDepth 1000000 in
theorem khI_207 : ∀ i : Nat, khI.map (fun h => kI h 207 i) = some 0 := fun i => by with_unfolding_all rfl
set_option maxHeartbeats 8000000 in
set_option maxRecDepth 1000000 in
theorem khI_168 : ∀ i : Nat, khI.map (fun h => kL h 168 i) = some 0 := fun i => by with_unfolding_all rfl
set_option maxHeartbeats 8000000 in
set_option maxRecDepth 1000000 in
theorem khI_169 : ∀ i : Nat, khI.map (fun h => kL h 169 i) = some 0 := fun i => by with_unfolding_all rfl
set_option maxHeartbeats 8000000 in
set_option maxRecDepth 1000000 in
theorem khI_215 : ∀ i : Nat, khI.map (fun h => kL h 215 i) = some 0 := fun i => by with_unfolding_all rfl
theorem khI_words : khI.map (fun h => ((List.range 27).all fun j => kI h 9 j == Int32.ofNat (nmC j)) && (((List.range 22).all fun j => (List.range (wdL j).length).all fun i => kI h (176 + j) i == Int32.ofNat ((wdL j).getD i 0)) && ((List.range 21).all fun q => (List.range (wdL (aqN q)).length).all fun i => kI h (218 + q) i == Int32.ofNat ((wdL (aqN q)).getD i 0)))) = some true := by decide +kernel
theorem khI_state : khI.map (fun h => ((List.range 3).all fun i => kI h 64 i == 0) && (((List.range 6).all fun t => kI h 65 t == 0) && (((List.range 6).all fun t => kI h 66 t == 0) && ((List.range 10).all fun i => kI h 67 i == 0)))) = some true := by decide +kernel
theorem khI_court : khI.map (fun h => ([kI h 12 3, kI h 12 4, kI h 12 5, kI h 12 6, kI h 12 7, kI h 12 8, kI h 198 3, kI h 198 4, kI h 198 5, kI h 203 2, kI h 203 3, kI h 204 1, kI h 72 2, kI h 72 3, kI h 173 61, kI h 173 62, kI h 0 13, kI h 173 58, kI h 155 3], kR h 0 5)) = some ([0, 0, 0, 50, 1000, 0, 0, 0, 0, 50, 1000, -1, 0, 0, 0, 0, 0, 0, 0], 12) := by decide +kernel
theorem start_words {h : KH} (hk : khI = some h) : Rwords h := by
  have z := khI_words
  rw [hk] at z
  have z := Option.some.inj z
  simp only [Bool.and_eq_true, List.all_eq_true, List.mem_range, beq_iff_eq] at z
  exact z
theorem start_RP {h : KH} (hk : khI = some h) : RP 12 h := by
  obtain ⟨rt, rre, rsd, rfa, rim⟩ := start1 hk
  have hr := kRefs_start hk
  have z := khI_court
  rw [hk] at z
  have z := Option.some.inj z
  have e1 := congrArg Prod.fst z
  have r5 : kR h 0 5 = 12 := congrArg Prod.snd z
  simp only [List.cons.injEq, and_true] at e1
  obtain ⟨c3, c4, c5, c6, c7, c8, n3, n4, n5, s2, s3, l4, p2, p3, q61, q62, a13, a58, g3⟩ := e1
  have y := khI_state
  rw [hk] at y
  have y := Option.some.inj y
  simp only [Bool.and_eq_true, List.all_eq_true, List.mem_range, beq_iff_eq] at y
  have z7 : ∀ i, kI h 207 i = 0 := fun i => by
    have u := khI_207 i
    rw [hk] at u
    exact Option.some.inj u
  have z168 : ∀ i, kL h 168 i = 0 := fun i => by
    have u := khI_168 i
    rw [hk] at u
    exact Option.some.inj u
  have z169 : ∀ i, kL h 169 i = 0 := fun i => by
    have u := khI_169 i
    rw [hk] at u
    exact Option.some.inj u
  have z215 : ∀ i, kL h 215 i = 0 := fun i => by
    have u := khI_215 i
    rw [hk] at u
    exact Option.some.inj u
  obtain ⟨q5, q6⟩ := state0 (fun i _ => z7 i) y.1 (fun t ht => ⟨y.2.1 t ht, y.2.2.1 t ht⟩) y.2.2.2
  have k3 : kN h 198 3 = 0 := kN_of (n := 0) n3 (by omega)
  have k4 : kN h 198 4 = 0 := kN_of (n := 0) n4 (by omega)
  have k5 : kN h 198 5 = 0 := kN_of (n := 0) n5 (by omega)
  have k2 : kN h 203 2 = 50 := kN_of (n := 50) s2 (by omega)
  refine ⟨⟨hr, Or.inl rfl, r5, ⟨⟨cn_of (n := 0) n3 (by omega) (by omega), c3.trans n3.symm⟩, ⟨cn_of (n := 0) n4 (by omega) (by omega), c4.trans n4.symm⟩, ⟨cn_of (n := 0) n5 (by omega) (by omega), c5.trans n5.symm⟩, ⟨cn_of (n := 50) s2 (by omega) (by omega), by rw [k2]; omega, c6.trans s2.symm⟩, cn_of (n := 1000) s3 (by omega) (by omega), c7.trans s3.symm⟩, fun k hk => ?_, fun t ht => ?_, fun m hm => ?_⟩, fun s hs k hk => ?_, Or.inl ⟨c8, l4⟩, fun a => absurd l4 a, q5, q6, ⟨0, 0, by omega, by omega, p3, q61, p2, q62, fun k h1 h2 => by omega⟩, Rcoming.zero g3, ⟨fun i _ => ⟨z168 i, z169 i⟩, fun i _ => z215 i⟩, ⟨0, by omega, a13, a58, fun i hi => absurd hi (Nat.not_lt_zero _)⟩, start_words hk, rt, rre, rsd, rfa, rim⟩
  · rw [k3] at hk
    omega
  · rw [k4] at ht
    omega
  · rw [k5] at hm
    omega
  · have es : s = 0 ∨ s = 1 ∨ s = 2 := by omega
    rcases es with rfl | rfl | rfl
    · have hk' : k < kN h 198 3 := hk
      omega
    · have hk' : k < kN h 198 4 := hk
      omega
    · have hk' : k < kN h 198 5 := hk
      omega
