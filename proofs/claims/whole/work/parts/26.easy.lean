/-! the easy calls: what each answers (x_: the class, m_: the model), from what it needs of the state -/
theorem lgc_lt (a b : Int64) : lg_cmp a b < 0 ↔ a.toInt < b.toInt := by
  unfold lg_cmp
  by_cases h1 : b < a
  · rw [if_pos h1]
    rw [Int64.lt_iff_toInt_lt] at h1
    exact ⟨fun z => absurd z (by decide), fun z => by omega⟩
  · rw [if_neg h1]
    rw [Int64.lt_iff_toInt_lt] at h1
    by_cases h2 : a = b
    · rw [if_pos h2]
      subst h2
      exact ⟨fun z => absurd z (by decide), fun z => by omega⟩
    · rw [if_neg h2]
      have : a.toInt ≠ b.toInt := fun z => h2 (Int64.toInt_inj.mp z)
      exact ⟨fun _ => by omega, fun _ => by decide⟩
theorem lgc_gt (a b : Int64) : 0 < lg_cmp a b ↔ b.toInt < a.toInt := by
  unfold lg_cmp
  by_cases h1 : b < a
  · rw [if_pos h1]
    rw [Int64.lt_iff_toInt_lt] at h1
    exact ⟨fun _ => h1, fun _ => by decide⟩
  · rw [if_neg h1]
    rw [Int64.lt_iff_toInt_lt] at h1
    by_cases h2 : a = b
    · rw [if_pos h2]
      exact ⟨fun z => absurd z (by decide), fun z => absurd z h1⟩
    · rw [if_neg h2]
      exact ⟨fun z => absurd z (by decide), fun z => absurd z h1⟩
theorem lgc_eq (a b : Int64) : lg_cmp a b = 0 ↔ a = b := by
  unfold lg_cmp
  by_cases h1 : b < a
  · rw [if_pos h1]
    refine ⟨fun z => absurd z (by decide), fun z => ?_⟩
    subst z
    rw [Int64.lt_iff_toInt_lt] at h1
    omega
  · rw [if_neg h1]
    by_cases h2 : a = b
    · rw [if_pos h2]
      exact ⟨fun _ => h2, fun _ => rfl⟩
    · rw [if_neg h2]
      exact ⟨fun z => absurd z (by decide), fun z => absurd z h2⟩
theorem isIn_eq (h : KH) (v l m : Int64) : f_X12_isIn h v l m = some (if l.toInt ≤ v.toInt ∧ v.toInt ≤ m.toInt then 1 else 0) := by
  unfold f_X12_isIn
  by_cases h1 : lg_cmp v l < 0
  · rw [if_pos h1, if_neg]
    rw [lgc_lt] at h1
    omega
  · rw [if_neg h1]
    rw [lgc_lt] at h1
    by_cases h2 : 0 < lg_cmp v m
    · rw [if_pos h2, if_neg]
      rw [lgc_gt] at h2
      omega
    · rw [if_neg h2, if_pos]
      rw [lgc_gt] at h2
      omega
theorem c_fault {h : KH} (a : Int32) (hr : kRefs h) (h7 : kI h 8 7 = kI h 173 7) (h8 : kI h 8 8 = kI h 173 8) : ∃ r, f_X11_fault h 0 a = some r ∧ f_X12_fault h 173 a = some r := by
  unfold f_X11_fault f_X12_fault
  simp only [kk0, kk173, rf0_2 hr, kk8, h7, h8, if_pos, if_true, Nat.reduceLT]
  by_cases a0 : a = 0
  · simp [a0]
  · by_cases a1 : a = 1
    · simp [a1]
    · simp [a0, a1]
theorem i0_lt (a : Int32) : a < 0 ↔ a.toInt < 0 := by
  rw [Int32.lt_iff_toInt_lt]
  exact Iff.rfl
theorem cl_lt {a : Int32} (h : 0 ≤ a.toInt) (n : Nat) : n ≤ a.toNatClampNeg ↔ (n : Int) ≤ a.toInt := by
  rw [Int32.toNatClampNeg]
  omega
theorem x_status {h : KH} (hr : kRefs h) (a : Int32) : f_X11_status h 0 a = some (if 0 ≤ a.toInt ∧ a.toInt ≤ 5 then kI h 172 a.toNatClampNeg else -1) := by
  unfold f_X11_status
  by_cases h1 : a < 0
  · rw [if_pos h1, if_neg]
    rw [i0_lt] at h1
    omega
  · rw [if_neg h1]
    simp only [kk0, rf0_17 hr, kk172, kn172, if_true, Nat.reduceLT]
    rw [i0_lt] at h1
    by_cases h2 : Int32.ofNat 6 ≤ a
    · rw [if_pos h2, if_neg]
      rw [Int32.le_iff_toInt_le, n32_toInt (by omega)] at h2
      omega
    · rw [if_neg h2]
      rw [Int32.le_iff_toInt_le, n32_toInt (by omega)] at h2
      rw [if_neg, if_pos (by omega)]
      rw [i0_lt, cl_lt (by omega)]
      omega
theorem m_status {h : KH} (hr : kRefs h) (a : Int32) : f_X12_status h 173 a = some (if 0 ≤ a.toInt ∧ a.toInt ≤ 5 then kI h 175 a.toNatClampNeg else -1) := by
  unfold f_X12_status
  rw [isIn_eq, kb_s]
  have z0 : (0 : Int64).toInt = 0 := rfl
  have z5 : (5 : Int64).toInt = 5 := rfl
  rw [Int32.toInt_toInt64, z0, z5]
  by_cases h1 : 0 ≤ a.toInt ∧ a.toInt ≤ 5
  · rw [if_pos h1, if_neg (by decide), if_pos h1]
    simp only [kk173, rf173_9 hr, kk175, kn175, if_true, Nat.reduceLT]
    rw [if_neg]
    rw [i0_lt, cl_lt (by omega)]
    omega
  · rw [if_neg h1, if_pos rfl, if_neg h1]
theorem c_status {h : KH} (a : Int32) (hr : kRefs h) (hq : ∀ j, j < 6 → kI h 172 j = kI h 175 j) : ∃ r, f_X11_status h 0 a = some r ∧ f_X12_status h 173 a = some r := by
  refine ⟨_, x_status hr a, ?_⟩
  rw [m_status hr]
  by_cases h1 : 0 ≤ a.toInt ∧ a.toInt ≤ 5
  · rw [if_pos h1, if_pos h1, hq]
    exact Nat.lt_of_not_le fun y => by
      have := (cl_lt h1.1 6).mp y
      omega
  · rw [if_neg h1, if_neg h1]
theorem x_refuse {h : KH} (hr : kRefs h) {j : Nat} (hj : j < 6) : f_X11_refuse h 0 (Int32.ofNat j) = some (-1, ksI h 172 j (kI h 172 j + 1)) := by
  unfold f_X11_refuse
  simp only [kk0, rf0_17 hr, kk172, kn172, if_true, Nat.reduceLT]
  rw [if_neg, n32_cl (by omega), kl_e]
  rw [n32_cl (by omega)]
  exact fun z => z.elim (n32_nn (by omega)) (by omega)
theorem x_octet {h : KH} (hr : kRefs h) {n : Nat} (hn : kI h 0 16 = Int32.ofNat n) (h27 : n ≤ 27) (a : Int32) : f_X11_octet h 0 a = some (if 0 ≤ a.toInt ∧ a.toInt < n then kI h 171 a.toNatClampNeg else -1) := by
  unfold f_X11_octet
  by_cases h1 : a < 0
  · rw [if_pos h1, if_neg]
    rw [i0_lt] at h1
    omega
  · rw [if_neg h1]
    simp only [kk0, rf0_15 hr, kk171, kn171, if_true, Nat.reduceLT, hn]
    rw [i0_lt] at h1
    by_cases h2 : Int32.ofNat n ≤ a
    · rw [if_pos h2, if_neg]
      rw [Int32.le_iff_toInt_le, n32_toInt (by omega)] at h2
      omega
    · rw [if_neg h2]
      rw [Int32.le_iff_toInt_le, n32_toInt (by omega)] at h2
      rw [if_neg, if_pos (by omega)]
      rw [i0_lt, cl_lt (by omega)]
      omega
theorem m_octet {h : KH} (hr : kRefs h) {n : Nat} (hn : kI h 173 96 = Int32.ofNat n) (h27 : n ≤ 27) (a : Int32) : f_X12_octet h 173 a = some (if 0 ≤ a.toInt ∧ a.toInt < n then kI h 242 a.toNatClampNeg else -1) := by
  unfold f_X12_octet
  by_cases h1 : a < 0
  · rw [if_pos h1, if_neg]
    rw [i0_lt] at h1
    omega
  · rw [if_neg h1]
    simp only [kk173, rf173_95 hr, kk242, kn242, if_true, Nat.reduceLT, hn]
    rw [i0_lt] at h1
    by_cases h2 : Int32.ofNat n ≤ a
    · rw [if_pos h2, if_neg]
      rw [Int32.le_iff_toInt_le, n32_toInt (by omega)] at h2
      omega
    · rw [if_neg h2]
      rw [Int32.le_iff_toInt_le, n32_toInt (by omega)] at h2
      rw [if_neg, if_pos (by omega)]
      rw [i0_lt, cl_lt (by omega)]
      omega
theorem c_octet {h : KH} (a : Int32) (hr : kRefs h) {n : Nat} (h27 : n ≤ 27) (hx : kI h 0 16 = Int32.ofNat n) (hm : kI h 173 96 = Int32.ofNat n) (hq : ∀ j, j < n → kI h 171 j = kI h 242 j) : ∃ r, f_X11_octet h 0 a = some r ∧ f_X12_octet h 173 a = some r := by
  refine ⟨_, x_octet hr hx h27 a, ?_⟩
  rw [m_octet hr hm h27]
  by_cases h1 : 0 ≤ a.toInt ∧ a.toInt < n
  · rw [if_pos h1, if_pos h1, hq]
    exact Nat.lt_of_not_le fun y => by
      have := (cl_lt h1.1 n).mp y
      omega
  · rw [if_neg h1, if_neg h1]
/-- refusals of the model, where it writes them out -/
theorem x_seed {h : KH} (hr : kRefs h) (a : Int32) : f_X11_seed h 0 a = some (if 0 ≤ a.toInt then (1, ksI h 0 14 a) else (0, ksI h 172 5 (kI h 172 5 + 1))) := by
  unfold f_X11_seed
  have z : 0 ≤ a ↔ 0 ≤ a.toInt := Int32.le_iff_toInt_le
  by_cases h1 : 0 ≤ a
  · rw [if_pos h1, if_pos kk0, kl_e, if_pos (z.mp h1)]
  · rw [if_neg h1, if_pos kk0, show (5 : Int32) = Int32.ofNat 5 from rfl, x_refuse hr (by omega), kb_s, if_neg (fun y => h1 (z.mpr y))]
theorem m_seed {h : KH} (hr : kRefs h) (a : Int32) : f_X12_seed h 173 a = some (if 0 ≤ a.toInt then (1, ksL h 173 63 a.toInt64) else (0, ksI h 175 5 (kI h 175 5 + 1))) := by
  unfold f_X12_seed
  have z : 0 ≤ a ↔ 0 ≤ a.toInt := Int32.le_iff_toInt_le
  by_cases h1 : 0 ≤ a
  · rw [if_pos h1, if_pos kk173, kl_e, if_pos (z.mp h1)]
  · rw [if_neg h1, if_neg (fun y => h1 (z.mpr y))]
    simp only [kk173, rf173_9 hr, kk175, kn175, if_true, Nat.reduceLT, kl_e]
    rfl
