/-! the easy calls, each from what it needs of the state -/
theorem i64_32 {a : Int32} : (a.toInt64).toInt = a.toInt := Int32.toInt_toInt64 a
/-- isIn of an int between small literals -/
theorem isIn_eq (h : KH) (v l m : Int64) : f_X12_isIn h v l m = some (if l.toInt ≤ v.toInt ∧ v.toInt ≤ m.toInt then 1 else 0) := by
  unfold f_X12_isIn lg_cmp
  by_cases h1 : v.toInt < l.toInt
  · simp [h1]
    omega
  · by_cases h2 : m.toInt < v.toInt
    · sorry
    · sorry
theorem c_fault {h : KH} (a : Int32) (hr : kRefs h) (h7 : kI h 8 7 = kI h 173 7) (h8 : kI h 8 8 = kI h 173 8) : ∃ r, f_X11_fault h 0 a = some r ∧ f_X12_fault h 173 a = some r := by
  unfold f_X11_fault f_X12_fault
  simp only [kk0, kk173, rf0_2 hr, kk8, h7, h8, if_pos, if_true, Nat.reduceLT]
  by_cases a0 : a = 0
  · simp [a0]
  · by_cases a1 : a = 1
    · simp [a1]
    · simp [a0, a1]
