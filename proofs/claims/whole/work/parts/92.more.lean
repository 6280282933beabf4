/-! heard once more, at most 99 times -/
theorem x_min99 (h : KH) {x : Nat} (hx : x ≤ 100) : f_J9_min_7cf53 h (99 : Int32) (Int32.ofNat x) = some (Int32.ofNat (min 99 x)) := by
  unfold f_J9_min_7cf53
  by_cases y : x < 99
  · rw [Nat.min_eq_right (by omega)]
    first
    | rw [if_pos (by rw [n32_ltl (by omega) (by omega)]; exact y)]
    | rw [if_neg (by rw [n32_ltr (by omega) (by omega)]; omega)]
  · rw [Nat.min_eq_left (by omega)]
    first
    | rw [if_neg (by rw [n32_ltl (by omega) (by omega)]; exact y)]
      rfl
    | by_cases z : 99 < x
      · rw [if_pos (by rw [n32_ltr (by omega) (by omega)]; exact z)]
        rfl
      · rw [if_neg (by rw [n32_ltr (by omega) (by omega)]; exact z), show x = 99 by omega]
