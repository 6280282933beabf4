/-! what the class reads of the tape -/
theorem x_byteAt {h : KH} (hr : kRefs h) {k : Nat} (hk : k < 1600) : f_X9_byteAt h 1 (Int32.ofNat k) = some (kI h 2 k &&& (255 : Int32)) := by
  unfold f_X9_byteAt
  rw [if_neg (n32_nn (by omega))]
  simp only [kk1, rf1_0 hr, kk2, kn2, if_true, Nat.reduceLT]
  rw [if_neg, if_neg, n32_cl (by omega)]
  · rw [n32_cl (by omega)]
    exact fun z => z.elim (n32_nn (by omega)) (by omega)
  · rw [n32_le (by omega) (by omega)]
    omega
/-- a byte of the tape as a count -/
theorem Rtape.byte {h : KH} (ht : Rtape h) {k : Nat} (hk : k < 1600) : ∃ n : Nat, n < 256 ∧ kI h 174 k = Int32.ofNat n ∧ kI h 2 k &&& (255 : Int32) = Int32.ofNat n := by
  obtain ⟨n, h1, h2⟩ := and255 (kI h 2 k)
  exact ⟨n, h1, by rw [ht.2 k hk, h2], h2⟩
theorem or256 : ∀ a b : Nat, a < 256 → b < 256 → (a * 256) ||| b = a * 256 + b := by
  intro a b _ hb
  have := Nat.shiftLeft_add_eq_or_of_lt (i := 8) (b := b) (by omega) a
  rw [Nat.shiftLeft_eq] at this
  exact this.symm
