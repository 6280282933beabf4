/-! the bytes of the tape, as both read them -/
theorem bit255 : ∀ i : Nat, ∀ h : i < 32, ¬ i < 8 → ((255 : Int32).toBitVec)[i] = false := by decide
theorem by255 (y : Int32) : (y.toInt8.toInt32) &&& (255 : Int32) = y &&& (255 : Int32) := by
  apply Int32.toBitVec_inj.mp
  rw [Int32.toBitVec_and, Int32.toBitVec_and, Int8.toBitVec_toInt32, Int32.toBitVec_toInt8]
  ext i hi
  rw [BitVec.getElem_and, BitVec.getElem_and, BitVec.getElem_signExtend]
  by_cases h : i < 8
  · simp [h, hi, BitVec.getElem_signExtend]
  · rw [bit255 i hi h, Bool.and_false, Bool.and_false]
theorem tby255 (v sh : Int32) : tby v sh &&& (255 : Int32) = (v >>> (sh &&& 31)) &&& (255 : Int32) := by
  unfold tby
  show ((v >>> (sh &&& 31)).toInt8.toInt32.toInt8.toInt32) &&& (255 : Int32) = _
  rw [by255, by255]
theorem and255 (y : Int32) : ∃ n : Nat, n < 256 ∧ y &&& (255 : Int32) = Int32.ofNat n := by
  refine ⟨(y &&& (255 : Int32)).toBitVec.toNat, ?_, ?_⟩
  · rw [Int32.toBitVec_and, BitVec.toNat_and]
    exact Nat.lt_of_le_of_lt Nat.and_le_right (by decide)
  · apply Int32.toBitVec_inj.mp
    rw [Int32.toBitVec_ofNat', BitVec.ofNat_toNat, BitVec.setWidth_eq]
/-- the number that a place of five holds -/
def arg5 (a b c d e : Int32) (k : Nat) : Int32 := if k < 4 then a else if k < 8 then b else if k < 12 then c else if k < 16 then d else e
/-- a byte of five numbers -/
def by5 (a b c d e : Int32) (k : Nat) : Int32 := (arg5 a b c d e k >>> Int32.ofNat (8 * (3 - k % 4))) &&& (255 : Int32)
theorem sh5 : ∀ k : Nat, k < 20 → (((8 : Int32) * ((3 : Int32) - (Int32.ofNat k - Int32.ofNat k / (4 : Int32) * (4 : Int32)))) &&& 31) = Int32.ofNat (8 * (3 - k % 4)) := by decide +kernel
theorem mby_eq (a b c d e : Int32) {k : Nat} (hk : k < 20) : mby a b c d e k = by5 a b c d e k := by
  unfold mby by5 arg5
  rw [sh5 k hk]
theorem mfeed_byte (h : KH) (t : Nat) (a b c d e : Int32) (i : Nat) : ∀ n, n ≤ 20 → kI (mfeed h t a b c d e n) 174 i = if t ≤ i ∧ i < t + n then by5 a b c d e (i - t) else kI h 174 i
  | 0, _ => by
    rw [if_neg (by omega)]
    rfl
  | n + 1, hn => by
    show kI (ksI (ksI _ _ _ _) _ _ _) 174 i = _
    rw [kI_sI, if_neg (by omega), kI_sI]
    by_cases hi : i = t + n
    · rw [if_pos ⟨rfl, hi⟩, if_pos (by omega), mby_eq _ _ _ _ _ (by omega), show i - t = n by omega]
    · rw [if_neg (fun z => hi z.2), mfeed_byte h t a b c d e i n (by omega)]
      by_cases hj : t ≤ i ∧ i < t + n
      · rw [if_pos hj, if_pos (by omega)]
      · rw [if_neg hj, if_neg (by omega)]
theorem xadd1_byte (h : KH) (t : Nat) (v sh : Int32) (i : Nat) : kI (xadd1 h t v sh) 2 i = if i = t then tby v sh else kI h 2 i := by
  unfold xadd1
  rw [kI_sI, if_neg (by omega), kI_sI]
  by_cases hi : i = t
  · rw [if_pos ⟨rfl, hi⟩, if_pos hi]
  · rw [if_neg (fun z => hi z.2), if_neg hi]
theorem xadd_byte (h : KH) (t : Nat) (v : Int32) (i : Nat) : kI (xadd h t v) 2 i &&& (255 : Int32) = if t ≤ i ∧ i < t + 4 then (v >>> Int32.ofNat (8 * (3 - (i - t) % 4))) &&& (255 : Int32) else kI h 2 i &&& (255 : Int32) := by
  unfold xadd
  rw [xadd1_byte, xadd1_byte, xadd1_byte, xadd1_byte]
  by_cases h3 : i = t + 3
  · rw [if_pos h3, if_pos (by omega), tby255, show i - t = 3 by omega]
    rfl
  · rw [if_neg h3]
    by_cases h2 : i = t + 2
    · rw [if_pos h2, if_pos (by omega), tby255, show i - t = 2 by omega]
      rfl
    · rw [if_neg h2]
      by_cases h1 : i = t + 1
      · rw [if_pos h1, if_pos (by omega), tby255, show i - t = 1 by omega]
        rfl
      · rw [if_neg h1]
        by_cases h0 : i = t
        · rw [if_pos h0, if_pos (by omega), tby255, show i - t = 0 by omega]
          rfl
        · rw [if_neg h0, if_neg (by omega)]
theorem xfeed_byte (h : KH) (t : Nat) (a b c d e : Int32) (i : Nat) : kI (xfeed h t a b c d e) 2 i &&& (255 : Int32) = if t ≤ i ∧ i < t + 20 then by5 a b c d e (i - t) else kI h 2 i &&& (255 : Int32) := by
  unfold xfeed by5 arg5
  rw [xadd_byte, xadd_byte, xadd_byte, xadd_byte, xadd_byte]
  by_cases h5 : t + 16 ≤ i ∧ i < t + 16 + 4
  · rw [if_pos h5, if_pos (by omega), if_neg (by omega), if_neg (by omega), if_neg (by omega), if_neg (by omega), show (i - (t + 16)) % 4 = (i - t) % 4 by omega]
  · rw [if_neg h5]
    by_cases h4 : t + 12 ≤ i ∧ i < t + 12 + 4
    · rw [if_pos h4, if_pos (by omega), if_neg (by omega), if_neg (by omega), if_neg (by omega), if_pos (by omega), show (i - (t + 12)) % 4 = (i - t) % 4 by omega]
    · rw [if_neg h4]
      by_cases h3 : t + 8 ≤ i ∧ i < t + 8 + 4
      · rw [if_pos h3, if_pos (by omega), if_neg (by omega), if_neg (by omega), if_pos (by omega), show (i - (t + 8)) % 4 = (i - t) % 4 by omega]
      · rw [if_neg h3]
        by_cases h2 : t + 4 ≤ i ∧ i < t + 4 + 4
        · rw [if_pos h2, if_pos (by omega), if_neg (by omega), if_pos (by omega), show (i - (t + 4)) % 4 = (i - t) % 4 by omega]
        · rw [if_neg h2]
          by_cases h1 : t ≤ i ∧ i < t + 4
          · rw [if_pos h1, if_pos (by omega), if_pos (by omega)]
          · rw [if_neg h1, if_neg (by omega)]
