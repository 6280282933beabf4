/-! whole numbers for simp: conditions that omega closes -/
theorem gor {k n : Nat} (h : k < n) : (k < 0 ∨ n ≤ k) = False := by
  refine eq_false ?_
  omega
theorem gor1 {k n : Nat} (h : k < n) : (n ≤ k) = False := by
  refine eq_false ?_
  omega
theorem n32_nlt0 {a : Nat} (h : a < 2147483648) : (Int32.ofNat a < 0) = False := eq_false (n32_nn h)
theorem gix {k n : Nat} (h : k < n) (hn : n < 100000) : (Int32.ofNat k < 0 ∨ n ≤ (Int32.ofNat k).toNatClampNeg) = False := by
  rw [n32_nlt0 (by omega), n32_cl (by omega)]
  exact eq_false fun z => z.elim id (by omega)
theorem n32_sub {a b : Nat} (h : b ≤ a) : Int32.ofNat a - Int32.ofNat b = Int32.ofNat (a - b) := by
  have e : Int32.ofNat a = Int32.ofNat (a - b) + Int32.ofNat b := by rw [n32_add, Nat.sub_add_cancel h]
  rw [e]
  exact Int32.add_sub_cancel _ _
theorem n32_div {a b : Nat} (ha : a < 2147483648) (hb : b < 2147483648) : Int32.ofNat a / Int32.ofNat b = Int32.ofNat (a / b) := by
  have hd : a / b ≤ a := Nat.div_le_self a b
  rw [← Int32.toInt_inj, Int32.toInt_div, n32_toInt ha, n32_toInt hb, n32_toInt (by omega)]
  show (((a : Int).tdiv (b : Int)).bmod (2 ^ 32)) = ((a / b : Nat) : Int)
  rw [show (a : Int).tdiv (b : Int) = ((a / b : Nat) : Int) from rfl]
  generalize a / b = q at hd ⊢
  exact Int.bmod_eq_of_le (by omega) (by omega)
theorem n32_toI64 {a : Nat} (ha : a < 2147483648) : (Int32.ofNat a).toInt64 = Int64.ofNat a := by
  rw [← Int64.toInt_inj, Int32.toInt_toInt64, n32_toInt ha, Int64.toInt_ofNat_of_lt (by omega)]
/-- an argument is one of the first n counts, or it isn't -/
theorem n32_arg (a : Int32) {n : Nat} (hn : n < 2147483648) : (∃ k, k < n ∧ a = Int32.ofNat k) ∨ ¬ (0 ≤ a.toInt ∧ a.toInt < n) := by
  by_cases h : 0 ≤ a.toInt ∧ a.toInt < n
  · left
    obtain ⟨e, hl⟩ := n32_of (v := a) (by rw [i0_lt]; omega)
    refine ⟨a.toNatClampNeg, ?_, e⟩
    rw [Int32.toNatClampNeg]
    omega
  · exact Or.inr h
theorem n32_in2 {k n : Nat} (hk : k < 2147483648) : (0 ≤ (Int32.ofNat k).toInt ∧ (Int32.ofNat k).toInt < (n : Int)) ↔ k < n := by
  rw [n32_toInt hk]
  omega
/-! bits of counts -/
theorem n32_and (a b : Nat) : Int32.ofNat a &&& Int32.ofNat b = Int32.ofNat (a &&& b) := by
  rw [← Int32.toBitVec_inj, Int32.toBitVec_and, Int32.toBitVec_ofNat', Int32.toBitVec_ofNat', Int32.toBitVec_ofNat', BitVec.ofNat_and]
theorem n32_or (a b : Nat) : Int32.ofNat a ||| Int32.ofNat b = Int32.ofNat (a ||| b) := by
  rw [← Int32.toBitVec_inj, Int32.toBitVec_or, Int32.toBitVec_ofNat', Int32.toBitVec_ofNat', Int32.toBitVec_ofNat', BitVec.ofNat_or]
theorem n32_xor (a b : Nat) : Int32.ofNat a ^^^ Int32.ofNat b = Int32.ofNat (a ^^^ b) := by
  rw [← Int32.toBitVec_inj, Int32.toBitVec_xor, Int32.toBitVec_ofNat', Int32.toBitVec_ofNat', Int32.toBitVec_ofNat', BitVec.ofNat_xor]
theorem n32_and31 : ∀ k, k < 32 → (Int32.ofNat k &&& 31) = Int32.ofNat k := by decide +kernel
theorem n32_shm : ∀ k, k < 32 → ((Int32.ofNat k).toBitVec.smod 32).toNat = k := by decide +kernel
theorem n32_shr {a k : Nat} (ha : a < 2147483648) (hk : k < 32) : Int32.ofNat a >>> (Int32.ofNat k &&& 31) = Int32.ofNat (a >>> k) := by
  have hs : a >>> k ≤ a := Nat.shiftRight_le a k
  rw [n32_and31 k hk, ← Int32.toBitVec_inj, Int32.toBitVec_shiftRight, Int32.toBitVec_ofNat', Int32.toBitVec_ofNat']
  apply BitVec.eq_of_toNat_eq
  rw [BitVec.sshiftRight', BitVec.toNat_sshiftRight_of_msb_false]
  · have e := n32_shm k hk
    rw [Int32.toBitVec_ofNat'] at e
    rw [e, Int32.toBitVec_ofNat', BitVec.toNat_ofNat, BitVec.toNat_ofNat, Nat.mod_eq_of_lt (by omega), Nat.mod_eq_of_lt (by omega)]
  · rw [BitVec.msb_eq_false_iff_two_mul_lt, BitVec.toNat_ofNat]
    omega
theorem n32_shl : ∀ k, k < 31 → (1 : Int32) <<< (Int32.ofNat k &&& 31) = Int32.ofNat (2 ^ k) := by decide +kernel
theorem n32_ne0 {a : Nat} (ha : a < 2147483648) : (Int32.ofNat a = 0) ↔ a = 0 := n32_eq (b := 0) ha (by omega)
/-! the same with a written number on one side -/
theorem n32_addl (a n : Nat) : Int32.ofNat a + (no_index (OfNat.ofNat n : Int32)) = Int32.ofNat (a + OfNat.ofNat n) := n32_add a n
theorem n32_addr (a n : Nat) : (no_index (OfNat.ofNat n : Int32)) + Int32.ofNat a = Int32.ofNat (OfNat.ofNat n + a) := n32_add n a
theorem n32_mull (a n : Nat) : Int32.ofNat a * (no_index (OfNat.ofNat n : Int32)) = Int32.ofNat (a * OfNat.ofNat n) := n32_mul a n
theorem n32_mulr (a n : Nat) : (no_index (OfNat.ofNat n : Int32)) * Int32.ofNat a = Int32.ofNat (OfNat.ofNat n * a) := n32_mul n a
theorem n32_subl {a n : Nat} (h : OfNat.ofNat n ≤ a) : Int32.ofNat a - (no_index (OfNat.ofNat n : Int32)) = Int32.ofNat (a - OfNat.ofNat n) := n32_sub h
theorem n32_subr {a n : Nat} (h : a ≤ OfNat.ofNat n) : (no_index (OfNat.ofNat n : Int32)) - Int32.ofNat a = Int32.ofNat (OfNat.ofNat n - a) := n32_sub h
theorem n32_divl {a n : Nat} (ha : a < 2147483648) (hn : OfNat.ofNat n < 2147483648) : Int32.ofNat a / (no_index (OfNat.ofNat n : Int32)) = Int32.ofNat (a / OfNat.ofNat n) := n32_div ha hn
theorem n32_ltl {a n : Nat} (ha : a < 2147483648) (hn : OfNat.ofNat n < 2147483648) : Int32.ofNat a < (no_index (OfNat.ofNat n : Int32)) ↔ a < OfNat.ofNat n := n32_lt ha hn
theorem n32_ltr {a n : Nat} (ha : a < 2147483648) (hn : OfNat.ofNat n < 2147483648) : (no_index (OfNat.ofNat n : Int32)) < Int32.ofNat a ↔ OfNat.ofNat n < a := n32_lt hn ha
theorem n32_lel {a n : Nat} (ha : a < 2147483648) (hn : OfNat.ofNat n < 2147483648) : Int32.ofNat a ≤ (no_index (OfNat.ofNat n : Int32)) ↔ a ≤ OfNat.ofNat n := n32_le ha hn
theorem n32_ler {a n : Nat} (ha : a < 2147483648) (hn : OfNat.ofNat n < 2147483648) : (no_index (OfNat.ofNat n : Int32)) ≤ Int32.ofNat a ↔ OfNat.ofNat n ≤ a := n32_le hn ha
theorem n32_eql {a n : Nat} (ha : a < 2147483648) (hn : OfNat.ofNat n < 2147483648) : Int32.ofNat a = (no_index (OfNat.ofNat n : Int32)) ↔ a = OfNat.ofNat n := n32_eq ha hn
theorem n32_eqm {a : Nat} (ha : a < 2147483648) : Int32.ofNat a = (-1 : Int32) ↔ False := by
  rw [← Int32.toInt_inj, n32_toInt ha]
  have : (-1 : Int32).toInt = -1 := by decide
  rw [this]
  exact ⟨fun z => by omega, False.elim⟩
theorem n32_orl (a n : Nat) : Int32.ofNat a ||| (no_index (OfNat.ofNat n : Int32)) = Int32.ofNat (a ||| OfNat.ofNat n) := n32_or a n
theorem n32_andl (a n : Nat) : Int32.ofNat a &&& (no_index (OfNat.ofNat n : Int32)) = Int32.ofNat (a &&& OfNat.ofNat n) := n32_and a n
theorem n32_pred {a : Nat} (ha : a < 2147483648) : (Int32.ofNat a - (1 : Int32)).toInt = (a : Int) - 1 := by
  have h1 : (1 : Int32).toInt = 1 := rfl
  rw [Int32.toInt_sub, n32_toInt ha, h1, Int.bmod_eq_of_le (by omega) (by omega)]
theorem i64_lit {n : Nat} (hn : OfNat.ofNat n < 9223372036854775808) : (no_index (OfNat.ofNat n : Int64)).toInt = ((OfNat.ofNat n : Nat) : Int) := Int64.toInt_ofNat_of_lt hn
/-! longs that are counts -/
theorem n64_toInt {a : Nat} (h : a < 9223372036854775808) : (Int64.ofNat a).toInt = a := Int64.toInt_ofNat_of_lt h
theorem n64_add (a b : Nat) : Int64.ofNat a + Int64.ofNat b = Int64.ofNat (a + b) := (Int64.ofNat_add a b).symm
theorem n64_mul (a b : Nat) : Int64.ofNat a * Int64.ofNat b = Int64.ofNat (a * b) := (Int64.ofNat_mul a b).symm
theorem n64_addl (a n : Nat) : Int64.ofNat a + (no_index (OfNat.ofNat n : Int64)) = Int64.ofNat (a + OfNat.ofNat n) := n64_add a n
theorem n64_mull (a n : Nat) : Int64.ofNat a * (no_index (OfNat.ofNat n : Int64)) = Int64.ofNat (a * OfNat.ofNat n) := n64_mul a n
theorem n64_mulr (a n : Nat) : (no_index (OfNat.ofNat n : Int64)) * Int64.ofNat a = Int64.ofNat (OfNat.ofNat n * a) := n64_mul n a
theorem n64_sub {a b : Nat} (h : b ≤ a) : Int64.ofNat a - Int64.ofNat b = Int64.ofNat (a - b) := by
  have e : Int64.ofNat a = Int64.ofNat (a - b) + Int64.ofNat b := by rw [n64_add, Nat.sub_add_cancel h]
  rw [e]
  exact Int64.add_sub_cancel _ _
theorem n64_div {a b : Nat} (ha : a < 9223372036854775808) (hb : b < 9223372036854775808) : Int64.ofNat a / Int64.ofNat b = Int64.ofNat (a / b) := by
  have hd : a / b ≤ a := Nat.div_le_self a b
  rw [← Int64.toInt_inj, Int64.toInt_div, n64_toInt ha, n64_toInt hb, n64_toInt (by omega)]
  show (((a : Int).tdiv (b : Int)).bmod (2 ^ 64)) = ((a / b : Nat) : Int)
  rw [show (a : Int).tdiv (b : Int) = ((a / b : Nat) : Int) from rfl]
  generalize a / b = q at hd ⊢
  exact Int.bmod_eq_of_le (by omega) (by omega)
theorem n64_divl {a n : Nat} (ha : a < 9223372036854775808) (hn : OfNat.ofNat n < 9223372036854775808) : Int64.ofNat a / (no_index (OfNat.ofNat n : Int64)) = Int64.ofNat (a / OfNat.ofNat n) := n64_div ha hn
/-- what is left of a division, as both write it -/
theorem n64_rem {a b : Nat} (ha : a < 9223372036854775808) (hb : b < 9223372036854775808) : Int64.ofNat a - Int64.ofNat a / Int64.ofNat b * Int64.ofNat b = Int64.ofNat (a % b) := by
  have h := Nat.div_add_mod a b
  have hm : a / b * b ≤ a := Nat.div_mul_le_self a b
  rw [n64_div ha hb, n64_mul, n64_sub hm]
  congr 1
  rw [Nat.mul_comm] at h
  omega
theorem n32_rem {a b : Nat} (ha : a < 2147483648) (hb : b < 2147483648) : Int32.ofNat a - Int32.ofNat a / Int32.ofNat b * Int32.ofNat b = Int32.ofNat (a % b) := by
  have h := Nat.div_add_mod a b
  have hm : a / b * b ≤ a := Nat.div_mul_le_self a b
  rw [n32_div ha hb, n32_mul, n32_sub hm]
  congr 1
  rw [Nat.mul_comm] at h
  omega
theorem n64_lt {a b : Nat} (ha : a < 9223372036854775808) (hb : b < 9223372036854775808) : Int64.ofNat a < Int64.ofNat b ↔ a < b := by
  rw [Int64.lt_iff_toInt_lt, n64_toInt ha, n64_toInt hb]
  omega
theorem n64_eq {a b : Nat} (ha : a < 9223372036854775808) (hb : b < 9223372036854775808) : Int64.ofNat a = Int64.ofNat b ↔ a = b := by
  rw [← Int64.toInt_inj, n64_toInt ha, n64_toInt hb]
  omega
/-- how two counts compare -/
theorem lgn_le0 {a b : Nat} (ha : a < 9223372036854775808) (hb : b < 9223372036854775808) : lg_cmp (Int64.ofNat a) (Int64.ofNat b) ≤ 0 ↔ a ≤ b := by
  have h := lgc_gt (Int64.ofNat a) (Int64.ofNat b)
  rw [n64_toInt ha, n64_toInt hb] at h
  rw [← Int32.not_lt, h]
  omega
theorem lgn_gt {a b : Nat} (ha : a < 9223372036854775808) (hb : b < 9223372036854775808) : 0 < lg_cmp (Int64.ofNat a) (Int64.ofNat b) ↔ b < a := by
  rw [lgc_gt, n64_toInt ha, n64_toInt hb]
  omega
theorem lgn_lt {a b : Nat} (ha : a < 9223372036854775808) (hb : b < 9223372036854775808) : lg_cmp (Int64.ofNat a) (Int64.ofNat b) < 0 ↔ a < b := by
  rw [lgc_lt, n64_toInt ha, n64_toInt hb]
  omega
theorem lgn_ge {a b : Nat} (ha : a < 9223372036854775808) (hb : b < 9223372036854775808) : 0 ≤ lg_cmp (Int64.ofNat a) (Int64.ofNat b) ↔ b ≤ a := by
  rw [← Int32.not_lt, lgn_lt ha hb]
  omega
theorem lgn_eq {a b : Nat} (ha : a < 9223372036854775808) (hb : b < 9223372036854775808) : lg_cmp (Int64.ofNat a) (Int64.ofNat b) = 0 ↔ a = b := by
  rw [lgc_eq, n64_eq ha hb]
theorem n64_to32 {a : Nat} (ha : a < 2147483648) : (Int64.ofNat a).toInt32 = Int32.ofNat a := by
  rw [← Int32.toInt_inj, Int64.toInt_toInt32, n64_toInt (by omega), n32_toInt ha, Int.bmod_eq_of_le (by omega) (by omega)]
/-! comparisons of counts, decided -/
theorem gle {a b : Nat} (h : a ≤ b) : (a ≤ b) = True := eq_true h
theorem glt {a b : Nat} (h : a < b) : (a < b) = True := eq_true h
theorem gnlt {a b : Nat} (h : b ≤ a) : (a < b) = False := eq_false (Nat.not_lt.mpr h)
theorem gne {a b : Nat} (h : a ≠ b) : (a = b) = False := eq_false h
