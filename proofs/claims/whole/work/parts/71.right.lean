/-! RIGHT: how much WEIGHT is judged right behind tests -/
def sN (f : Nat → Nat) : Nat → Nat
  | 0 => 0
  | n + 1 => sN f n + f n
theorem sN_cg {f f' : Nat → Nat} : ∀ n, (∀ k, k < n → f' k = f k) → sN f' n = sN f n
  | 0, _ => rfl
  | n + 1, h => by
    rw [sN, sN, sN_cg n (fun k hk => h k (by omega)), h n (by omega)]
theorem sN_zero {f : Nat → Nat} : ∀ n, (∀ k, k < n → f k = 0) → sN f n = 0
  | 0, _ => rfl
  | n + 1, h => by
    rw [sN, sN_zero n (fun k hk => h k (by omega)), h n (by omega)]
/-- a sum of which one part changes -/
theorem sN_ch {f f' : Nat → Nat} {x : Nat} (e : ∀ k, k ≠ x → f' k = f k) : ∀ n, x < n → sN f' n + f x = sN f n + f' x
  | 0, h => absurd h (Nat.not_lt_zero _)
  | n + 1, h => by
    rw [sN, sN]
    by_cases y : x = n
    · have := sN_cg (f := f) (f' := f') n (fun k hk => e k (by omega))
      rw [this, y]
      omega
    · have := sN_ch e n (by omega)
      have := e n (fun z => y z.symm)
      omega
/-- what a group holds -/
def gS (W K : Nat → Nat) (tr k n : Nat) : Nat := pS W (fun w => decide (w / 36 = tr ∧ K w = k)) n
def mS (W K : Nat → Nat) (n k : Nat) : Nat := max (gS W K 0 k n) (gS W K 1 k n)
def rN (W K : Nat → Nat) : Nat := sN (mS W K 72) 4096
theorem gS_s (W K : Nat → Nat) (tr k n : Nat) : gS W K tr k (n + 1) = gS W K tr k n + if n / 36 = tr ∧ K n = k then W n else 0 := by
  unfold gS
  rw [pS]
  by_cases y : n / 36 = tr ∧ K n = k
  · rw [if_pos y, if_pos (by simpa using y)]
  · rw [if_neg y, if_neg (by simpa using y)]
theorem mS_s (W K : Nat → Nat) (n : Nat) (hn : K n < 4096) : sN (mS W K (n + 1)) 4096 + mS W K n (K n) = sN (mS W K n) 4096 + mS W K (n + 1) (K n) :=
  sN_ch (f := mS W K n) (f' := mS W K (n + 1)) (x := K n) (fun k hk => by
    unfold mS
    rw [gS_s, gS_s, if_neg (fun z => hk z.2.symm), if_neg (fun z => hk z.2.symm)]
    rfl) 4096 hn
theorem rN_cg {W K M : Nat → Nat} (hK : ∀ w, K w < 4096) (hM : ∀ w, M w < 4096) (e : ∀ w v, W w ≠ 0 → W v ≠ 0 → (K w = K v ↔ M w = M v)) : ∀ n, sN (mS W K n) 4096 = sN (mS W M n) 4096
  | 0 => by
    rw [sN_zero 4096 (fun k _ => ?_), sN_zero 4096 (fun k _ => ?_)]
    · unfold mS gS; rw [pS, pS]; rfl
    · unfold mS gS; rw [pS, pS]; rfl
  | n + 1 => by
    have ih := rN_cg hK hM e n
    have a := mS_s W K n (hK n)
    have b := mS_s W M n (hM n)
    by_cases z : W n = 0
    · have q : ∀ (J : Nat → Nat), mS W J (n + 1) (J n) = mS W J n (J n) := fun J => by
        unfold mS
        rw [gS_s, gS_s, z]
        simp
      rw [q] at a b
      omega
    · have q : ∀ tr, gS W K tr (K n) n = gS W M tr (M n) n := fun tr => by
        unfold gS
        refine pS_cg n fun w _ hw => ?_
        have := e w n hw z
        by_cases y : w / 36 = tr
        · simp [y, this]
        · simp [y]
      have q1 : mS W K n (K n) = mS W M n (M n) := by
        unfold mS
        rw [q, q]
      have q2 : mS W K (n + 1) (K n) = mS W M (n + 1) (M n) := by
        unfold mS
        rw [gS_s, gS_s, gS_s, gS_s, q, q]
        simp
      omega
theorem gS_le (W K : Nat → Nat) (tr k n : Nat) : gS W K tr k n ≤ aT W n := pS_le _ _ _
theorem mS_le (W K : Nat → Nat) (hK : ∀ w, K w < 4096) : ∀ n, sN (mS W K n) 4096 ≤ aT W n
  | 0 => by
    rw [sN_zero 4096 (fun k _ => ?_)]
    · exact Nat.zero_le _
    · unfold mS gS; rw [pS, pS]; rfl
  | n + 1 => by
    have ih := mS_le W K hK n
    have a := mS_s W K n (hK n)
    have b : mS W K (n + 1) (K n) ≤ mS W K n (K n) + W n := by
      unfold mS
      rw [gS_s, gS_s]
      by_cases y : n / 36 = 0
      · rw [if_pos ⟨y, rfl⟩, if_neg (by omega)]
        omega
      · rw [if_neg (by omega)]
        by_cases u : n / 36 = 1 ∧ K n = K n
        · rw [if_pos u]; omega
        · rw [if_neg u]; omega
    rw [aT]
    omega
theorem rN_le (W K : Nat → Nat) (hK : ∀ w, K w < 4096) : rN W K ≤ aT W 72 := mS_le W K hK 72
/-- groups are taken out one behind the other -/
def zS (K G : Nat → Nat) : Nat → Nat → Nat
  | 0, k => G k
  | i + 1, k => if K i = k then 0 else zS K G i k
def acS (K G G' : Nat → Nat) : Nat → Nat
  | 0 => 0
  | i + 1 => acS K G G' i + max (zS K G i (K i)) (zS K G' i (K i))
theorem zS_le (K G : Nat → Nat) (k : Nat) : ∀ i, zS K G i k ≤ G k
  | 0 => Nat.le_refl _
  | i + 1 => by
    rw [zS]
    by_cases y : K i = k
    · rw [if_pos y]; exact Nat.zero_le _
    · rw [if_neg y]; exact zS_le K G k i
theorem acS_inv (K G G' : Nat → Nat) : ∀ i, (∀ j, j < i → K j < 4096) → acS K G G' i + sN (fun k => max (zS K G i k) (zS K G' i k)) 4096 = sN (fun k => max (G k) (G' k)) 4096
  | 0, _ => by
    rw [acS, Nat.zero_add]
    rfl
  | i + 1, h => by
    have ih := acS_inv K G G' i (fun j hj => h j (by omega))
    have ch := sN_ch (f := fun k => max (zS K G i k) (zS K G' i k)) (f' := fun k => max (zS K G (i + 1) k) (zS K G' (i + 1) k)) (x := K i) (fun k hk => by
      rw [zS, zS, if_neg (fun z => hk z.symm), if_neg (fun z => hk z.symm)]) 4096 (h i (by omega))
    have z1 : zS K G (i + 1) (K i) = 0 := by rw [zS, if_pos rfl]
    have z2 : zS K G' (i + 1) (K i) = 0 := by rw [zS, if_pos rfl]
    rw [z1, z2] at ch
    rw [acS]
    omega
theorem zS_zero (K G : Nat → Nat) (k : Nat) : ∀ i, (G k ≠ 0 → ∃ j, j < i ∧ K j = k) → zS K G i k = 0
  | 0, h => by
    rw [zS]
    refine Classical.byContradiction fun z => ?_
    obtain ⟨j, hj, _⟩ := h z
    omega
  | i + 1, h => by
    rw [zS]
    by_cases y : K i = k
    · rw [if_pos y]
    · rw [if_neg y]
      refine zS_zero K G k i fun z => ?_
      obtain ⟨j, hj, e⟩ := h z
      refine ⟨j, ?_, e⟩
      have : j ≠ i := fun q => y (q ▸ e)
      omega
theorem acS_end (K G G' : Nat → Nat) (n : Nat) (hK : ∀ j, j < n → K j < 4096) (h : ∀ k, k < 4096 → zS K G n k = 0 ∧ zS K G' n k = 0) : acS K G G' n = sN (fun k => max (G k) (G' k)) 4096 := by
  have a := acS_inv K G G' n hK
  rw [sN_zero 4096 (fun k hk => ?_)] at a
  · omega
  · rw [(h k hk).1, (h k hk).2]
    rfl
theorem gS_in {W K : Nat → Nat} {tr k : Nat} : ∀ n, gS W K tr k n ≠ 0 → ∃ w, w < n ∧ W w ≠ 0 ∧ K w = k
  | 0, h => absurd (by unfold gS; rw [pS]) h
  | n + 1, h => by
    rw [gS_s] at h
    by_cases y : n / 36 = tr ∧ K n = k
    · rw [if_pos y] at h
      by_cases z : W n = 0
      · rw [z] at h
        obtain ⟨w, a, b⟩ := gS_in n h
        exact ⟨w, by omega, b⟩
      · exact ⟨n, by omega, z, y.2⟩
    · rw [if_neg y] at h
      obtain ⟨w, a, b⟩ := gS_in n h
      exact ⟨w, by omega, b⟩
theorem x_max64 (h : KH) {a b : Nat} (ha : a < 9223372036854775808) (hb : b < 9223372036854775808) : f_J9_max_f86c9 h (Int64.ofNat a) (Int64.ofNat b) = some (Int64.ofNat (max a b)) := by
  unfold f_J9_max_f86c9
  by_cases y : a < b
  · rw [if_pos (by rw [lgn_lt ha hb]; exact y), Nat.max_eq_right (by omega)]
  · rw [if_neg (by rw [lgn_lt ha hb]; exact y), Nat.max_eq_left (by omega)]
theorem n32_any (a : Int32) : ∃ n, a = Int32.ofNat n := ⟨a.toBitVec.toNat, by
  apply Int32.toBitVec_inj.mp
  simp⟩
theorem n32_mask (a : Int32) {m : Nat} (hm : m < 4096) : a &&& Int32.ofNat m = Int32.ofNat (a &&& Int32.ofNat m).toNatClampNeg ∧ (a &&& Int32.ofNat m).toNatClampNeg < 4096 := by
  obtain ⟨n, rfl⟩ := n32_any a
  have l : n &&& m ≤ m := Nat.and_le_right
  rw [n32_and, n32_cl (by omega)]
  exact ⟨rfl, by omega⟩
theorem n32_twice : ∀ s, s < 64 → (((Int32.ofNat s &&& (63 : Int32)) <<< ((6 : Int32) &&& 31)) ||| (Int32.ofNat s &&& (63 : Int32))) = Int32.ofNat (s * 65) := by decide +kernel
