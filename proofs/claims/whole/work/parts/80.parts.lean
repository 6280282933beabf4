/-! whether a test PARTS them -/
theorem kloop_up {σ ρ : Type} {body : σ → Option (σ ⊕ ρ)} (st : Nat → σ) (J : Nat → Prop) (Q : ρ → Prop) {a N : Nat} (hN : N < 1000000) (ha : a ≤ N) (h0 : J a) (hgo : ∀ k, a ≤ k → k < N → J k → (∃ r, body (st k) = some (.inr r) ∧ Q r) ∨ (body (st k) = some (.inl (st (k + 1))) ∧ J (k + 1))) (hend : J N → ∃ r, body (st N) = some (.inr r) ∧ Q r) :
    ∃ r, kloop body KF (st a) = some r ∧ Q r :=
  kloop_KF (fun n s => ∃ k, a ≤ k ∧ k + n = N ∧ s = st k ∧ J k) Q (fun n s hP => by
    obtain ⟨k, h1, h2, rfl, h3⟩ := hP
    by_cases z : k < N
    · rcases hgo k h1 z h3 with y | y
      · exact Or.inl y
      · exact Or.inr ⟨n - 1, st (k + 1), by omega, y.1, k + 1, by omega, by omega, rfl, y.2⟩
    · have e : k = N := by omega
      subst e
      exact Or.inl (hend h3)) (n := N - a) (by omega) ⟨a, Nat.le_refl _, by omega, rfl, h0⟩
theorem kloop_down {σ ρ : Type} {body : σ → Option (σ ⊕ ρ)} (st : Nat → σ) (J : Nat → Prop) (Q : ρ → Prop) {a : Nat} (hN : a < 1000000) (h0 : J a) (hgo : ∀ k, k ≤ a → J k → (∃ r, body (st k) = some (.inr r) ∧ Q r) ∨ (0 < k ∧ body (st k) = some (.inl (st (k - 1))) ∧ J (k - 1))) :
    ∃ r, kloop body KF (st a) = some r ∧ Q r :=
  kloop_KF (fun n s => n ≤ a ∧ s = st n ∧ J n) Q (fun n s hP => by
    obtain ⟨h1, rfl, h3⟩ := hP
    rcases hgo n h1 h3 with y | y
    · exact Or.inl y
    · exact Or.inr ⟨n - 1, st (n - 1), by omega, y.2.1, by omega, rfl, y.2.2⟩) (n := a) hN ⟨Nat.le_refl _, rfl, h0⟩
theorem lv_pw (W : Nat → Nat) : ∀ n, (lv W n).Pairwise (fun a b => a < b)
  | 0 => List.Pairwise.nil
  | n + 1 => by
    rw [lv]
    by_cases y : W n = 0
    · rw [if_pos y]
      exact lv_pw W n
    · rw [if_neg y]
      refine List.pairwise_append.mpr ⟨lv_pw W n, List.pairwise_singleton _ _, fun a ha b hb => ?_⟩
      have e : b = n := by simpa using hb
      rw [e]
      exact (lv_mem ha).1
theorem getD_get {l : List Nat} {i : Nat} (h : i < l.length) : l.getD i 0 = l[i] := by
  show (l[i]?).getD 0 = l[i]
  rw [List.getElem?_eq_getElem h]
  rfl
theorem lv_inc {W : Nat → Nat} {n i j : Nat} (hj : j < (lv W n).length) (h : i < j) : (lv W n).getD i 0 < (lv W n).getD j 0 := by
  have := List.pairwise_iff_getElem.mp (lv_pw W n) i j (by omega) hj h
  rw [getD_get hj, getD_get (by omega)]
  exact this
theorem lv_ix {W : Nat → Nat} {n w : Nat} (hw : w < n) (z : W w ≠ 0) : ∃ k, k < (lv W n).length ∧ (lv W n).getD k 0 = w := by
  obtain ⟨k, hk, e⟩ := List.getElem_of_mem (lv_all hw z)
  exact ⟨k, hk, by rw [getD_get hk, e]⟩
def alk (W K : Nat → Nat) (w : Nat) : Prop := ∃ v, 36 ≤ v ∧ v < 72 ∧ W v ≠ 0 ∧ K v = K w
def FW (W K : Nat → Nat) (r : Int32) : Prop := (r = -1 ∧ ∀ w, w < 36 → W w ≠ 0 → ¬ alk W K w) ∨ ∃ w, w < 36 ∧ r = Int32.ofNat w ∧ W w ≠ 0 ∧ alk W K w ∧ ∀ u, u < w → W u ≠ 0 → ¬ alk W K u
theorem FW_uniq {W K : Nat → Nat} {r r' : Int32} (a : FW W K r) (b : FW W K r') : r = r' := by
  rcases a with ⟨a1, a2⟩ | ⟨w, a1, a2, a3, a4, a5⟩
  · rcases b with ⟨b1, b2⟩ | ⟨w, b1, b2, b3, b4, b5⟩
    · rw [a1, b1]
    · exact absurd b4 (a2 w b1 b3)
  · rcases b with ⟨b1, b2⟩ | ⟨v, b1, b2, b3, b4, b5⟩
    · exact absurd a4 (b2 w a1 a3)
    · have e : w = v := by
        refine Classical.byContradiction fun z => ?_
        rcases Nat.lt_or_gt_of_ne z with y | y
        · exact b5 w y a3 a4
        · exact a5 v y b3 b4
      rw [a2, b2, e]
theorem zero_tb {x : Nat} : x = 0 ↔ ∀ j, x.testBit j = false := ⟨fun e j => by rw [e, Nat.zero_testBit], fun e => Nat.eq_of_testBit_eq fun j => by rw [e j, Nat.zero_testBit]⟩
theorem xor_land {a b m : Nat} : (a ^^^ b) &&& m = 0 ↔ a &&& m = b &&& m := by
  rw [land_eq, zero_tb]
  refine ⟨fun f i hi => ?_, fun f i => ?_⟩
  · have := f i
    rw [Nat.testBit_and, Nat.testBit_xor, hi] at this
    revert this
    cases a.testBit i <;> cases b.testBit i <;> simp
  · rw [Nat.testBit_and, Nat.testBit_xor]
    cases hm : m.testBit i with
    | false => simp
    | true => rw [f i hm]; simp
theorem shr_land {x y i : Nat} : (x >>> i) &&& y = 0 ↔ x &&& (y <<< i) = 0 := by
  rw [zero_tb, zero_tb]
  refine ⟨fun f j => ?_, fun f j => ?_⟩
  · rw [Nat.testBit_and, Nat.testBit_shiftLeft]
    by_cases z : j ≥ i
    · have := f (j - i)
      rw [Nat.testBit_and, Nat.testBit_shiftRight, show i + (j - i) = j by omega] at this
      simpa [z] using this
    · simp [z]
  · have := f (i + j)
    rw [Nat.testBit_and, Nat.testBit_shiftLeft, show i + j - i = j by omega] at this
    rw [Nat.testBit_and, Nat.testBit_shiftRight]
    simpa using this
theorem mk4_one : ∀ t, t < 6 → mk4 (2 ^ t) 6 = 3 <<< (2 * t) := by decide +kernel
theorem n32_one65 : ∀ t, t < 6 → ((1 : Int32) <<< (Int32.ofNat t &&& 31)) ||| ((1 : Int32) <<< ((Int32.ofNat t + (6 : Int32)) &&& 31)) = Int32.ofNat (2 ^ t * 65) := by decide +kernel
