/-! bounds of what a COURT's text tells -/
theorem wNum_b {b : Nat → Nat} {n lo hi : Nat} {s : PS} {v : Nat × PS} (h : wNum b n lo hi s = .inr v) : lo ≤ v.1 ∧ v.1 ≤ hi := by
  unfold wNum at h
  by_cases a : tkT b n s.1 s.2.1 ≠ 3
  · rw [if_pos a] at h
    exact nomatch h
  · rw [if_neg a] at h
    by_cases c : 4 < tkZ b n s.1
    · rw [if_pos c] at h
      exact nomatch h
    · rw [if_neg c] at h
      by_cases d : tkV b n s.1 < lo ∨ hi < tkV b n s.1
      · rw [if_pos d] at h
        exact nomatch h
      · rw [if_neg d] at h
        cases h
        dsimp only
        omega
theorem tBh_b {b : Nat → Nat} {n j lo hi : Nat} {s : PS} {v : Nat × PS} (h : tBh b n j lo hi s = .inr v) : lo ≤ v.1 ∧ v.1 ≤ hi := by
  unfold tBh at h
  cases hw : wW b n j s with
  | inl e =>
    rw [hw] at h
    exact nomatch h
  | inr s1 =>
    rw [hw] at h
    exact wNum_b h
theorem rdN_b {b : Nat → Nat} {n : Nat} : ∀ (sp : List (Nat × Nat × Nat)) (s : PS) (l : List Nat × PS), rdN b n sp s = .inr l → l.1.length = sp.length ∧ ∀ j, j < sp.length → (sp.getD j (0, 0, 0)).2.1 ≤ l.1.getD j 0 ∧ l.1.getD j 0 ≤ (sp.getD j (0, 0, 0)).2.2
  | [], s, l, h => by
    cases h
    exact ⟨rfl, fun j hj => absurd hj (Nat.not_lt_zero _)⟩
  | x :: r, s, l, h => by
    unfold rdN at h
    cases t : tBh b n x.1 x.2.1 x.2.2 s with
    | inl e =>
      rw [t] at h
      exact nomatch h
    | inr v =>
      rw [t] at h
      dsimp only at h
      cases u : rdN b n r v.2 with
      | inl e =>
        rw [u] at h
        exact nomatch h
      | inr q =>
        rw [u] at h
        cases h
        obtain ⟨a1, a2⟩ := rdN_b r v.2 q u
        have vb := tBh_b t
        refine ⟨by show q.1.length + 1 = r.length + 1; rw [a1], fun j hj => ?_⟩
        cases j with
        | zero => exact vb
        | succ j =>
          have hj' : j + 1 < r.length + 1 := hj
          exact a2 j (by omega)
