/-! the model: a number behind its word -/
theorem m_numBh {h g : KH} {n a j lo hi w : Nat} {r : PR} (ht : Rtape h) (n16 : n ≤ 1600) (wd : Wd g w j) (hlo : lo < 10000) (hhi : hi < 10000) (m : Md h g n a r) : ∃ g1 v g2 a2, f_X12_asks g 173 w = some g1 ∧ kRefs g1 ∧ f_X12_number g1 173 (Int32.ofNat lo) (Int32.ofNat hi) = some (v, g2) ∧ kfp Wmp g g2 ∧ Md h g2 n a2 (tPR r (tBh (tyN h) n j lo hi)) ∧ ∀ s w s', r = .inr s → tBh (tyN h) n j lo hi s = .inr (w, s') → v = Int32.ofNat w := by
  obtain ⟨g1, a1, e1, f1, m1⟩ := m_asks ht n16 wd m
  cases hr : pbd r (wW (tyN h) n j) with
  | inl e =>
    rw [hr] at m1
    have e0 : tPR r (tBh (tyN h) n j lo hi) = .inl e := by
      unfold tPR
      cases r with
      | inl e0 => exact hr
      | inr s =>
        rw [pbd_r] at hr ⊢
        unfold tBh
        rw [hr]
        rfl
    refine ⟨g1, 0, g1, a1, e1, m1.1.1, m_number_l m1 _ _, f1, by rw [e0]; exact m1, fun s w s' hs hw => ?_⟩
    subst hs
    rw [pbd_r] at hr
    unfold tBh at hw
    rw [hr] at hw
    exact nomatch hw
  | inr s1 =>
    rw [hr] at m1
    obtain ⟨v, g2, a2, e2, f2, m2, v2⟩ := m_number ht n16 hlo hhi m1
    obtain ⟨s0, hs0, hw0⟩ := pbd_inr hr
    subst hs0
    have et : tBh (tyN h) n j lo hi s0 = wNum (tyN h) n lo hi s1 := by
      unfold tBh
      rw [hw0]
    refine ⟨g1, v, g2, a2, e1, m1.1.1, e2, f1.tr f2, ?_, fun s w s' hs hw => ?_⟩
    · unfold tPR
      rw [pbd_r, et]
      exact m2
    · cases hs
      rw [et] at hw
      exact v2 w s' hw
