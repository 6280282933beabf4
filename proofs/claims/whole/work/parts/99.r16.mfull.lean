/-! the model: whether a table is full -/
theorem m_isFull {h g : KH} {n a t k mx p : Nat} {s : PS} (m : Md h g n a (.inr s)) (ht : t < 3) (hk : k < 1000) (hx : mx < 1000) (e : kI g 198 t = Int32.ofNat k) : ∃ g', f_X12_isFull g 173 (Int32.ofNat t) (Int32.ofNat mx) (Int32.ofNat p) = some (if k = mx then 1 else 0, g') ∧ kfp Wmp g g' ∧ (k = mx → Md h g' n 0 (.inl (5, p))) ∧ (k ≠ mx → g' = g) := by
  have rg := m.1.1
  unfold f_X12_isFull f_X12_isFull_b23
  rw [if_pos kk173, m.2.2.1, if_pos rfl, rf173_33 rg, if_pos (show 198 < 999999 by omega), if_pos kk198, kn198, if_neg (by rw [n32_cl (by omega)]; exact fun z => z.elim (n32_nn (by omega)) (by omega)), n32_cl (show t < 2147483648 by omega), e]
  by_cases y : k = mx
  · obtain ⟨g', e', f', m'⟩ := m_failR (k := 5) (pl := p) m.1 m.2.2.1 (by omega) (by omega)
    have e'' : f_X12_fail g 173 (5 : Int32) (Int32.ofNat p) = some g' := e'
    rw [if_pos (by rw [y]), e'', kb_s, if_pos kk173, if_neg m'.bad, if_pos y]
    exact ⟨g', rfl, f', fun _ => m', fun z => absurd y z⟩
  · rw [if_neg (by rw [n32_eq (by omega) (by omega)]; exact y), if_pos kk173, if_neg y]
    exact ⟨g, rfl, kfp.rf, fun z => absurd z y, fun _ => rfl⟩
