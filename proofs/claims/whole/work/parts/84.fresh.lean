/-! a State with nothing heard in its case -/
theorem m_putsAside {h : KH} (hr : kRefs h) : ∃ h', f_X12_putsAside h 173 = some h' ∧ kfp (fun l i => l = 208 ∧ i < 24) h h' ∧ (∀ i, i < 24 → kI h' 208 i = kI h 207 i) ∧ ∀ l i, kL h' l i = kL h l i := by
  obtain ⟨g, e, f, z⟩ := kloop_inv (body := f_X12_putsAside_l2 173) (fun k s => s.1 = Int32.ofNat k ∧ kfp (fun l i => l = 208 ∧ i < 24) h s.2 ∧ (∀ i, i < k → kI s.2 208 i = kI h 207 i) ∧ ∀ l i, kL s.2 l i = kL h l i) (fun r => kfp (fun l i => l = 208 ∧ i < 24) h r ∧ (∀ i, i < 24 → kI r 208 i = kI h 207 i) ∧ ∀ l i, kL r l i = kL h l i) 24 (s0 := ((0 : Int32), h)) (by omega)
    ⟨rfl, kfp.rf, fun i hi => absurd hi (Nat.not_lt_zero _), fun _ _ => rfl⟩ (fun k s hk hP => by
      obtain ⟨s1, q⟩ := s
      obtain ⟨p1, p2, p3, p4⟩ := hP
      dsimp only at p1 p2 p3 p4
      subst p1
      have rq := hr.fp p2
      refine ⟨(Int32.ofNat (k + 1), ksI q 208 k (kI h 207 k)), ?_, rfl, p2.sI _ ⟨rfl, hk⟩, fun i hi => ?_, fun l i => (kL_sI).trans (p4 l i)⟩
      · unfold f_X12_putsAside_l2
        dsimp only
        rw [if_neg (by rw [n32_ler (by omega) (by omega)]; omega), if_pos kk173, rf173_46 rq, if_pos (show 208 < 999999 by omega), rf173_45 rq, if_pos (show 207 < 999999 by omega), if_pos kk207, kn207, if_neg (by rw [n32_cl (by omega)]; exact fun z => z.elim (n32_nn (by omega)) (by omega)), if_pos kk208, kn208, if_neg (by rw [n32_cl (by omega)]; exact fun z => z.elim (n32_nn (by omega)) (by omega)), n32_cl (by omega), p2.2.2.1 _ _ (by omega), kl_e, n32_addl, kl_e]
      · dsimp only
        rw [kI_sI]
        by_cases y : i = k
        · rw [if_pos ⟨rfl, y⟩, y]
        · rw [if_neg (fun z => y z.2)]
          exact p3 i (by omega)) (fun s hP => by
      obtain ⟨s1, q⟩ := s
      obtain ⟨p1, p2, p3, p4⟩ := hP
      dsimp only at p1 p2 p3 p4
      subst p1
      refine ⟨q, ?_, p2, p3, p4⟩
      unfold f_X12_putsAside_l2
      dsimp only
      rw [if_pos (by decide)])
  refine ⟨g, ?_, f, z⟩
  unfold f_X12_putsAside
  rw [e, kb_s]
theorem m_takesBack {h : KH} (hr : kRefs h) : ∃ h', f_X12_takesBack h 173 = some h' ∧ kfp (fun l i => l = 207 ∧ i < 24) h h' ∧ (∀ i, i < 24 → kI h' 207 i = kI h 208 i) ∧ ∀ l i, kL h' l i = kL h l i := by
  obtain ⟨g, e, f, z⟩ := kloop_inv (body := f_X12_takesBack_l2 173) (fun k s => s.1 = Int32.ofNat k ∧ kfp (fun l i => l = 207 ∧ i < 24) h s.2 ∧ (∀ i, i < k → kI s.2 207 i = kI h 208 i) ∧ ∀ l i, kL s.2 l i = kL h l i) (fun r => kfp (fun l i => l = 207 ∧ i < 24) h r ∧ (∀ i, i < 24 → kI r 207 i = kI h 208 i) ∧ ∀ l i, kL r l i = kL h l i) 24 (s0 := ((0 : Int32), h)) (by omega)
    ⟨rfl, kfp.rf, fun i hi => absurd hi (Nat.not_lt_zero _), fun _ _ => rfl⟩ (fun k s hk hP => by
      obtain ⟨s1, q⟩ := s
      obtain ⟨p1, p2, p3, p4⟩ := hP
      dsimp only at p1 p2 p3 p4
      subst p1
      have rq := hr.fp p2
      refine ⟨(Int32.ofNat (k + 1), ksI q 207 k (kI h 208 k)), ?_, rfl, p2.sI _ ⟨rfl, hk⟩, fun i hi => ?_, fun l i => (kL_sI).trans (p4 l i)⟩
      · unfold f_X12_takesBack_l2
        dsimp only
        rw [if_neg (by rw [n32_ler (by omega) (by omega)]; omega), if_pos kk173, rf173_45 rq, if_pos (show 207 < 999999 by omega), rf173_46 rq, if_pos (show 208 < 999999 by omega), if_pos kk208, kn208, if_neg (by rw [n32_cl (by omega)]; exact fun z => z.elim (n32_nn (by omega)) (by omega)), if_pos kk207, kn207, if_neg (by rw [n32_cl (by omega)]; exact fun z => z.elim (n32_nn (by omega)) (by omega)), n32_cl (by omega), p2.2.2.1 _ _ (by omega), kl_e, n32_addl, kl_e]
      · dsimp only
        rw [kI_sI]
        by_cases y : i = k
        · rw [if_pos ⟨rfl, y⟩, y]
        · rw [if_neg (fun z => y z.2)]
          exact p3 i (by omega)) (fun s hP => by
      obtain ⟨s1, q⟩ := s
      obtain ⟨p1, p2, p3, p4⟩ := hP
      dsimp only at p1 p2 p3 p4
      subst p1
      refine ⟨q, ?_, p2, p3, p4⟩
      unfold f_X12_takesBack_l2
      dsimp only
      rw [if_pos (by decide)])
  refine ⟨g, ?_, f, z⟩
  unfold f_X12_takesBack
  rw [e, kb_s]
