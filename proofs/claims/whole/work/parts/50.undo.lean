/-! undo -/
theorem x_giveBack {h : KH} (hr : kRefs h) {n a : Nat} (hn : kI h 72 3 = Int32.ofNat n) (n1 : 1 ≤ n) (n20 : n ≤ 20) (ha : kI h 72 2 = Int32.ofNat a) (a20 : a < 20) :
    ∃ h', f_X5_giveBack h 72 64 = some h' ∧ kfp (fun l i => (64 ≤ l ∧ l ≤ 67) ∨ (l = 72 ∧ (i = 2 ∨ i = 3))) h h' ∧ kI h' 72 3 = Int32.ofNat (n - 1) ∧ kI h' 72 2 = Int32.ofNat ((a + 19) % 20) ∧
      (∀ i, i < 3 → kI h' 64 i = kI h (psl a 1) i) ∧ (∀ t, t < 6 → kI h' 65 t = kI h (psl a 1 + 1) t ∧ kI h' 66 t = kI h (psl a 1 + 2) t) ∧ ∀ i, i < 10 → kI h' 67 i = kI h (psl a 1 + 3) i := by
  obtain ⟨b, hb⟩ : ∃ b, (a + 19) % 20 = b := ⟨_, rfl⟩
  have b20 : b < 20 := by omega
  have eb : psl a 1 = 75 + 4 * b := by unfold psl; omega
  rw [hb, eb]
  obtain ⟨g, eg⟩ : ∃ g, g = ksI (ksI h 72 2 (Int32.ofNat b)) 72 3 (Int32.ofNat (n - 1)) := ⟨_, rfl⟩
  have fg : kfp (fun l i => l = 72 ∧ (i = 2 ∨ i = 3)) h g := by rw [eg]; exact (kfp.rf.sI _ ⟨rfl, Or.inl rfl⟩).sI _ ⟨rfl, Or.inr rfl⟩
  have rg := hr.fp fg
  obtain ⟨st, e73⟩ := StQ rg b20
  obtain ⟨c1, c2, c3⟩ := xcopy_cells g (v := 64) (w := 75 + 4 * b) (by omega)
  have fc := xcopy_fp g 64 (75 + 4 * b)
  have g2 : kI g 72 2 = Int32.ofNat b := by rw [eg, kI_sI, if_neg (by omega), kI_sI, if_pos ⟨rfl, rfl⟩]
  have g3 : kI g 72 3 = Int32.ofNat (n - 1) := by rw [eg, kI_sI, if_pos ⟨rfl, rfl⟩]
  have hn2 : kI (ksI h 72 2 (Int32.ofNat b)) 72 3 = Int32.ofNat n := by rw [kI_sI, if_neg (by omega), hn]
  refine ⟨xcopy g 64 (75 + 4 * b), ?_, (fg.wide fun l i y => by omega).tr (fc.wide fun l i y => by omega), ?_, ?_, fun i hi => ?_, fun t ht => ?_, fun i hi => ?_⟩
  · unfold f_X5_giveBack
    rw [if_pos kk72, ha, n32_addl, n32_subl (by omega), show a + 20 - 1 = a + 19 by omega, n32_rem20 (by omega), hb, kl_e, hn2, n32_subl (by omega), kl_e, ← eg, rf72_0 rg, if_pos (show 73 < 999999 by omega), if_pos kk73, kn73, g2, if_neg (by rw [n32_cl (by omega)]; exact fun z => z.elim (n32_nn (by omega)) (by omega)), n32_cl (by omega), e73, if_pos (by omega), if_pos kk64, x_copyFrom (St64 rg) st, kb_s]
  · rw [fc.2.2.1 _ _ (by omega), g3]
  · rw [fc.2.2.1 _ _ (by omega), g2]
  · rw [c1 i hi, fg.2.2.1 _ _ (by omega)]
  · rw [(c2 t ht).1, (c2 t ht).2, fg.2.2.1 _ _ (by omega), fg.2.2.1 _ _ (by omega)]
    exact ⟨rfl, rfl⟩
  · rw [c3 i hi, fg.2.2.1 _ _ (by omega)]
theorem m_undoLoop {h : KH} (hr : kRefs h) {a : Nat} (ha : kI h 173 62 = Int32.ofNat a) (a20 : a < 20) : ∃ h', kloop (f_X12_undo_l21 173) KF ((0 : Int32), h) = some h' ∧ kfp (fun l i => l = 207 ∧ i < 185) h h' ∧ ∀ i, i < 185 → kI h' 207 i = kI h 217 (185 * a + i) := by
  refine kloop_inv (body := f_X12_undo_l21 173) (fun k s => s.1 = Int32.ofNat k ∧ kfp (fun l i => l = 207 ∧ i < 185) h s.2 ∧ ∀ i, i < k → kI s.2 207 i = kI h 217 (185 * a + i))
    (fun r => kfp (fun l i => l = 207 ∧ i < 185) h r ∧ ∀ i, i < 185 → kI r 207 i = kI h 217 (185 * a + i)) 185 (by omega) ⟨rfl, kfp.rf, fun i hi => absurd hi (Nat.not_lt_zero _)⟩ (fun k s hk hP => ?_) (fun s hP => ?_)
  · obtain ⟨s1, g⟩ := s
    obtain ⟨p1, p2, p3⟩ := hP
    dsimp only at p1 p2 p3
    subst p1
    have r2 := hr.fp p2
    have i62 : kI g 173 62 = Int32.ofNat a := (p2.2.2.1 _ _ (by omega)).trans ha
    have i217 : kI g 217 (185 * a + k) = kI h 217 (185 * a + k) := p2.2.2.1 _ _ (by omega)
    refine ⟨(Int32.ofNat (k + 1), ksI g 207 k (kI h 217 (185 * a + k))), ?_, rfl, p2.sI _ ⟨rfl, by omega⟩, fun t h6 => ?_⟩
    · unfold f_X12_undo_l21
      dsimp only
      rw [if_neg (by rw [n32_ler (by omega) (by omega)]; omega), if_pos kk173, rf173_45 r2, if_pos (show 207 < 999999 by omega), rf173_60 r2, if_pos (show 217 < 999999 by omega), if_pos kk217, kn217, i62, n32_mulr, n32_add, if_neg (by rw [n32_cl (by omega)]; exact fun z => z.elim (n32_nn (by omega)) (by omega)), if_pos kk207, kn207, if_neg (by rw [n32_cl (by omega)]; exact fun z => z.elim (n32_nn (by omega)) (by omega)), n32_cl (by omega), n32_cl (by omega), i217, kl_e, kl_e, n32_addl]
    · dsimp only
      rw [kI_sI]
      by_cases z : t = k
      · subst z
        rw [if_pos ⟨rfl, rfl⟩]
      · rw [if_neg (by omega)]
        exact p3 t (by omega)
  · obtain ⟨s1, g⟩ := s
    obtain ⟨p1, p2, p3⟩ := hP
    dsimp only at p1 p2 p3
    subst p1
    refine ⟨g, ?_, p2, p3⟩
    unfold f_X12_undo_l21
    dsimp only
    rw [if_pos (by decide)]
theorem c_undo {h : KH} (hr : kRefs h) (rp : Rpast h) (hf : Rref h) : ∃ r h1 h2, f_X11_undo h 0 = some (r, h1) ∧ f_X12_undo h1 173 = some (r, h2) ∧ Aft h h2 := by
  obtain ⟨n, a, n20, a20, q1, q2, q3, q4, hp⟩ := rp
  by_cases z : n = 0
  · subst z
    have r2 := hr.sI 172 4 (kI h 172 4 + 1)
    refine ⟨0, ksI h 172 4 (kI h 172 4 + 1), _, ?_, ?_, aft_ref hf 4⟩
    · unfold f_X11_undo
      rw [if_pos kk0, rf0_9 hr, if_pos (show 72 < 999999 by omega), if_pos kk72, q1, if_pos (by decide), show (4 : Int32) = Int32.ofNat 4 from rfl, x_refuse hr (by omega), kb_s]
    · unfold f_X12_undo
      have e : kI (ksI h 172 4 (kI h 172 4 + 1)) 173 61 = Int32.ofNat 0 := by rw [kI_sI, if_neg (by omega), q2]
      rw [if_pos kk173, e, if_pos (by decide), rf173_9 r2, if_pos (show 175 < 999999 by omega), if_pos kk175, kn175, if_neg (show ¬ 6 ≤ 4 by omega), kl_e]
  · obtain ⟨h1, e1, f1, x1, x2, x3, x4, x5⟩ := x_giveBack hr q1 (by omega) n20 q3 a20
    have r1 := hr.fp f1
    obtain ⟨h1', e1'⟩ : ∃ g, g = ksI h1 155 3 0 := ⟨_, rfl⟩
    have f1' : kfp (fun l i => (64 ≤ l ∧ l ≤ 67) ∨ (l = 72 ∧ (i = 2 ∨ i = 3)) ∨ (l = 155 ∧ i = 3)) h h1' := by rw [e1']; exact (f1.wide fun l i y => by omega).sI _ (by omega)
    have r1' := hr.fp f1'
    have o1 : kI h1' 173 61 = Int32.ofNat n := (f1'.2.2.1 _ _ (by omega)).trans q2
    have o2 : kI h1' 173 62 = Int32.ofNat a := (f1'.2.2.1 _ _ (by omega)).trans q4
    obtain ⟨h2, e2, f2, y1⟩ := m_undoLoop r1' o2 a20
    obtain ⟨h3, e3⟩ : ∃ g, g = ksI (ksI h2 173 62 (Int32.ofNat ((a + 19) % 20))) 173 61 (Int32.ofNat (n - 1)) := ⟨_, rfl⟩
    have f3 : kfp (fun l i => l = 173 ∧ (i = 61 ∨ i = 62)) h2 h3 := by rw [e3]; exact (kfp.rf.sI _ ⟨rfl, Or.inr rfl⟩).sI _ ⟨rfl, Or.inl rfl⟩
    have F : kfp (fun l i => (64 ≤ l ∧ l ≤ 67) ∨ (l = 72 ∧ (i = 2 ∨ i = 3)) ∨ (l = 155 ∧ i = 3) ∨ (l = 207 ∧ i < 185) ∨ (l = 173 ∧ (i = 61 ∨ i = 62))) h h3 := ((f1'.wide fun l i y => by omega).tr (f2.wide fun l i y => by omega)).tr (f3.wide fun l i y => by omega)
    have X : ∀ l i, l ≠ 207 → l ≠ 173 → l ≠ 155 → kI h3 l i = kI h1 l i := fun l i w1 w2 w3 => by rw [f3.2.2.1 _ _ (by omega), f2.2.2.1 _ _ (by omega), e1', kI_sI, if_neg (by omega)]
    have M : ∀ i, i < 185 → kI h3 207 i = kI h 217 (185 * a + i) := fun i hi => by rw [f3.2.2.1 _ _ (by omega), y1 i hi, f1'.2.2.1 _ _ (by omega)]
    obtain ⟨s1, s2, s3, s4⟩ := hp 1 (by omega) (by omega)
    have o : pso a 1 = 185 * a := by unfold pso; omega
    rw [o] at s1 s2
    have c4 : kI h3 198 4 = kI h 198 4 := F.2.2.1 _ _ (by omega)
    have c5 : kI h3 198 5 = kI h 198 5 := F.2.2.1 _ _ (by omega)
    have b : Bsame h h3 (psl a 1) 64 217 207 (185 * a) 0 :=
      ⟨fun i hi => by rw [X _ _ (by omega) (by omega) (by omega), x3 i hi], fun t ht => ⟨by rw [X _ _ (by omega) (by omega) (by omega)]; exact (x4 t ht).1, by rw [X _ _ (by omega) (by omega) (by omega)]; exact (x4 t ht).2⟩, fun i hi => by rw [X _ _ (by omega) (by omega) (by omega)]; exact x5 i hi, fun i hi => by rw [Nat.zero_add]; exact M i hi, c4, c5⟩
    have k64 : kN h3 64 2 = kN h (psl a 1) 2 := kN_same (b.1 2 (by omega))
    refine ⟨1, h1', h3, ?_, ?_, Or.inr ⟨s1.move b, s2.move b fun j hj i hi => F.2.2.1 _ _ (by omega), ?_, ?_, F.wide fun l i y => by unfold Wact; omega⟩⟩
    · unfold f_X11_undo
      rw [if_pos kk0, rf0_9 hr, if_pos (show 72 < 999999 by omega), if_pos kk72, q1, if_neg (by rw [n32_ne0 (by omega)]; exact z), rf0_7 hr, if_pos (show 64 < 999999 by omega), e1, kb_s, rf0_10 r1, if_pos (show 155 < 999999 by omega), if_pos kk155, kl_e, ← e1']
    · unfold f_X12_undo
      have o3 : kI h2 173 62 = Int32.ofNat a := (f2.2.2.1 _ _ (by omega)).trans o2
      have o4 : kI (ksI h2 173 62 (Int32.ofNat ((a + 19) % 20))) 173 61 = Int32.ofNat n := by rw [kI_sI, if_neg (by omega), f2.2.2.1 _ _ (by omega), o1]
      rw [if_pos kk173, o1, if_neg (by rw [n32_ne0 (by omega)]; exact z), e2, kb_s, o3, n32_addl, n32_subl (by omega), show a + 20 - 1 = a + 19 by omega, n32_rem20 (by omega), kl_e, o4, n32_subl (by omega), kl_e, ← e3]
    · refine ⟨n - 1, (a + 19) % 20, by omega, by omega, ?_, ?_, ?_, ?_, fun k k1 kn => ?_⟩
      · rw [X _ _ (by omega) (by omega) (by omega), x1]
      · rw [e3, kI_sI, if_pos ⟨rfl, rfl⟩]
      · rw [X _ _ (by omega) (by omega) (by omega), x2]
      · rw [e3, kI_sI, if_neg (by omega), kI_sI, if_pos ⟨rfl, rfl⟩]
      · obtain ⟨p1, p2, p3, p4⟩ := hp (k + 1) (by omega) (by omega)
        have k20 : k + 1 ≤ 20 := by omega
        have t1 : psl ((a + 19) % 20) k = psl a (k + 1) := by unfold psl; omega
        have t2 : pso ((a + 19) % 20) k = pso a (k + 1) := by unfold pso; omega
        have l1 : 75 ≤ psl a (k + 1) ∧ psl a (k + 1) + 3 < 155 := by unfold psl; omega
        have bk : Bsame h h3 (psl a (k + 1)) (psl a (k + 1)) 217 217 (pso a (k + 1)) (pso a (k + 1)) :=
          ⟨fun i _ => F.2.2.1 _ _ (by omega), fun t _ => ⟨F.2.2.1 _ _ (by omega), F.2.2.1 _ _ (by omega)⟩, fun i _ => F.2.2.1 _ _ (by omega), fun i _ => F.2.2.1 _ _ (by omega), c4, c5⟩
        have ek : kN h3 (psl a (k + 1)) 2 = kN h (psl a (k + 1)) 2 := kN_same (bk.1 2 (by omega))
        have ep : kN h3 (ppr ((a + 19) % 20) k) 2 = kN h (ppr a (k + 1)) 2 := by
          have e9 : ppr a (k + 1) = psl a k := if_neg (by omega)
          rw [e9]
          unfold ppr
          by_cases y : k = 1
          · rw [if_pos y, k64, y]
          · rw [if_neg y]
            have e8 : psl ((a + 19) % 20) (k - 1) = psl a k := by unfold psl; omega
            have l2 : 75 ≤ psl a k ∧ psl a k + 3 < 155 := by unfold psl; omega
            rw [e8]
            exact kN_same (F.2.2.1 _ _ (by omega))
        rw [t1, t2, ek, ep]
        exact ⟨p1.move bk, p2.move bk fun j hj i hi => F.2.2.1 _ _ (by omega), p3, p4⟩
    · rw [f3.2.2.1 _ _ (by omega), f2.2.2.1 _ _ (by omega), e1', kI_sI, if_pos ⟨rfl, rfl⟩]
