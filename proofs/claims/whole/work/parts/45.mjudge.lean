/-! a case judged: the model's part -/
theorem m_isHeardMore {h : KH} (hr : kRefs h) {t x : Nat} (ht : t < 6) (hx : kI h 207 (2 + 2 * t) = Int32.ofNat x) (h99 : x ≤ 99) : f_X12_isHeardMore h 173 (Int32.ofNat t) = some (if 99 ≤ x then h else ksI h 207 (2 + 2 * t) (Int32.ofNat (x + 1))) := by
  unfold f_X12_isHeardMore
  rw [if_pos kk173, rf173_45 hr, if_pos (by omega), if_pos kk207, kn207, n32_mulr, n32_addr, if_neg (by rw [n32_cl (by omega)]; exact fun z => z.elim (n32_nn (by omega)) (by omega)), n32_cl (by omega), hx, ifP (n32_ler (by omega) (by omega)), n32_addl, kl_e]
  by_cases z : 99 ≤ x
  · rw [if_pos z, if_pos z]
  · rw [if_neg z, if_neg z]
/-- the model's tests of a set heard once more -/
theorem m_moreLoop {h : KH} {n s : Nat} (hr : kRefs h) (hn : kI h 198 4 = Int32.ofNat n) (n6 : n ≤ 6) (hs : s < 2 ^ n) (tm : Nat → Nat) (ht : ∀ t, t < 6 → kI h 207 (2 + 2 * t) = Int32.ofNat (tm t) ∧ tm t ≤ 99) (body : Int32 × KH → Option ((Int32 × KH) ⊕ KH))
    (hgo : ∀ k (g : KH), k < n → kRefs g → kI g 198 4 = Int32.ofNat n → kI g 207 (2 + 2 * k) = Int32.ofNat (tm k) → body (Int32.ofNat k, g) = some (.inl (Int32.ofNat (k + 1), if s / 2 ^ k % 2 = 0 then g else if 99 ≤ tm k then g else ksI g 207 (2 + 2 * k) (Int32.ofNat (tm k + 1)))))
    (hend : ∀ (g : KH), kRefs g → kI g 198 4 = Int32.ofNat n → body (Int32.ofNat n, g) = some (.inr g)) :
    ∃ h', kloop body KF ((0 : Int32), h) = some h' ∧ kfp (fun l i => l = 207 ∧ 2 ≤ i ∧ i < 14 ∧ i % 2 = 0) h h' ∧ ∀ t, t < 6 → kI h' 207 (2 + 2 * t) = Int32.ofNat (moreN s (tm t) t) := by
  refine kloop_inv (body := body) (fun k st => st.1 = Int32.ofNat k ∧ kfp (fun l i => l = 207 ∧ 2 ≤ i ∧ i < 14 ∧ i % 2 = 0) h st.2 ∧ ∀ t, t < 6 → kI st.2 207 (2 + 2 * t) = Int32.ofNat (if t < k then moreN s (tm t) t else tm t))
    (fun r => kfp (fun l i => l = 207 ∧ 2 ≤ i ∧ i < 14 ∧ i % 2 = 0) h r ∧ ∀ t, t < 6 → kI r 207 (2 + 2 * t) = Int32.ofNat (moreN s (tm t) t)) n (by omega) ⟨rfl, kfp.rf, fun t h6 => by dsimp only; rw [if_neg (by omega)]; exact (ht t h6).1⟩ (fun k st hk hP => ?_) (fun st hP => ?_)
  · obtain ⟨s1, g⟩ := st
    obtain ⟨p1, p2, p3⟩ := hP
    dsimp only at p1 p2 p3
    subst p1
    have hg := hgo k g hk (hr.fp p2) ((p2.2.2.1 198 4 (by omega)).trans hn) (by rw [p3 k (by omega), if_neg (by omega)])
    refine ⟨_, hg, rfl, ?_, fun t h6 => ?_⟩
    · dsimp only
      by_cases b : s / 2 ^ k % 2 = 0
      · rw [if_pos b]; exact p2
      · rw [if_neg b]
        by_cases y : 99 ≤ tm k
        · rw [if_pos y]; exact p2
        · rw [if_neg y]; exact p2.sI _ ⟨rfl, by omega, by omega, by omega⟩
    · dsimp only
      have hp := p3 t h6
      have hb := (ht t h6).2
      by_cases e : t = k
      · subst e
        rw [if_pos (show t < t + 1 by omega)]
        rw [if_neg (by omega)] at hp
        unfold moreN
        by_cases b : s / 2 ^ t % 2 = 0
        · rw [if_pos b, if_pos b]; exact hp
        · rw [if_neg b, if_neg b]
          by_cases y : 99 ≤ tm t
          · rw [if_pos y, hp, Nat.min_eq_left (by omega), show tm t = 99 by omega]
          · rw [if_neg y, kI_sI, if_pos ⟨rfl, rfl⟩, Nat.min_eq_right (by omega)]
      · have e2 : (if t < k + 1 then moreN s (tm t) t else tm t) = if t < k then moreN s (tm t) t else tm t := by
          by_cases z : t < k
          · rw [if_pos z, if_pos (by omega)]
          · rw [if_neg z, if_neg (by omega)]
        rw [e2, ← hp]
        by_cases b : s / 2 ^ k % 2 = 0
        · rw [if_pos b]
        · rw [if_neg b]
          by_cases y : 99 ≤ tm k
          · rw [if_pos y]
          · rw [if_neg y, kI_sI, if_neg (by omega)]
  · obtain ⟨s1, g⟩ := st
    obtain ⟨p1, p2, p3⟩ := hP
    dsimp only at p1 p2 p3
    subst p1
    refine ⟨g, hend g (hr.fp p2) ((p2.2.2.1 198 4 (by omega)).trans hn), p2, fun t h6 => ?_⟩
    rw [p3 t h6]
    by_cases z : t < n
    · rw [if_pos z]
    · rw [if_neg z, moreN, if_pos (bit_hi hs (by omega))]
/-- nothing heard or looked for -/
theorem m_begins {h : KH} (hr : kRefs h) : ∃ h', f_X12_begins h 173 = some h' ∧ kfp (fun l i => l = 207 ∧ ((2 ≤ i ∧ i < 14 ∧ i % 2 = 1) ∨ (14 ≤ i ∧ i < 24))) h h' ∧ (∀ t, t < 6 → kI h' 207 (2 + 2 * t + 1) = 0) ∧ ∀ i, i < 10 → kI h' 207 (14 + i) = 0 := by
  obtain ⟨g, e1, f1, z1⟩ := kloop_inv (body := f_X12_begins_l2 173) (fun k s => s.1 = Int32.ofNat k ∧ kfp (fun l i => l = 207 ∧ 2 ≤ i ∧ i < 14 ∧ i % 2 = 1) h s.2 ∧ ∀ t, t < k → kI s.2 207 (2 + 2 * t + 1) = 0)
    (fun r => kfp (fun l i => l = 207 ∧ 2 ≤ i ∧ i < 14 ∧ i % 2 = 1) h r ∧ ∀ t, t < 6 → kI r 207 (2 + 2 * t + 1) = 0) 6 (s0 := ((0 : Int32), h)) (by omega) ⟨rfl, kfp.rf, fun i hi => absurd hi (Nat.not_lt_zero _)⟩ (fun k s hk hP => by
      obtain ⟨s1, g⟩ := s
      obtain ⟨p1, p2, p3⟩ := hP
      dsimp only at p1 p2 p3
      subst p1
      have r2 := hr.fp p2
      refine ⟨(Int32.ofNat (k + 1), ksI g 207 (2 + 2 * k + 1) 0), ?_, rfl, p2.sI _ ⟨rfl, by omega, by omega, by omega⟩, fun t h6 => ?_⟩
      · unfold f_X12_begins_l2
        dsimp only
        rw [ifP (n32_ler (by omega) (by omega)), if_neg (by omega), if_pos kk173, rf173_45 r2, if_pos (by omega), if_pos kk207, kn207, n32_mulr, n32_addr, n32_addl, if_neg (by rw [n32_cl (by omega)]; exact fun z => z.elim (n32_nn (by omega)) (by omega)), n32_cl (by omega), kl_e, kl_e, n32_addl]
      · dsimp only
        rw [kI_sI]
        by_cases z : t = k
        · subst z
          rw [if_pos ⟨rfl, rfl⟩]
        · rw [if_neg (by omega)]
          exact p3 t (by omega)) (fun s hP => by
      obtain ⟨s1, g⟩ := s
      obtain ⟨p1, p2, p3⟩ := hP
      dsimp only at p1 p2 p3
      subst p1
      refine ⟨g, ?_, p2, p3⟩
      unfold f_X12_begins_l2
      dsimp only
      rw [if_pos (by decide)])
  have r1 := hr.fp f1
  obtain ⟨g2, e2, f2, z2⟩ := kloop_inv (body := f_X12_begins_l29 173) (fun k s => s.1 = Int32.ofNat k ∧ kfp (fun l i => l = 207 ∧ 14 ≤ i ∧ i < 24) g s.2 ∧ ∀ t, t < k → kI s.2 207 (14 + t) = 0)
    (fun r => kfp (fun l i => l = 207 ∧ 14 ≤ i ∧ i < 24) g r ∧ ∀ t, t < 10 → kI r 207 (14 + t) = 0) 10 (s0 := ((0 : Int32), g)) (by omega) ⟨rfl, kfp.rf, fun i hi => absurd hi (Nat.not_lt_zero _)⟩ (fun k s hk hP => by
      obtain ⟨s1, g'⟩ := s
      obtain ⟨p1, p2, p3⟩ := hP
      dsimp only at p1 p2 p3
      subst p1
      have r2 := r1.fp p2
      refine ⟨(Int32.ofNat (k + 1), ksI g' 207 (14 + k) 0), ?_, rfl, p2.sI _ ⟨rfl, by omega, by omega⟩, fun t h6 => ?_⟩
      · unfold f_X12_begins_l29
        dsimp only
        rw [ifP (n32_ler (by omega) (by omega)), if_neg (by omega), if_pos kk173, rf173_45 r2, if_pos (by omega), if_pos kk207, kn207, n32_addr, if_neg (by rw [n32_cl (by omega)]; exact fun z => z.elim (n32_nn (by omega)) (by omega)), n32_cl (by omega), kl_e, kl_e, n32_addl]
      · dsimp only
        rw [kI_sI]
        by_cases z : t = k
        · subst z
          rw [if_pos ⟨rfl, rfl⟩]
        · rw [if_neg (by omega)]
          exact p3 t (by omega)) (fun s hP => by
      obtain ⟨s1, g'⟩ := s
      obtain ⟨p1, p2, p3⟩ := hP
      dsimp only at p1 p2 p3
      subst p1
      refine ⟨g', ?_, p2, p3⟩
      unfold f_X12_begins_l29
      dsimp only
      rw [if_pos (by decide)])
  refine ⟨g2, ?_, (f1.wide fun l i z => ⟨z.1, Or.inl z.2⟩).tr (f2.wide fun l i z => ⟨z.1, Or.inr z.2⟩), fun t ht => ?_, z2⟩
  · unfold f_X12_begins
    rw [e1, kb_s, e2, kb_s]
  · rw [f2.2.2.1 _ _ (by omega)]
    exact z1 t ht
/-- what is kept of forty goes one place down -/
theorem m_shift {h : KH} (hr : kRefs h) (v1 v2 v3 v4 : Int32) : ∃ h', kloop (f_X12_isJudged_l103 173 v1 v2 v3 v4) KF ((25 : Int32), h) = some h' ∧ kfp (fun l i => l = 207 ∧ 25 ≤ i ∧ i < 181) h h' ∧ ∀ i, i < 156 → kI h' 207 (25 + i) = kI h 207 (29 + i) := by
  refine kloop_inv (body := f_X12_isJudged_l103 173 v1 v2 v3 v4) (fun k s => s.1 = Int32.ofNat (25 + k) ∧ kfp (fun l i => l = 207 ∧ 25 ≤ i ∧ i < 25 + k) h s.2 ∧ ∀ i, i < k → kI s.2 207 (25 + i) = kI h 207 (29 + i))
    (fun r => kfp (fun l i => l = 207 ∧ 25 ≤ i ∧ i < 181) h r ∧ ∀ i, i < 156 → kI r 207 (25 + i) = kI h 207 (29 + i)) 156 (by omega) ⟨rfl, kfp.rf, fun i hi => absurd hi (Nat.not_lt_zero _)⟩ (fun k s hk hP => ?_) (fun s hP => ?_)
  · obtain ⟨s1, g⟩ := s
    obtain ⟨p1, p2, p3⟩ := hP
    dsimp only at p1 p2 p3
    subst p1
    have r2 := hr.fp p2
    have i4 : kI g 207 (25 + k + 4) = kI h 207 (29 + k) := by
      rw [p2.2.2.1 _ _ (by omega), show 25 + k + 4 = 29 + k by omega]
    refine ⟨(Int32.ofNat (25 + (k + 1)), ksI g 207 (25 + k) (kI h 207 (29 + k))), ?_, rfl, (p2.wide fun l i z => ⟨z.1, z.2.1, by omega⟩).sI _ ⟨rfl, by omega, by omega⟩, fun t h6 => ?_⟩
    · unfold f_X12_isJudged_l103
      dsimp only
      rw [ifP (n32_ler (by omega) (by omega)), if_neg (by omega), if_pos kk173, rf173_45 r2, if_pos (by omega), if_pos kk207, kn207, n32_addl, if_neg (by rw [n32_cl (by omega)]; exact fun z => z.elim (n32_nn (by omega)) (by omega)), if_neg (by rw [n32_cl (by omega)]; exact fun z => z.elim (n32_nn (by omega)) (by omega)), n32_cl (by omega), n32_cl (by omega), i4, kl_e, kl_e, n32_addl]
      rfl
    · dsimp only
      rw [kI_sI]
      by_cases z : t = k
      · subst z
        rw [if_pos ⟨rfl, rfl⟩]
      · rw [if_neg (by omega)]
        exact p3 t (by omega)
  · obtain ⟨s1, g⟩ := s
    obtain ⟨p1, p2, p3⟩ := hP
    dsimp only at p1 p2 p3
    subst p1
    refine ⟨g, ?_, p2, p3⟩
    unfold f_X12_isJudged_l103
    dsimp only
    rw [if_pos (by decide)]
theorem m_isJudged {h : KH} {c : Nat} (rc : RC h c) (ms : MS h) {q : Nat} (hq : kI h 207 24 = Int32.ofNat q) (q40 : q ≤ 40) (cl rt : Int32) {s : Nat} (hs : s < 2 ^ kN h 198 4) :
    ∃ h', f_X12_isJudged h 173 cl (Int32.ofNat s) rt = some h' ∧ kfp (fun l i => l = 207 ∧ i < 185) h h' ∧ kI h' 207 0 = Int32.ofNat (kN h 207 0 + 1) ∧ kI h' 207 1 = Int32.ofNat (min 9999 (kN h 207 1 + hmN h s (kN h 198 4))) ∧
      (∀ t, t < 6 → kI h' 207 (2 + 2 * t) = Int32.ofNat (moreN s (kN h 207 (2 + 2 * t)) t) ∧ kI h' 207 (2 + 2 * t + 1) = 0) ∧ (∀ i, i < 10 → kI h' 207 (14 + i) = 0) ∧ kI h' 207 24 = Int32.ofNat (min 40 (q + 1)) ∧
      (∀ j, j + 1 < min 40 (q + 1) → ∀ i, i < 4 → kI h' 207 (25 + 4 * j + i) = kI h 207 (25 + 4 * (if q = 40 then j + 1 else j) + i)) ∧
      kI h' 207 (25 + 4 * (min 40 (q + 1) - 1) + 0) = cl ∧ kI h' 207 (25 + 4 * (min 40 (q + 1) - 1) + 1) = Int32.ofNat (hmN h s (kN h 198 4)) ∧ kI h' 207 (25 + 4 * (min 40 (q + 1) - 1) + 2) = Int32.ofNat (pcN s) ∧ kI h' 207 (25 + 4 * (min 40 (q + 1) - 1) + 3) = rt := by
  obtain ⟨hr, hc, h5, hm, hk, ht, -⟩ := id rc
  have h6 := hm.2.1.1.2
  have hl : s < 64 := Nat.lt_of_lt_of_le hs (pow6 _ h6)
  have hh := rc.hm s (Nat.le_refl _)
  have m0 := ms.1
  have m1 := ms.2.1
  have hharm := m_harmOf rc (s := s) (by omega)
  generalize hmN h s (kN h 198 4) = w at hh hharm ⊢
  obtain ⟨g1, e1, f1, t1⟩ := m_moreLoop hr hm.2.1.1.1 h6 hs (fun t => kN h 207 (2 + 2 * t)) (fun t ht => ⟨(ms.2.2.1 t ht).1.1, (ms.2.2.1 t ht).1.2⟩) (f_X12_isJudged_l10 173 cl (Int32.ofNat s) rt (Int32.ofNat w)) (fun k g hk rg h198 htm => by
    unfold f_X12_isJudged_l10 f_X12_isJudged_b35
    dsimp only
    simp only [kl_e]
    rw [if_pos kk173, m_testMany rg, kb_s, h198, if_neg (by rw [n32_le (by omega) (by omega)]; omega), n32_bit (by omega) (by omega), ifP (n32_eql (by omega) (by omega)), n32_addl, m_isHeardMore rg (by omega) htm (ms.2.2.1 k (by omega)).1.2, kb_s]
    by_cases b : s / 2 ^ k % 2 = 0
    · rw [if_neg (by omega), if_pos b]
    · rw [if_pos (by omega), if_neg b]) (fun g rg h198 => by
    unfold f_X12_isJudged_l10
    dsimp only
    rw [if_pos kk173, m_testMany rg, kb_s, h198, if_pos (by rw [n32_le (by omega) (by omega)]; omega)])
  have r1 := hr.fp f1
  have a0 : kI g1 207 0 = Int32.ofNat (kN h 207 0) := (f1.2.2.1 207 0 (by omega)).trans m0.1
  have a1 : kI g1 207 1 = Int32.ofNat (kN h 207 1) := (f1.2.2.1 207 1 (by omega)).trans m1.1
  have a24 : kI g1 207 24 = Int32.ofNat q := (f1.2.2.1 207 24 (by omega)).trans hq
  obtain ⟨g2, e2⟩ : ∃ g, g = ksI (ksI g1 207 0 (Int32.ofNat (kN h 207 0 + 1))) 207 1 (Int32.ofNat (min 9999 (kN h 207 1 + w))) := ⟨_, rfl⟩
  have f2 : kfp (fun l i => l = 207 ∧ i < 2) g1 g2 := by rw [e2]; exact (kfp.rf.sI _ ⟨rfl, by omega⟩).sI _ ⟨rfl, by omega⟩
  have r2 := r1.fp f2
  have b24 : kI g2 207 24 = Int32.ofNat q := (f2.2.2.1 207 24 (by omega)).trans a24
  have hg3 : ∃ g3, (if q = 40 then kloop (f_X12_isJudged_l103 173 cl (Int32.ofNat s) rt (Int32.ofNat w)) KF ((25 : Int32), g2) else some (ksI g2 207 24 (Int32.ofNat (q + 1)))) = some g3 ∧ kfp (fun l i => l = 207 ∧ ((q = 40 ∧ 25 ≤ i ∧ i < 181) ∨ (q ≠ 40 ∧ i = 24))) g2 g3 ∧ kI g3 207 24 = Int32.ofNat (min 40 (q + 1)) ∧
      (∀ j, j + 1 < min 40 (q + 1) → ∀ i, i < 4 → kI g3 207 (25 + 4 * j + i) = kI g2 207 (25 + 4 * (if q = 40 then j + 1 else j) + i)) := by
    by_cases z : q = 40
    · obtain ⟨g3, e3, f3, s3⟩ := m_shift r2 cl (Int32.ofNat s) rt (Int32.ofNat w)
      refine ⟨g3, by rw [if_pos z, e3], f3.wide fun l i y => ⟨y.1, Or.inl ⟨z, y.2⟩⟩, ?_, fun j hj i hi => ?_⟩
      · rw [f3.2.2.1 _ _ (by omega), b24, Nat.min_eq_left (by omega), z]
      · rw [if_pos z, show 25 + 4 * j + i = 25 + (4 * j + i) by omega, s3 _ (by omega)]
        congr 1
        omega
    · refine ⟨_, by rw [if_neg z], kfp.rf.sI _ ⟨rfl, Or.inr ⟨z, rfl⟩⟩, ?_, fun j hj i hi => ?_⟩
      · rw [kI_sI, if_pos ⟨rfl, rfl⟩, Nat.min_eq_right (by omega)]
      · rw [if_neg z, kI_sI, if_neg (by omega)]
  obtain ⟨g3, e3, f3, c24, c25⟩ := hg3
  have r3 := r2.fp f3
  obtain ⟨p, hp⟩ : ∃ p, min 40 (q + 1) - 1 = p := ⟨_, rfl⟩
  have p40 : p < 40 := by omega
  have pm : min 40 (q + 1) = p + 1 := by omega
  obtain ⟨g4, e4⟩ : ∃ g, g = ksI (ksI (ksI (ksI g3 207 (25 + 4 * p + 0) cl) 207 (25 + 4 * p + 1) (Int32.ofNat w)) 207 (25 + 4 * p + 2) (Int32.ofNat (pcN s))) 207 (25 + 4 * p + 3) rt := ⟨_, rfl⟩
  have f4 : kfp (fun l i => l = 207 ∧ 25 + 4 * p ≤ i ∧ i < 25 + 4 * p + 4) g3 g4 := by
    rw [e4]
    exact (((kfp.rf.sI _ ⟨rfl, by omega, by omega⟩).sI _ ⟨rfl, by omega, by omega⟩).sI _ ⟨rfl, by omega, by omega⟩).sI _ ⟨rfl, by omega, by omega⟩
  have r4 := r3.fp f4
  obtain ⟨g5, e5, f5, z5, z6⟩ := m_begins r4
  have eb : f_X12_isJudged_b147 g3 173 cl (Int32.ofNat s) rt (Int32.ofNat w) = some g5 := by
    unfold f_X12_isJudged_b147
    rw [if_pos kk173, rf173_45 r3, if_pos (by omega), if_pos kk207, kn207, if_neg (by omega), c24, pm, n32_mulr, n32_addr, n32_subl (by omega), show 25 + 4 * (p + 1) - 4 = 25 + 4 * p + 0 by omega, kl_e, if_neg (by rw [n32_cl (by omega)]; exact fun z => z.elim (n32_nn (by omega)) (by omega)), n32_cl (by omega), kl_e]
    rw [rf173_45 (r3.sI _ _ _), if_pos (by omega), if_pos kk207, kn207, n32_addl, show 25 + 4 * p + 0 + 1 = 25 + 4 * p + 1 by omega, if_neg (by rw [n32_cl (by omega)]; exact fun z => z.elim (n32_nn (by omega)) (by omega)), n32_cl (by omega), kl_e]
    rw [rf173_45 ((r3.sI _ _ _).sI _ _ _), if_pos (by omega), m_bits _ hl, kb_s, if_pos kk207, kn207, n32_addl, show 25 + 4 * p + 0 + 2 = 25 + 4 * p + 2 by omega, if_neg (by rw [n32_cl (by omega)]; exact fun z => z.elim (n32_nn (by omega)) (by omega)), n32_cl (by omega), kl_e]
    rw [rf173_45 (((r3.sI _ _ _).sI _ _ _).sI _ _ _), if_pos (by omega), if_pos kk207, kn207, n32_addl, show 25 + 4 * p + 0 + 3 = 25 + 4 * p + 3 by omega, if_neg (by rw [n32_cl (by omega)]; exact fun z => z.elim (n32_nn (by omega)) (by omega)), n32_cl (by omega), kl_e, ← e4, e5, kb_s]
  have eb86 : f_X12_isJudged_b86 (ksI g1 207 0 (Int32.ofNat (kN h 207 0 + 1))) 173 cl (Int32.ofNat s) rt (Int32.ofNat w) 207 1 (Int32.ofNat (min 9999 (kN h 207 1 + w))) = some g5 := by
    unfold f_X12_isJudged_b86
    rw [if_pos kk207, kn207, if_neg (by decide), kl_e]
    rw [show (1 : Int32).toNatClampNeg = 1 from rfl, ← e2, if_pos kk173, rf173_45 r2, if_pos (by omega), if_pos kk207, kn207, if_neg (by omega), b24, ifP (n32_eql (by omega) (by omega)), n32_addl, kl_e]
    by_cases z : q = 40
    · rw [if_pos z]
      rw [if_pos z] at e3
      rw [e3, kb_s, eb]
    · rw [if_neg z]
      rw [if_neg z] at e3
      rw [Option.some.inj e3, eb]
  refine ⟨g5, ?_, ?_, ?_, ?_, fun t h6t => ⟨?_, z5 t h6t⟩, z6, ?_, fun j hj i hi => ?_, ?_, ?_, ?_, ?_⟩
  · unfold f_X12_isJudged
    have x1 := m1.2
    have a1' : kI (ksI g1 207 0 (Int32.ofNat (kN h 207 0 + 1))) 207 1 = Int32.ofNat (kN h 207 1) := by rw [kI_sI, if_neg (by omega), a1]
    rw [if_pos kk173, hharm, kb_s, e1, kb_s, rf173_45 r1, if_pos (by omega), if_pos kk207, kn207, if_neg (by omega), a0, n32_addl, kl_e, rf173_45 (r1.sI _ _ _), if_pos (by omega), if_pos kk207, kn207, if_neg (by omega), a1', n32_add, ifP (n32_lel (by omega) (by omega))]
    by_cases z : kN h 207 1 + w ≤ 9999
    · rw [if_pos z]
      rw [Nat.min_eq_right z] at eb86
      exact eb86
    · rw [if_neg z]
      rw [Nat.min_eq_left (by omega)] at eb86
      exact eb86
  · refine ((((f1.wide fun l i z => ?_).tr (f2.wide fun l i z => ?_)).tr (f3.wide fun l i z => ?_)).tr (f4.wide fun l i z => ?_)).tr (f5.wide fun l i z => ?_)
    · exact ⟨z.1, by omega⟩
    · exact ⟨z.1, by omega⟩
    · exact ⟨z.1, by omega⟩
    · exact ⟨z.1, by omega⟩
    · exact ⟨z.1, by omega⟩
  · rw [f5.2.2.1 _ _ (by omega), f4.2.2.1 _ _ (by omega), f3.2.2.1 _ _ (by omega), e2, kI_sI, if_neg (by omega), kI_sI, if_pos ⟨rfl, rfl⟩]
  · rw [f5.2.2.1 _ _ (by omega), f4.2.2.1 _ _ (by omega), f3.2.2.1 _ _ (by omega), e2, kI_sI, if_pos ⟨rfl, rfl⟩]
  · rw [f5.2.2.1 _ _ (by omega), f4.2.2.1 _ _ (by omega), f3.2.2.1 _ _ (by omega), f2.2.2.1 _ _ (by omega)]
    exact t1 t h6t
  · rw [f5.2.2.1 _ _ (by omega), f4.2.2.1 _ _ (by omega)]
    exact c24
  · rw [f5.2.2.1 _ _ (by omega), f4.2.2.1 _ _ (by omega), c25 j hj i hi]
    by_cases z : q = 40
    · rw [if_pos z, f2.2.2.1 _ _ (by omega), f1.2.2.1 _ _ (by omega)]
    · rw [if_neg z, f2.2.2.1 _ _ (by omega), f1.2.2.1 _ _ (by omega)]
  · rw [hp, f5.2.2.1 _ _ (by omega), e4]
    rw [kI_sI, if_neg (by omega), kI_sI, if_neg (by omega), kI_sI, if_neg (by omega), kI_sI, if_pos ⟨rfl, rfl⟩]
  · rw [hp, f5.2.2.1 _ _ (by omega), e4]
    rw [kI_sI, if_neg (by omega), kI_sI, if_neg (by omega), kI_sI, if_pos ⟨rfl, rfl⟩]
  · rw [hp, f5.2.2.1 _ _ (by omega), e4]
    rw [kI_sI, if_neg (by omega), kI_sI, if_pos ⟨rfl, rfl⟩]
  · rw [hp, f5.2.2.1 _ _ (by omega), e4]
    rw [kI_sI, if_pos ⟨rfl, rfl⟩]
