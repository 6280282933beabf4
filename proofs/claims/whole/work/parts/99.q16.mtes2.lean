/-! the model's TEST is the document's -/
theorem m_testReads {h g : KH} {n : Nat} {L : Bool} {k a : Nat} {s : PS} (ht : Rtape h) (n16 : n ≤ 1600) (q : Qd h g n L [] [] k a 0 s) (F : PR) (hF : F = pbd (lvF (tyN h) n L k s) ((dt (tyN h) n L []).1 k)) : ∃ g', kloop (f_X12_qTest_l2 173) KF ((1 : Int32), g) = some g' ∧ kfp Wq2 g g' ∧ ((∃ e, F = .inl e ∧ Qe h g' n 1602 e) ∨ ∃ w' k' a' s', Qd h g' n L w' [] k' a' 0 s' ∧ IT w' ∧ ¬ 25 ∈ w' ∧ F = .inr (tB w' s').2) := by
  refine kloop_KF (body := f_X12_qTest_l2 173) (fun m st => kfp Wq2 g st.2 ∧ ((st.1 = 1 ∧ ∃ w' k' a' s', Qd h st.2 n L w' [] k' a' 0 s' ∧ wfT w' ∧ F = pbd (lvF (tyN h) n L k' s') ((dt (tyN h) n L w').1 k') ∧ m = n - s'.1 + 1) ∨ (∃ e, F = .inl e ∧ Qe h st.2 n 1602 e) ∨ (st.1 = 0 ∧ ∃ w' k' a' s', Qd h st.2 n L w' [] k' a' 0 s' ∧ IT w' ∧ ¬ 25 ∈ w' ∧ F = .inr (tB w' s').2))) (fun g' => kfp Wq2 g g' ∧ ((∃ e, F = .inl e ∧ Qe h g' n 1602 e) ∨ ∃ w' k' a' s', Qd h g' n L w' [] k' a' 0 s' ∧ IT w' ∧ ¬ 25 ∈ w' ∧ F = .inr (tB w' s').2)) (fun m st hP => ?_) (n := n - s.1 + 1) (by omega) ⟨kfp.rf, Or.inl ⟨rfl, [], k, a, s, q, trivial, hF, rfl⟩⟩
  obtain ⟨fl, x⟩ := st
  obtain ⟨fx, hP⟩ := hP
  dsimp only at fx hP
  rcases hP with ⟨f1, w', k', a', s', q', wf', hF', hm⟩ | ⟨e, he, qe⟩ | ⟨f0, hh⟩
  · subst f1
    have len := q'.len
    obtain ⟨x1, e1, fx1, m1⟩ := m_look0 ht n16 q'.1
    have m1' : MdS h x1 n s' := m1
    have q1 : Qd h x1 n L w' [] k' (blE (tyN h) n s'.1) 0 s' := q'.mv fx1 m1 rfl (Nat.le_refl _)
    have sg := lkI_sg s'.2.1 (Md.byte ht n16 m1) (show isSg 91 from ⟨by omega, rfl, rfl⟩)
    have sg' : lkI (tyN h) n s'.1 = (91 : Int32) ↔ tkT (tyN h) n s'.1 s'.2.1 = 4 ∧ tkV (tyN h) n s'.1 = 91 := sg
    have F1 : kfp Wq2 g x1 := fx.tr (fx1.wide fun l i z => Or.inl z)
    have r1 := q1.kR
    have wnot : Wd x1 224 18 := q1.1.1.2.2.2.w2 (q := 6) (by omega)
    have hnot := m_isHereS ht n16 wnot m1'
    unfold f_X12_qTest_l2
    dsimp only
    rw [if_neg (by decide), if_pos kk173, q'.1.2.2.1, if_pos rfl, e1, kb_s]
    dsimp only
    by_cases y : tkT (tyN h) n s'.1 s'.2.1 = 4 ∧ tkV (tyN h) n s'.1 = 91
    · have pos := nxt_pos (tyN h) len.2 (by rw [y.1]; omega)
      have w27 := wI_sg y.1
      obtain ⟨x2, e2, f2, k0, k1⟩ := m_qOpens (x := 25) n16 q1 (by omega) (by omega)
      have e2' : f_X12_qOpens x1 173 (25 : Int32) (kI x1 173 2) = some x2 := e2
      rw [if_pos (sg'.mpr y), e2', kb_s, kl_e]
      by_cases z : k' = 0
      · obtain ⟨m2, c2⟩ := k0 z
        refine Or.inr ⟨0, _, by omega, rfl, (F1.tr f2).sI _ (Or.inl ⟨rfl, by omega⟩), Or.inr (Or.inl ⟨(4, blE (tyN h) n s'.1), ?_, m2.at2 _, s'.2.2.length, by omega, by rw [kI_sI, if_neg (by omega)]; exact c2⟩)⟩
        rw [hF', lvF_c, if_pos z]
        unfold fct
        rw [if_neg (by omega), if_pos y]
        rfl
      · have q2 := k1 z
        obtain ⟨u1, u2, u3⟩ := m_takenS n16 q2.1 y
        rw [u1]
        have q3 := q2.mv u2 u3 rfl (e' := 0) (by show s'.1 + 1 ≤ (nxt (tyN h) n s').1 + 0; omega)
        refine Or.inr ⟨n - (nxt (tyN h) n s').1 + 1, _, by omega, rfl, (F1.tr f2).tr (u2.wide fun l i z => Or.inl z), Or.inl ⟨rfl, 25 :: w', k' - 1, _, nxt (tyN h) n s', q3, ⟨wf', Or.inr (Or.inr (Or.inr rfl))⟩, ?_, rfl⟩⟩
        rw [hF', lvF_c, if_neg z]
        obtain ⟨k2, rfl⟩ : ∃ k2, k' = k2 + 1 := ⟨k' - 1, by omega⟩
        unfold fct
        rw [if_neg (by omega), if_pos y]
        exact dt_sq (tyN h) n L w' k2 (nxt (tyN h) n s')
    · rw [if_neg (fun z => y (sg'.mp z)), rf173_70 r1, if_pos (show 224 < 999999 by omega), hnot, kb_s]
      by_cases y18 : wI (tyN h) n s' = 18
      · simp only [if_pos y18]
        rw [if_neg (by decide)]
        have tw := wI_t (b := tyN h) (n := n) (s := s') (by omega)
        have pos := nxt_pos (tyN h) len.2 (by rw [tw]; omega)
        obtain ⟨x2, e2, f2, k0, k1⟩ := m_qOpens (x := 12) n16 q1 (by omega) (by omega)
        have e2' : f_X12_qOpens x1 173 (12 : Int32) (kI x1 173 2) = some x2 := e2
        rw [e2', kb_s]
        by_cases z : k' = 0
        · obtain ⟨m2, c2⟩ := k0 z
          have r2 := m2.1.1
          have wnot2 : Wd x2 224 18 := m2.1.2.2.2.w2 (q := 6) (by omega)
          obtain ⟨x3, a3, e3, f3, m3⟩ := m_asks (r := pft (tyN h) n 4 s') ht n16 wnot2 m2
          rw [rf173_70 r2, if_pos (show 224 < 999999 by omega), e3, kb_s]
          refine Or.inr ⟨0, _, by omega, rfl, (F1.tr f2).tr (f3.wide fun l i z => Or.inl z), Or.inr (Or.inl ⟨(4, blE (tyN h) n s'.1), ?_, m3, s'.2.2.length, by omega, (f3.2.2.1 _ _ (by unfold Wmp; omega)).trans c2⟩)⟩
          rw [hF', lvF_c, if_pos z]
          unfold fct
          rw [if_pos y18]
          rfl
        · have q2 := k1 z
          have r2 := q2.kR
          have wnot2 : Wd x2 224 18 := q2.1.1.2.2.2.w2 (q := 6) (by omega)
          obtain ⟨x3, a3, e3, f3, m3⟩ := m_asks (r := .inr s') ht n16 wnot2 q2.1
          have em : pbd (.inr s') (wW (tyN h) n 18) = .inr (nxt (tyN h) n s') := by
            rw [pbd_r]
            unfold wW
            rw [if_pos y18]
          rw [em] at m3
          have q3 := q2.mv f3 m3 rfl (e' := 0) (by show s'.1 + 1 ≤ (nxt (tyN h) n s').1 + 0; omega)
          rw [rf173_70 r2, if_pos (show 224 < 999999 by omega), e3, kb_s]
          refine Or.inr ⟨n - (nxt (tyN h) n s').1 + 1, _, by omega, rfl, (F1.tr f2).tr (f3.wide fun l i z => Or.inl z), Or.inl ⟨rfl, 12 :: w', k' - 1, a3, nxt (tyN h) n s', q3, ⟨wf', Or.inl rfl⟩, ?_, rfl⟩⟩
          rw [hF', lvF_c, if_neg z]
          obtain ⟨k2, rfl⟩ : ∃ k2, k' = k2 + 1 := ⟨k' - 1, by omega⟩
          unfold fct
          rw [if_pos y18]
          exact dt_not (tyN h) n L w' k2 (nxt (tyN h) n s')
      · simp only [if_neg y18]
        rw [if_pos True.intro]
        obtain ⟨x2, e2, f2, hh⟩ := m_qFact ht n16 wf' q1 y18 y
        rw [e2, kb_s]
        unfold f_X12_qTest_b105 f_X12_qTest_b106
        rcases hh with ⟨e, he, qe⟩ | ⟨s2, a2, hs, q2, p2⟩
        · rw [m_qDropsNots_bad qe.1, kb_s, if_neg qe.1.bad]
          rw [he, pbd_l] at hF'
          exact Or.inr ⟨0, _, by omega, rfl, F1.tr f2, Or.inr (Or.inl ⟨e, hF', qe⟩)⟩
        · rw [hs, pbd_r] at hF'
          obtain ⟨x3, w3, k3, s3, e3, f3, q3, wf3, rk3, d3, p3, -⟩ := m_qDropsNots n16 q2 wf'
          obtain ⟨r, x4, e4, f4, gr⟩ := m_goesT ht n16 q3 ⟨wf3, rk3⟩ F (hF'.trans d3)
          have FF : kfp Wq2 g x4 := ((F1.tr f2).tr f3).tr f4
          rw [e3, kb_s, q3.1.2.2.1, if_pos rfl, e4, kb_s]
          dsimp only
          rcases gr with ⟨e, he, r0, qe⟩ | ⟨r1, w5, k5, a5, s5, q5, wf5, hF5, hs5⟩ | ⟨r0, w5, k5, a5, s5, q5, i5, n5, hF5, hs5⟩
          · rw [if_pos r0]
            exact Or.inr ⟨0, _, by omega, rfl, FF, Or.inr (Or.inl ⟨e, he, qe⟩)⟩
          · rw [if_neg (by rw [r1]; decide)]
            have l5 := q5.len
            exact Or.inr ⟨n - s5.1 + 1, _, by omega, rfl, FF, Or.inl ⟨rfl, w5, k5, a5, s5, q5, wf5, hF5, rfl⟩⟩
          · rw [if_pos r0]
            exact Or.inr ⟨0, _, by omega, rfl, FF, Or.inr (Or.inr ⟨rfl, w5, k5, a5, s5, q5, i5, n5, hF5⟩)⟩
  · refine Or.inl ⟨x, ?_, fx, Or.inl ⟨e, he, qe⟩⟩
    unfold f_X12_qTest_l2
    dsimp only
    by_cases y : fl = 0
    · rw [if_pos y]
    · rw [if_neg y, if_pos kk173, if_neg qe.1.bad]
  · refine Or.inl ⟨x, ?_, fx, Or.inr hh⟩
    unfold f_X12_qTest_l2
    dsimp only
    rw [if_pos f0]
theorem m_qTest {h g : KH} {n : Nat} {L : Bool} {k a : Nat} {s : PS} (ht : Rtape h) (n16 : n ≤ 1600) (q : Qd h g n L [] [] k a 0 s) : ∃ g', f_X12_qTest g 173 = some g' ∧ kfp Wq2 g g' ∧ ((∃ e, tst (tyN h) n (lvF (tyN h) n L k) s = .inl e ∧ Qe h g' n 1602 e) ∨ ∃ s' a', tst (tyN h) n (lvF (tyN h) n L k) s = .inr s' ∧ Qd h g' n L [] [] k a' 0 s') := by
  obtain ⟨F, hF⟩ : ∃ F, F = tst (tyN h) n (lvF (tyN h) n L k) s := ⟨_, rfl⟩
  have hF' : F = pbd (lvF (tyN h) n L k s) ((dt (tyN h) n L []).1 k) := by
    rw [hF, tst_eq]
    congr 1
    funext s1
    show _ = pbd (alp (tyN h) n L k s1) fun s2 => pbd (olp (tyN h) n L k s2) .inr
    congr 1
    funext s2
    exact (pbd_id _).symm
  rw [← hF]
  obtain ⟨g2, e2, f2, hh⟩ := m_testReads ht n16 q F hF'
  unfold f_X12_qTest
  rw [e2, kb_s]
  rcases hh with ⟨e, he, qe⟩ | ⟨w', k', a', s', q', i', n25, hF2⟩
  · have st : f_X12_qTest_l110 173 g2 = some (.inr g2) := by
      unfold f_X12_qTest_l110
      rw [if_pos kk173, if_neg qe.1.bad]
    have lp := kloop_for (body := f_X12_qTest_l110 173) (fun _ => g2) 0 g2 (by omega) (fun k hk => absurd hk (Nat.not_lt_zero _)) st
    have lp' : kloop (f_X12_qTest_l110 173) KF g2 = some g2 := lp
    rw [lp', kb_s]
    exact ⟨_, rfl, f2, Or.inl ⟨e, he, qe⟩⟩
  · obtain ⟨g3, e3, f3, q3⟩ := m_dropAll n16 q' i' n25
    rw [e3, kb_s]
    have c1 : (tB w' s').1 = [] := by
      rcases tB_top s' i'.1 i'.2 with ⟨-, c⟩ | ⟨c, -⟩
      · exact c
      · exact absurd c n25
    rw [c1] at q3
    have kk : k' = k := by
      have r9 : 0 + k' = 6 := q3.2.2.2.2.1.2.2
      have r8 : 0 + k = 6 := q.2.2.2.2.1.2.2
      omega
    rw [kk] at q3
    exact ⟨g3, rfl, f2.tr f3, Or.inr ⟨_, a', hF2, q3⟩⟩
