/-! the model reads a SUM -/
theorem m_sumsLoop {h g : KH} {n : Nat} {L : Bool} {B : List Nat} {k a : Nat} {s : PS} (v : Int32) (ht : Rtape h) (n16 : n ≤ 1600) (hB : okB B) (q : Qd h g n L [] B k a 0 s) (F : PR) (hF : F = pbd (lvP (tyN h) n L k s) ((dn (tyN h) n L []).1 k)) : ∃ g', kloop (f_X12_qSums_l15 173 v) KF ((1 : Int32), g) = some g' ∧ kfp Wq2 g g' ∧ ((∃ e, F = .inl e ∧ Qe h g' n 1601 e) ∨ ∃ w' k' a' s', Qd h g' n L w' B k' a' 0 s' ∧ wfS w' ∧ rkN w' ≤ 2 ∧ brN w' = 0 ∧ F = .inr (dB w' s').2) := by
  refine kloop_KF (body := f_X12_qSums_l15 173 v) (fun m st => kfp Wq2 g st.2 ∧ ((st.1 = 1 ∧ ∃ w' k' a' s', Qd h st.2 n L w' B k' a' 0 s' ∧ wfS w' ∧ F = pbd (lvP (tyN h) n L k' s') ((dn (tyN h) n L w').1 k') ∧ m = n - s'.1 + 1) ∨ (∃ e, F = .inl e ∧ Qe h st.2 n 1601 e) ∨ (st.1 = 0 ∧ ∃ w' k' a' s', Qd h st.2 n L w' B k' a' 0 s' ∧ wfS w' ∧ rkN w' ≤ 2 ∧ brN w' = 0 ∧ F = .inr (dB w' s').2))) (fun g' => kfp Wq2 g g' ∧ ((∃ e, F = .inl e ∧ Qe h g' n 1601 e) ∨ ∃ w' k' a' s', Qd h g' n L w' B k' a' 0 s' ∧ wfS w' ∧ rkN w' ≤ 2 ∧ brN w' = 0 ∧ F = .inr (dB w' s').2)) (fun m st hP => ?_) (n := n - s.1 + 1) (by omega) ⟨kfp.rf, Or.inl ⟨rfl, [], k, a, s, q, trivial, hF, rfl⟩⟩
  obtain ⟨fl, x⟩ := st
  obtain ⟨fx, hP⟩ := hP
  dsimp only at fx hP
  rcases hP with ⟨f1, w', k', a', s', q', wf', hF', hm⟩ | ⟨e, he, qe⟩ | ⟨f0, hh⟩
  · subst f1
    have len := q'.len
    obtain ⟨x1, e1, fx1, hh⟩ := m_qPartTold ht n16 q' wf' F hF'
    unfold f_X12_qSums_l15
    dsimp only
    rw [if_neg (by decide), if_pos kk173, q'.1.2.2.1, if_pos rfl, e1, kb_s]
    rcases hh with ⟨e, he, qe⟩ | ⟨w1, k1, a1, s1, q1, wf1, rk1, hF1, hs1⟩
    · rw [if_neg qe.1.bad]
      unfold f_X12_qSums_b48 f_X12_qSums_b49
      exact Or.inr ⟨0, _, by omega, rfl, fx.tr fx1, Or.inr (Or.inl ⟨e, he, qe⟩)⟩
    · obtain ⟨r, x2, e2, f2, gr⟩ := m_goes ht n16 hB q1 wf1 rk1 F hF1
      have l1 := q1.len
      rw [q1.1.2.2.1, if_pos rfl, e2, kb_s]
      dsimp only
      unfold f_X12_qSums_b48 f_X12_qSums_b49
      rcases gr with ⟨e, he, r0, qe⟩ | ⟨r1, w2, k2, a2, s2, q2, wf2, hF2, hs2⟩ | ⟨r0, w2, k2, a2, s2, q2, wf2, rk2, br2, hF2, hs2⟩
      · rw [if_pos r0]
        exact Or.inr ⟨0, _, by omega, rfl, (fx.tr fx1).tr f2, Or.inr (Or.inl ⟨e, he, qe⟩)⟩
      · rw [if_neg (by rw [r1]; decide)]
        have l2 := q2.len
        exact Or.inr ⟨n - s2.1 + 1, _, by omega, rfl, (fx.tr fx1).tr f2, Or.inl ⟨rfl, w2, k2, a2, s2, q2, wf2, hF2, rfl⟩⟩
      · rw [if_pos r0]
        exact Or.inr ⟨0, _, by omega, rfl, (fx.tr fx1).tr f2, Or.inr (Or.inr ⟨rfl, w2, k2, a2, s2, q2, wf2, rk2, br2, hF2⟩)⟩
  · refine Or.inl ⟨x, ?_, fx, Or.inl ⟨e, he, qe⟩⟩
    unfold f_X12_qSums_l15
    dsimp only
    by_cases y : fl = 0
    · rw [if_pos y]
    · rw [if_neg y, if_pos kk173, if_neg qe.1.bad]
  · refine Or.inl ⟨x, ?_, fx, Or.inr hh⟩
    unfold f_X12_qSums_l15
    dsimp only
    rw [if_pos f0]
theorem m_sumsDrop {h g : KH} {n : Nat} {L : Bool} {w B : List Nat} {k a : Nat} {s : PS} (v : Int32) (n16 : n ≤ 1600) (q : Qd h g n L w B k a 0 s) (wf : wfS w) (rk : rkN w ≤ 2) (b0 : brN w = 0) : ∃ g', kloop (f_X12_qSums_l53 173 v) KF g = some g' ∧ kfp Wq2 g g' ∧ Qd h g' n L [] B k a 0 (dB w s).2 := by
  have len := q.len
  refine kloop_KF (body := f_X12_qSums_l53 173 v) (fun m x => ∃ w1 s1, m = w1.length ∧ kfp Wq2 g x ∧ Qd h x n L w1 B k a 0 s1 ∧ wfS w1 ∧ rkN w1 ≤ 2 ∧ brN w1 = 0 ∧ (dB w1 s1).2 = (dB w s).2) (fun x => kfp Wq2 g x ∧ Qd h x n L [] B k a 0 (dB w s).2) (fun m x hP => ?_) (n := w.length) (by have := len.1; rw [List.length_append] at this; omega) ⟨w, s, rfl, kfp.rf, q, wf, rk, b0, rfl⟩
  obtain ⟨w1, s1, p1, p2, p3, p4, p5, p6, p7⟩ := hP
  have l1 := p3.len
  have c88 := p3.2.2.2.1.1
  have c90 := p3.2.2.2.2.2.1
  unfold f_X12_qSums_l53
  rw [if_pos kk173, p3.1.2.2.1, if_pos rfl, c88, c90]
  cases w1 with
  | nil =>
    refine Or.inl ⟨x, by rw [if_pos (by rw [n32_le (by have := l1.1; omega) (by have := l1.1; simp only [List.nil_append] at this; omega)]; simp)], p2, ?_⟩
    rw [← p7]
    exact p3
  | cons y w2 =>
    have lB : ((y :: w2) ++ B).length = w2.length + 1 + B.length := by simp only [List.length_append, List.length_cons]
    rw [if_neg (by rw [n32_le (by omega) (by omega)]; omega)]
    have y12 : y < 12 ∧ brN w2 = 0 ∧ rkN w2 ≤ 2 ∧ dB (y :: w2) s1 = dB w2 (pem y s1) := by
      have e : (if 20 ≤ y ∧ y ≤ 24 then y else brN w2) = 0 := p6
      rcases wf_top p4 p5 with ⟨u, z⟩ | ⟨u, z⟩ | u
      · rw [if_neg (by omega)] at e
        exact ⟨by omega, e, by omega, dB_34 u z⟩
      · rw [if_neg (by omega)] at e
        exact ⟨by omega, e, by omega, dB_12 u z⟩
      · rw [if_pos u] at e
        omega
    obtain ⟨x', e', f', q'⟩ := m_qDrops n16 p3 (by omega) y12.1
    refine Or.inr ⟨w2.length, x', ?_, by rw [e', kb_s], w2, pem y s1, rfl, p2.tr f', q', p4.1, y12.2.2.1, y12.2.1, ?_⟩
    · rw [p1]
      simp only [List.length_cons]
      omega
    · rw [← p7, y12.2.2.2]
theorem m_qSums {h g : KH} {n : Nat} {L : Bool} {T : List Nat} {k a : Nat} {s : PS} (ht : Rtape h) (n16 : n ≤ 1600) (hT : okB T) (q : Qd h g n L T [] k a 0 s) : ∃ g', f_X12_qSums g 173 = some g' ∧ kfp Wq2 g g' ∧ ((∃ e, smm (tyN h) n (lvP (tyN h) n L k) s = .inl e ∧ Qe h g' n 1601 e) ∨ ∃ s' a', smm (tyN h) n (lvP (tyN h) n L k) s = .inr s' ∧ Qd h g' n L T [] k a' 0 s') := by
  have len := q.len
  obtain ⟨q1, q2, ⟨q3, q4⟩, ⟨q5, q6⟩, ⟨q7, q8, q9⟩, q10, q11⟩ := id q
  have tn : T ++ [] = T := List.append_nil T
  rw [tn] at q5 q6 q9 q11
  obtain ⟨g1, eg1⟩ : ∃ g1, g1 = ksI g 173 90 (kI g 173 88) := ⟨_, rfl⟩
  have f1 : kfp (fun l i => l = 173 ∧ i = 90) g g1 := by rw [eg1]; exact kfp.rf.sI _ (by omega)
  have I : ∀ l i, ¬ (l = 173 ∧ i = 90) → kI g1 l i = kI g l i := fun l i x => f1.2.2.1 _ _ x
  have qd1 : Qd h g1 n L [] T k a 0 s := ⟨q1.fp f1 fun l i z => by omega, (I _ _ (by omega)).trans q2, ⟨(I _ _ (by omega)).trans q3, fun i hi => (I _ _ (by omega)).trans (q4 i hi)⟩, ⟨(I _ _ (by omega)).trans q5, q6.same fun i _ => I _ _ (by omega)⟩, ⟨(I _ _ (by omega)).trans q7, q8, q9⟩, by rw [eg1, kI_sI, if_pos ⟨rfl, rfl⟩]; exact q5, q11⟩
  obtain ⟨F, hF⟩ : ∃ F, F = smm (tyN h) n (lvP (tyN h) n L k) s := ⟨_, rfl⟩
  have hF' : F = pbd (lvP (tyN h) n L k s) ((dn (tyN h) n L []).1 k) := by
    rw [hF, smm_eq]
    congr 1
    funext s1
    show _ = pbd (plp (tyN h) n L k s1) fun s2 => pbd (slp (tyN h) n L k s2) .inr
    congr 1
    funext s2
    exact (pbd_id _).symm
  rw [← hF]
  obtain ⟨g2, e2, f2, hh⟩ := m_sumsLoop (kI g 173 90) ht n16 hT qd1 F hF'
  have F1 : kfp Wq2 g g1 := f1.wide fun l i z => by unfold Wq2; omega
  unfold f_X12_qSums
  rw [if_pos kk173, kl_e, kl_e, ← eg1, e2, kb_s]
  unfold f_X12_qSums_b78
  rcases hh with ⟨e, he, qe⟩ | ⟨w', k', a', s', q', wf', rk', br', hF2⟩
  · have st : f_X12_qSums_l53 173 (kI g 173 90) g2 = some (.inr g2) := by
      unfold f_X12_qSums_l53
      rw [if_pos kk173, if_neg qe.1.bad]
    have lp := kloop_for (body := f_X12_qSums_l53 173 (kI g 173 90)) (fun _ => g2) 0 g2 (by omega) (fun k hk => absurd hk (Nat.not_lt_zero _)) st
    have lp' : kloop (f_X12_qSums_l53 173 (kI g 173 90)) KF g2 = some g2 := lp
    rw [lp', kb_s, if_pos kk173, kl_e]
    have f3 : kfp (fun l i => l = 173 ∧ i = 90) g2 (ksI g2 173 90 (kI g 173 90)) := kfp.rf.sI _ (by omega)
    obtain ⟨m, hm, em⟩ := qe.2
    exact ⟨_, rfl, (F1.tr f2).tr (f3.wide fun l i z => by unfold Wq2; omega), Or.inl ⟨e, he, qe.1.fp f3 fun l i z => by omega, m, hm, (f3.2.2.1 _ _ (by omega)).trans em⟩⟩
  · obtain ⟨g3, e3, f3, q3'⟩ := m_sumsDrop (kI g 173 90) n16 q' wf' rk' br'
    rw [e3, kb_s, if_pos kk173, kl_e]
    obtain ⟨r1, r2, ⟨r3, r4⟩, ⟨r5, r6⟩, ⟨r7, r8, r9⟩, r10, r11⟩ := q3'
    have kk : k' = k := by
      have r9' : cnO T + k' = 6 := r9
      omega
    obtain ⟨g4, eg4⟩ : ∃ g4, g4 = ksI g3 173 90 (kI g 173 90) := ⟨_, rfl⟩
    rw [← eg4]
    have f4 : kfp (fun l i => l = 173 ∧ i = 90) g3 g4 := by rw [eg4]; exact kfp.rf.sI _ (by omega)
    have J : ∀ l i, ¬ (l = 173 ∧ i = 90) → kI g4 l i = kI g3 l i := fun l i x => f4.2.2.1 _ _ x
    refine ⟨g4, rfl, ((F1.tr f2).tr f3).tr (f4.wide fun l i z => by unfold Wq2; omega), Or.inr ⟨_, a', hF2, ?_⟩⟩
    unfold Qd
    rw [tn]
    exact ⟨r1.fp f4 fun l i z => by omega, (J _ _ (by omega)).trans r2, ⟨(J _ _ (by omega)).trans r3, fun i hi => (J _ _ (by omega)).trans (r4 i hi)⟩, ⟨(J _ _ (by omega)).trans r5, r6.same fun i _ => J _ _ (by omega)⟩, ⟨by rw [← kk]; exact (J _ _ (by omega)).trans r7, q8, q9⟩, by rw [eg4, kI_sI, if_pos ⟨rfl, rfl⟩]; exact q10, r11⟩
