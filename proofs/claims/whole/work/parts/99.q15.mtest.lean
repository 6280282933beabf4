/-! the model reads a TEST -/
theorem wI_sg {b : Nat → Nat} {n : Nat} {s : PS} (t : tkT b n s.1 s.2.1 = 4) : wI b n s = 27 := by
  by_cases y : wI b n s = 27
  · exact y
  · have := wI_t y
    omega
theorem m_testClose {h g : KH} {n : Nat} {L : Bool} {w : List Nat} {k : Nat} {s : PS} (n16 : n ≤ 1600) (q : Qd h g n L w [] k (blE (tyN h) n s.1) 0 s) (i : IT w) (y : tkT (tyN h) n s.1 s.2.1 = 4 ∧ tkV (tyN h) n s.1 = 93) (i25 : 25 ∈ w) (body : KH → Option (KH ⊕ KH)) (hbody : body = fun x => kl (ksI x 173 2 (kI x 173 2 + (1 : Int32))) fun h12 => kb (kloop (f_X12_qGoesOnTest_l33 173) KF h12) fun e15 => kl (ksI e15 173 88 (kI e15 173 88 - (1 : Int32))) fun h18 => kl (ksI h18 173 89 (kI h18 173 89 - (1 : Int32))) fun h21 => kb (f_X12_qDropsNots h21 173) fun r24 => some (.inl r24)) : ∃ g' w' k' a' s', body g = some (.inl g') ∧ kfp Wq2 g g' ∧ Qd h g' n L w' [] k' a' 0 s' ∧ IT w' ∧ (dt (tyN h) n L w).1 k s = (dt (tyN h) n L w').1 k' s' ∧ s.1 < s'.1 := by
  have len := q.len
  have pos := nxt_pos (tyN h) len.2 (by rw [y.1]; omega)
  have w27 := wI_sg y.1
  obtain ⟨u1, u2, u3⟩ := m_takenS n16 q.1 y
  obtain ⟨g1, eg1⟩ : ∃ g1, g1 = ksI g 173 2 (Int32.ofNat (tkE (tyN h) n s.1)) := ⟨_, rfl⟩
  rw [← eg1] at u1 u2 u3
  have q1 := q.mv u2 u3 rfl (e' := 0) (by omega)
  obtain ⟨g2, e2, f2, q2⟩ := m_dropSq n16 q1 i i25
  rw [tB_nx] at q2
  dsimp only at q2
  obtain ⟨a1, a2, a4⟩ := tB_wf (s := s) i.1 i.2
  obtain ⟨p1, p2⟩ := tB_1 w s
  rcases tB_top s i.1 i.2 with ⟨c0, -⟩ | ⟨-, w2, c1⟩
  · exact absurd i25 c0
  · have D := T_drop (tyN h) n L w k s i.2 (by omega) (by omega)
    obtain ⟨S, hS⟩ : ∃ S, (tB w s).2 = S := ⟨_, rfl⟩
    rw [c1, hS] at q2 D
    rw [hS] at p1 p2
    rw [c1] at a1
    have yS : tkT (tyN h) n S.1 S.2.1 = 4 ∧ tkV (tyN h) n S.1 = 93 := by rw [p1, p2]; exact y
    have n1 : (nxt (tyN h) n S).1 = (nxt (tyN h) n s).1 := by
      show tkE (tyN h) n S.1 = tkE (tyN h) n s.1
      rw [p1]
    obtain ⟨g3, eg3, f3, q3, -⟩ := q_pop (e' := 0) n16 q2 (by omega) (by omega) (by omega)
    obtain ⟨g4, w4, k4, s4, e4, f4, q4, wf4, rk4, d4, p4, -⟩ := m_qDropsNots n16 q3 a1.1
    refine ⟨g4, w4, k4, _, s4, ?_, ((u2.wide fun l i z => Or.inl z).tr f2).tr (f3.tr f4), q4, ⟨wf4, rk4⟩, ?_, by omega⟩
    · rw [hbody]
      dsimp only
      rw [u1, kl_e, e2, kb_s, kl_e, kl_e, ← eg3, e4, kb_s]
    · rw [D, ← d4]
      show pbd (wS (tyN h) n 93 S) ((dt (tyN h) n L w2).1 (k + 1)) = _
      rw [wS_y yS, pbd_r]
theorem m_testLoop {h g : KH} {n : Nat} {L : Bool} {w : List Nat} {k a : Nat} {s : PS} (ht : Rtape h) (n16 : n ≤ 1600) (q : Qd h g n L w [] k a 0 s) (i : IT w) (F : PR) (hF : F = (dt (tyN h) n L w).1 k s) : ∃ g', kloop (f_X12_qGoesOnTest_l0 173) KF g = some g' ∧ kfp Wq2 g g' ∧ ∃ w' k' s', Qd h g' n L w' [] k' (blE (tyN h) n s'.1) 0 s' ∧ IT w' ∧ F = (dt (tyN h) n L w').1 k' s' ∧ s.1 ≤ s'.1 ∧ ¬ ((tkT (tyN h) n s'.1 s'.2.1 = 4 ∧ tkV (tyN h) n s'.1 = 93) ∧ 25 ∈ w') := by
  have sg93 : isSg 93 := ⟨by omega, rfl, rfl⟩
  refine kloop_KF (body := f_X12_qGoesOnTest_l0 173) (fun m x => kfp Wq2 g x ∧ ∃ w' k' a' s', Qd h x n L w' [] k' a' 0 s' ∧ IT w' ∧ F = (dt (tyN h) n L w').1 k' s' ∧ s.1 ≤ s'.1 ∧ m = n - s'.1) (fun g' => kfp Wq2 g g' ∧ ∃ w' k' s', Qd h g' n L w' [] k' (blE (tyN h) n s'.1) 0 s' ∧ IT w' ∧ F = (dt (tyN h) n L w').1 k' s' ∧ s.1 ≤ s'.1 ∧ ¬ ((tkT (tyN h) n s'.1 s'.2.1 = 4 ∧ tkV (tyN h) n s'.1 = 93) ∧ 25 ∈ w')) (fun m x hP => ?_) (n := n - s.1) (by omega) ⟨kfp.rf, w, k, a, s, q, i, hF, Nat.le_refl _, rfl⟩
  obtain ⟨fx, w', k', a', s', q', i', hF', hs', hm⟩ := hP
  obtain ⟨x1, e1, fx1, m1⟩ := m_look0 ht n16 q'.1
  have q1 : Qd h x1 n L w' [] k' (blE (tyN h) n s'.1) 0 s' := q'.mv fx1 m1 rfl (Nat.le_refl _)
  have sg := lkI_sg s'.2.1 (Md.byte ht n16 m1) sg93
  have sg' : lkI (tyN h) n s'.1 = (93 : Int32) ↔ tkT (tyN h) n s'.1 s'.2.1 = 4 ∧ tkV (tyN h) n s'.1 = 93 := sg
  have F1 : kfp Wq2 g x1 := fx.tr (fx1.wide fun l i z => Or.inl z)
  have br := m_qHasSquare n16 q1
  have len := q'.len
  unfold f_X12_qGoesOnTest_l0
  rw [if_pos kk173, q'.1.2.2.1, if_pos rfl, e1, kb_s]
  dsimp only
  by_cases y : tkT (tyN h) n s'.1 s'.2.1 = 4 ∧ tkV (tyN h) n s'.1 = 93
  · rw [if_pos (sg'.mpr y), br, kb_s]
    by_cases z : 25 ∈ w'
    · obtain ⟨g', w4, k4, a4, s4, e4, f4, q4, i4, d4, p4⟩ := m_testClose n16 q1 i' y z _ rfl
      have q4l := q4.len
      rw [if_pos z, if_neg (by decide)]
      exact Or.inr ⟨n - s4.1, g', by omega, e4, F1.tr f4, w4, k4, a4, s4, q4, i4, hF'.trans d4, by omega, rfl⟩
    · rw [if_neg z, if_pos rfl]
      exact Or.inl ⟨x1, rfl, F1, w', k', s', q1, i', hF', hs', fun u => z u.2⟩
  · rw [if_neg (fun z => y (sg'.mp z))]
    exact Or.inl ⟨x1, rfl, F1, w', k', s', q1, i', hF', hs', fun u => y u.1⟩
def GoT (h : KH) (n : Nat) (L : Bool) (F : PR) (p : Nat) (r : Int32) (g' : KH) : Prop := (∃ e, F = .inl e ∧ r = 0 ∧ Qe h g' n 1602 e) ∨ (r = 1 ∧ ∃ w' k' a' s', Qd h g' n L w' [] k' a' 0 s' ∧ wfT w' ∧ F = pbd (lvF (tyN h) n L k' s') ((dt (tyN h) n L w').1 k') ∧ p ≤ s'.1) ∨ (r = 0 ∧ ∃ w' k' a' s', Qd h g' n L w' [] k' a' 0 s' ∧ IT w' ∧ ¬ 25 ∈ w' ∧ F = .inr (tB w' s').2 ∧ p ≤ s'.1)
theorem m_goesT {h g : KH} {n : Nat} {L : Bool} {w : List Nat} {k a : Nat} {s : PS} (ht : Rtape h) (n16 : n ≤ 1600) (q : Qd h g n L w [] k a 0 s) (i : IT w) (F : PR) (hF : F = (dt (tyN h) n L w).1 k s) : ∃ r g', f_X12_qGoesOnTest g 173 = some (r, g') ∧ kfp Wq2 g g' ∧ GoT h n L F s.1 r g' := by
  obtain ⟨g1, e1, f1, w1, k1, s1, q1, i1, hF1, hs1, hno⟩ := m_testLoop ht n16 q i F hF
  unfold f_X12_qGoesOnTest
  rw [e1, kb_s]
  have len := q1.len
  have rg := q1.kR
  have wand : Wd g1 225 17 := q1.1.1.2.2.2.w2 (q := 7) (by omega)
  unfold f_X12_qGoesOnTest_b76
  obtain ⟨g2, e2, f2, t2, n2⟩ := m_takes ht n16 wand q1.1
  rw [if_pos kk173, rf173_71 rg, if_pos (show 225 < 999999 by omega), e2, kb_s]
  by_cases y17 : wI (tyN h) n s1 = 17
  · simp only [if_pos y17]
    rw [if_neg (by decide)]
    have tw := wI_t (b := tyN h) (n := n) (s := s1) (by omega)
    have pos := nxt_pos (tyN h) len.2 (by rw [tw]; omega)
    have q2 := q1.mv f2 (t2 y17) rfl (e' := 0) (by omega)
    obtain ⟨g3, e3, f3, q3⟩ := m_dropAnd n16 q2 i1
    rw [tM_nx] at q3
    dsimp only at q3
    obtain ⟨⟨b1, b2, b3⟩, g4, eg4, f4, q4⟩ := q_push (x := 10) n16 q3 (by omega) (by omega)
    obtain ⟨d1, d2, d4⟩ := tM_wf (s := s1) i1.1 i1.2
    have p1 := (tM_1 w1 s1).1
    have n1 : (nxt (tyN h) n (tM w1 s1).2).1 = (nxt (tyN h) n s1).1 := by
      show tkE (tyN h) n (tM w1 s1).2.1 = tkE (tyN h) n s1.1
      rw [p1]
    have q5 := q4.tight (e' := 0) (by
      show (tM w1 s1).2.2.2.length + (10 :: (tM w1 s1).1 ++ []).length ≤ (nxt (tyN h) n (tM w1 s1).2).1 + 0
      have l1 := len.1
      simp only [List.length_append, List.length_cons, List.length_nil] at l1 ⊢
      omega)
    have eg4' : g4 = ksI (ksI g3 240 (kI g3 173 88).toNatClampNeg (10 : Int32)) 173 88 (kI (ksI g3 240 (kI g3 173 88).toNatClampNeg (10 : Int32)) 173 88 + (1 : Int32)) := eg4
    rw [e3, kb_s, b1, if_pos (show 240 < 999999 by omega), if_pos kk240, if_neg b3, kl_e, kl_e, ← eg4']
    refine ⟨1, g4, rfl, (f1.tr (f2.wide fun l i z => Or.inl z)).tr (f3.tr f4), Or.inr (Or.inl ⟨rfl, _, _, _, _, q5, ⟨d1, Or.inr (Or.inl ⟨rfl, d2⟩)⟩, ?_, by omega⟩)⟩
    rw [hF1]
    exact T_and (tyN h) n L w1 k1 s1 i1.2 len.2 n16 y17
  · simp only [if_neg y17]
    rw [if_pos True.intro]
    have q2 := q1.mv f2 (n2 y17) rfl (Nat.le_refl _)
    have rg2 := q2.kR
    have wor : Wd g2 226 16 := q2.1.1.2.2.2.w2 (q := 8) (by omega)
    obtain ⟨g3, e3, f3, t3, n3⟩ := m_takes ht n16 wor q2.1
    rw [rf173_72 rg2, if_pos (show 226 < 999999 by omega), e3, kb_s]
    have F3 : kfp Wq2 g g3 := (f1.tr (f2.wide fun l i z => Or.inl z)).tr (f3.wide fun l i z => Or.inl z)
    by_cases y16 : wI (tyN h) n s1 = 16
    · simp only [if_pos y16]
      rw [if_neg (by decide)]
      have tw := wI_t (b := tyN h) (n := n) (s := s1) (by omega)
      have pos := nxt_pos (tyN h) len.2 (by rw [tw]; omega)
      have q3 := q2.mv f3 (t3 y16) rfl (e' := 0) (by omega)
      obtain ⟨g4, e4, f4, q4⟩ := m_dropOr n16 q3 i1
      rw [tB_nx] at q4
      dsimp only at q4
      obtain ⟨⟨b1, b2, b3⟩, g5, eg5, f5, q5⟩ := q_push (x := 11) n16 q4 (by omega) (by omega)
      obtain ⟨d1, d2, d4⟩ := tB_wf (s := s1) i1.1 i1.2
      have p1 := (tB_1 w1 s1).1
      have n1 : (nxt (tyN h) n (tB w1 s1).2).1 = (nxt (tyN h) n s1).1 := by
        show tkE (tyN h) n (tB w1 s1).2.1 = tkE (tyN h) n s1.1
        rw [p1]
      have q6 := q5.tight (e' := 0) (by
        show (tB w1 s1).2.2.2.length + (11 :: (tB w1 s1).1 ++ []).length ≤ (nxt (tyN h) n (tB w1 s1).2).1 + 0
        have l1 := len.1
        simp only [List.length_append, List.length_cons, List.length_nil] at l1 ⊢
        omega)
      have eg5' : g5 = ksI (ksI g4 240 (kI g4 173 88).toNatClampNeg (11 : Int32)) 173 88 (kI (ksI g4 240 (kI g4 173 88).toNatClampNeg (11 : Int32)) 173 88 + (1 : Int32)) := eg5
      rw [e4, kb_s, b1, if_pos (show 240 < 999999 by omega), if_pos kk240, if_neg b3, kl_e, kl_e, ← eg5']
      refine ⟨1, g5, rfl, F3.tr (f4.tr f5), Or.inr (Or.inl ⟨rfl, _, _, _, _, q6, ⟨d1, Or.inr (Or.inr (Or.inl ⟨rfl, d2⟩))⟩, ?_, by omega⟩)⟩
      rw [hF1]
      exact T_or (tyN h) n L w1 k1 s1 i1.2 len.2 n16 y16
    · simp only [if_neg y16]
      rw [if_pos True.intro]
      have m3 := n3 y16
      have q3 := q2.mv f3 m3 rfl (Nat.le_refl _)
      have br := m_qHasSquare n16 q3
      have D := T_drop (tyN h) n L w1 k1 s1 i1.2 y17 y16
      obtain ⟨p1, p2⟩ := tB_1 w1 s1
      rw [m3.2.2.1, if_pos rfl, br, kb_s]
      rcases tB_top s1 i1.1 i1.2 with ⟨c0, c1⟩ | ⟨c0, w2, c2⟩
      · rw [if_neg c0, if_pos rfl]
        rw [c1] at D
        exact ⟨0, g3, rfl, F3, Or.inr (Or.inr ⟨rfl, w1, k1, _, s1, q3, i1, c0, hF1.trans D, hs1⟩)⟩
      · rw [if_pos c0, if_neg (by decide)]
        rw [c2] at D
        obtain ⟨g6, e6, f6, m6⟩ := m_failS (k := 1) m3 (by omega) (by omega)
        have e6' : f_X12_fail g3 173 (1 : Int32) (kI g3 173 2) = some g6 := e6
        have m6' : Md h g6 n 0 (.inl (1, blE (tyN h) n s1.1)) := m6
        have y93 : ¬ (tkT (tyN h) n (tB w1 s1).2.1 (tB w1 s1).2.2.1 = 4 ∧ tkV (tyN h) n (tB w1 s1).2.1 = 93) := by
          rw [p1, p2]
          exact fun z => hno ⟨z, c0⟩
        rw [e6', kb_s]
        refine ⟨0, g6, rfl, F3.tr (f6.wide fun l i z => Or.inl z), Or.inl ⟨(1, blE (tyN h) n s1.1), ?_, rfl, q3.bad n16 f6 m6' (by omega) (by omega)⟩⟩
        rw [hF1, D]
        show pbd (wS (tyN h) n 93 (tB w1 s1).2) ((dt (tyN h) n L w2).1 (k1 + 1)) = _
        rw [wS_n y93]
        unfold pft
        rw [p1]
        rfl
