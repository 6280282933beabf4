/-! the model's SUM is the document's -/
def GoR (h : KH) (n : Nat) (L : Bool) (B : List Nat) (F : PR) (p : Nat) (r : Int32) (g' : KH) : Prop := (∃ e, F = .inl e ∧ r = 0 ∧ Qe h g' n 1601 e) ∨ (r = 1 ∧ ∃ w' k' a' s', Qd h g' n L w' B k' a' 0 s' ∧ wfS w' ∧ F = pbd (lvP (tyN h) n L k' s') ((dn (tyN h) n L w').1 k') ∧ p ≤ s'.1) ∨ (r = 0 ∧ ∃ w' k' a' s', Qd h g' n L w' B k' a' 0 s' ∧ wfS w' ∧ rkN w' ≤ 2 ∧ brN w' = 0 ∧ F = .inr (dB w' s').2 ∧ p ≤ s'.1)
theorem m_pushM {h g : KH} {n x : Nat} {L : Bool} {w B : List Nat} {k a : Nat} {s : PS} (n16 : n ≤ 1600) (hB : okB B) (hx : x < 12) (q : Qd h g n L w B k a 0 s) (wf : wfS w) (rk : rkN w ≤ 2) : ∃ g', f_X12_qGoesOn_b161 g 173 (Int32.ofNat x) = some (1, g') ∧ kfp Wq2 g g' ∧ Qd h g' n L (x :: (dM w s).1) B k a 1 (dM w s).2 := by
  obtain ⟨g1, e1, f1, q1⟩ := m_dropM n16 (by omega) hB (Int32.ofNat x) q wf rk
  have rg1 := q1.kR
  obtain ⟨⟨p1, p2, p3⟩, g2, eg2, f2, q2⟩ := q_push (x := x) n16 q1 (by omega) hx
  unfold f_X12_qGoesOn_b161
  rw [e1, kb_s, if_pos kk173, rf173_87 rg1, if_pos (show 240 < 999999 by omega), if_pos kk240, if_neg p3, kl_e, kl_e, ← eg2]
  exact ⟨g2, rfl, f1.tr f2, q2⟩
theorem m_pushA {h g : KH} {n x : Nat} {L : Bool} {w B : List Nat} {k a : Nat} {s : PS} (n16 : n ≤ 1600) (hB : okB B) (hx : x < 12) (q : Qd h g n L w B k a 0 s) (wf : wfS w) (rk : rkN w ≤ 2) : ∃ g', f_X12_qGoesOn_b246 g 173 (Int32.ofNat x) = some (1, g') ∧ kfp Wq2 g g' ∧ Qd h g' n L (x :: (dB w s).1) B k a 1 (dB w s).2 := by
  obtain ⟨g1, e1, f1, q1⟩ := m_dropA n16 (by omega) hB (Int32.ofNat x) q wf rk
  have rg1 := q1.kR
  obtain ⟨⟨p1, p2, p3⟩, g2, eg2, f2, q2⟩ := q_push (x := x) n16 q1 (by omega) hx
  unfold f_X12_qGoesOn_b246
  rw [e1, kb_s, if_pos kk173, rf173_87 rg1, if_pos (show 240 < 999999 by omega), if_pos kk240, if_neg p3, kl_e, kl_e, ← eg2]
  exact ⟨g2, rfl, f1.tr f2, q2⟩
/-- the sign passed last -/
theorem m_sgn {h g : KH} {n : Nat} {s : PS} (ht : Rtape h) (n16 : n ≤ 1600) (m : Md h g n (tkE (tyN h) n s.1) (.inr (nxt (tyN h) n s))) (t : tkT (tyN h) n s.1 s.2.1 = 4) : ¬ ((kI g 173 2 - (1 : Int32)) < 0 ∨ 1600 ≤ (kI g 173 2 - (1 : Int32)).toNatClampNeg) ∧ kI g 174 (kI g 173 2 - (1 : Int32)).toNatClampNeg = Int32.ofNat (tkV (tyN h) n s.1) := by
  have eat : kI g 173 2 = Int32.ofNat (tkE (tyN h) n s.1) := m.2.2.2.2.2.2.1
  obtain ⟨e1, e2⟩ := tkE_s t
  obtain ⟨v1, v2⟩ := tkV_s t
  rw [eat, e1, n32_subl (by omega), show blE (tyN h) n s.1 + 1 - 1 = blE (tyN h) n s.1 by omega, n32_cl (by omega), v1]
  exact ⟨fun z => z.elim (n32_nn (by omega)) (by omega), (m_byte ht m.1 (by omega)).1⟩
theorem q_top2 {h g : KH} {n x : Nat} {L : Bool} {w B : List Nat} {k a e : Nat} {s : PS} (n16 : n ≤ 1600) (q : Qd h g n L (x :: w) B k a e s) (he : e ≤ 1) (hx : x = 21 ∨ x = 22) : ¬ ((kI g 173 88 - (1 : Int32)) < 0 ∨ 1700 ≤ (kI g 173 88 - (1 : Int32)).toNatClampNeg) ∧ ∃ g', g' = ksI g 240 (kI g 173 88 - (1 : Int32)).toNatClampNeg (kI g 240 (kI g 173 88 - (1 : Int32)).toNatClampNeg + (2 : Int32)) ∧ kfp Wq2 g g' ∧ Qd h g' n L ((x + 2) :: w) B k a e s := by
  have l := q.len
  obtain ⟨t1, t2, t3, t4⟩ := q.top n16 (by omega) (T := w ++ B) rfl
  obtain ⟨q1, q2, ⟨q3, q4⟩, ⟨q5, q6⟩, ⟨q7, q8, q9⟩, q10, q11⟩ := id q
  have cn9 : cnO (w ++ B) + (if 12 ≤ x then 1 else 0) + k = 6 := q9
  rw [if_pos (by omega)] at cn9
  rw [t1, n32_subl (by omega), show (w ++ B).length + 1 - 1 = (w ++ B).length by omega, n32_cl (by omega), t2, show Int32.ofNat x + (2 : Int32) = Int32.ofNat (x + 2) from n32_add x 2]
  obtain ⟨g', eg⟩ : ∃ g', g' = ksI g 240 (w ++ B).length (Int32.ofNat (x + 2)) := ⟨_, rfl⟩
  have f : kfp (fun l i => l = 240 ∧ i = (w ++ B).length) g g' := by rw [eg]; exact kfp.rf.sI _ (by omega)
  have I : ∀ l i, l ≠ 240 → kI g' l i = kI g l i := fun l i x => f.2.2.1 _ _ (by omega)
  refine ⟨fun z => z.elim (n32_nn (by omega)) (by omega), g', eg, f.wide fun l i z => by unfold Wq2; omega, q1.fp f fun l i z => by omega, (I _ _ (by omega)).trans q2, ⟨(I _ _ (by omega)).trans q3, fun i hi => (I _ _ (by omega)).trans (q4 i hi)⟩, ⟨(I _ _ (by omega)).trans q5, ?_, by omega, q6.2.2.same fun i hi => f.2.2.1 _ _ (by have hi' : i < (w ++ B).length := hi; omega)⟩, ⟨(I _ _ (by omega)).trans q7, q8, ?_⟩, (I _ _ (by omega)).trans q10, q11⟩
  · rw [eg, kI_sI, if_pos ⟨rfl, rfl⟩]
  · show cnO (w ++ B) + (if 12 ≤ x + 2 then 1 else 0) + k = 6
    rw [if_pos (by omega)]
    exact cn9
theorem m_goes {h g : KH} {n : Nat} {L : Bool} {w B : List Nat} {k a : Nat} {s : PS} (ht : Rtape h) (n16 : n ≤ 1600) (hB : okB B) (q : Qd h g n L w B k a 0 s) (wf : wfS w) (rk : rkN w ≤ 2) (F : PR) (hF : F = (dn (tyN h) n L w).1 k s) : ∃ r g', f_X12_qGoesOn g 173 = some (r, g') ∧ kfp Wq2 g g' ∧ GoR h n L B F s.1 r g' := by
  obtain ⟨g1, e1, f1, w1, k1, s1, q1, wf1, rk1, hF1, hs1, hno⟩ := m_goesLoop ht n16 q wf rk F hF
  unfold f_X12_qGoesOn
  rw [e1, kb_s]
  have len := q1.len
  have sg : ∀ c, (c = 42 ∨ c = 47 ∨ c = 43 ∨ c = 45 ∨ c = 44) → isSg c := fun c hc => by
    rcases hc with rfl | rfl | rfl | rfl | rfl <;> exact ⟨by omega, rfl, rfl⟩
  -- a product goes on
  have mul : ∀ x c g2, ((x = 3 ∧ c = 42) ∨ (x = 4 ∧ c = 47)) → (tkT (tyN h) n s1.1 s1.2.1 = 4 ∧ tkV (tyN h) n s1.1 = c) → kfp Wmp g1 g2 → Md h g2 n (tkE (tyN h) n s1.1) (.inr (nxt (tyN h) n s1)) → ∃ r g', f_X12_qGoesOn_b140 g2 173 = some (r, g') ∧ kfp Wq2 g g' ∧ GoR h n L B F s.1 r g' := fun x c g2 hx y f2 m2 => by
    have pos := nxt_pos (tyN h) len.2 (by rw [y.1]; omega)
    have q2 := q1.mv f2 m2 rfl (e' := 0) (by omega)
    obtain ⟨b1, b2⟩ := m_sgn ht n16 m2 y.1
    have rg2 := q2.kR
    obtain ⟨g3, e3, f3, q3⟩ := m_pushM (x := x) n16 hB (by omega) q2 wf1 rk1
    rw [dM_nx] at q3
    dsimp only at q3
    obtain ⟨d1, d2, d3, d4⟩ := dM_wf (s := s1) wf1 rk1
    obtain ⟨p1, p2⟩ := dM_1 w1 s1
    have ox : opP (tyN h) n s1 = x := by
      unfold opP
      rcases hx with ⟨rfl, rfl⟩ | ⟨rfl, rfl⟩
      · rw [if_pos y]
      · rw [if_neg (by omega), if_pos y]
    have eF := P_mul (tyN h) n L w1 k1 s1 rk1 len.2 n16 (by omega)
    rw [ox] at eF
    have n1 : (nxt (tyN h) n (dM w1 s1).2).1 = (nxt (tyN h) n s1).1 := by
      show tkE (tyN h) n (dM w1 s1).2.1 = tkE (tyN h) n s1.1
      rw [p1]
    have q4 := q3.tight (e' := 0) (by
      show (dM w1 s1).2.2.2.length + (x :: (dM w1 s1).1 ++ B).length ≤ (nxt (tyN h) n (dM w1 s1).2).1 + 0
      have l1 := len.1
      simp only [List.length_append, List.length_cons] at l1 ⊢
      omega)
    refine ⟨1, g3, ?_, (f1.tr (f2.wide fun l i z => Or.inl z)).tr f3, Or.inr (Or.inl ⟨rfl, _, _, _, _, q4, ⟨d1, Or.inr (Or.inl ⟨by omega, d2⟩)⟩, hF1.trans eF, by omega⟩)⟩
    unfold f_X12_qGoesOn_b140
    rw [if_pos kk173, rf173_0 rg2, if_pos (show 174 < 999999 by omega), if_pos kk174, kn174, if_neg b1, b2, y.2]
    rcases hx with ⟨rfl, rfl⟩ | ⟨rfl, rfl⟩
    · rw [if_pos (show Int32.ofNat 42 = (42 : Int32) from rfl)]
      exact e3
    · rw [if_neg (by decide)]
      exact e3
  -- a sum goes on
  have add : ∀ x c g2, ((x = 1 ∧ c = 43) ∨ (x = 2 ∧ c = 45)) → (tkT (tyN h) n s1.1 s1.2.1 = 4 ∧ tkV (tyN h) n s1.1 = c) → kfp Wmp g1 g2 → Md h g2 n (tkE (tyN h) n s1.1) (.inr (nxt (tyN h) n s1)) → ∃ r g', f_X12_qGoesOn_b225 g2 173 = some (r, g') ∧ kfp Wq2 g g' ∧ GoR h n L B F s.1 r g' := fun x c g2 hx y f2 m2 => by
    have pos := nxt_pos (tyN h) len.2 (by rw [y.1]; omega)
    have q2 := q1.mv f2 m2 rfl (e' := 0) (by omega)
    obtain ⟨b1, b2⟩ := m_sgn ht n16 m2 y.1
    have rg2 := q2.kR
    obtain ⟨g3, e3, f3, q3⟩ := m_pushA (x := x) n16 hB (by omega) q2 wf1 rk1
    rw [dB_nx] at q3
    dsimp only at q3
    obtain ⟨d1, d2, d3, d4⟩ := dB_wf (s := s1) wf1 rk1
    obtain ⟨p1, p2⟩ := dB_1 w1 s1
    obtain ⟨o1, o2⟩ := dM_1 w1 s1
    have ox : opA (tyN h) n (dM w1 s1).2 = x := by
      unfold opA
      rw [o1, o2]
      rcases hx with ⟨rfl, rfl⟩ | ⟨rfl, rfl⟩
      · rw [if_pos y]
      · rw [if_neg (by omega), if_pos y]
    have eF := (P_drop (tyN h) n L w1 k1 s1 rk1 (opP_0 (by omega) (by omega))).trans (Q_add (tyN h) n L (dM w1 s1).1 k1 (dM w1 s1).2 (by rw [o1]; exact len.2) n16 (by omega))
    rw [ox] at eF
    have n1 : (nxt (tyN h) n (dB w1 s1).2).1 = (nxt (tyN h) n s1).1 := by
      show tkE (tyN h) n (dB w1 s1).2.1 = tkE (tyN h) n s1.1
      rw [p1]
    have q4 := q3.tight (e' := 0) (by
      show (dB w1 s1).2.2.2.length + (x :: (dB w1 s1).1 ++ B).length ≤ (nxt (tyN h) n (dB w1 s1).2).1 + 0
      have l1 := len.1
      simp only [List.length_append, List.length_cons] at l1 ⊢
      omega)
    refine ⟨1, g3, ?_, (f1.tr (f2.wide fun l i z => Or.inl z)).tr f3, Or.inr (Or.inl ⟨rfl, _, _, _, _, q4, ⟨d1, Or.inr (Or.inr (Or.inl ⟨by omega, d2⟩))⟩, hF1.trans eF, by omega⟩)⟩
    unfold f_X12_qGoesOn_b225
    rw [if_pos kk173, rf173_0 rg2, if_pos (show 174 < 999999 by omega), if_pos kk174, kn174, if_neg b1, b2, y.2]
    rcases hx with ⟨rfl, rfl⟩ | ⟨rfl, rfl⟩
    · rw [if_pos (show Int32.ofNat 43 = (43 : Int32) from rfl)]
      exact e3
    · rw [if_neg (by decide)]
      exact e3
  unfold f_X12_qGoesOn_b122
  obtain ⟨g2, e2, f2, t2, n2⟩ := m_takesSign (c := 42) ht n16 (sg _ (by omega)) q1.1
  have e2' : f_X12_takesSign g1 173 (42 : Int32) = some (if tkT (tyN h) n s1.1 s1.2.1 = 4 ∧ tkV (tyN h) n s1.1 = 42 then 1 else 0, g2) := e2
  rw [if_pos kk173, e2', kb_s]
  by_cases y42 : tkT (tyN h) n s1.1 s1.2.1 = 4 ∧ tkV (tyN h) n s1.1 = 42
  · simp only [if_pos y42]
    rw [if_neg (by decide)]
    exact mul 3 42 g2 (Or.inl ⟨rfl, rfl⟩) y42 f2 (t2 y42)
  · simp only [if_neg y42]
    rw [if_pos True.intro]
    obtain ⟨g3, e3, f3, t3, n3⟩ := m_takesSign (c := 47) ht n16 (sg _ (by omega)) (n2 y42)
    have e3' : f_X12_takesSign g2 173 (47 : Int32) = some (if tkT (tyN h) n s1.1 s1.2.1 = 4 ∧ tkV (tyN h) n s1.1 = 47 then 1 else 0, g3) := e3
    have F3 := f2.tr f3
    rw [e3', kb_s]
    by_cases y47 : tkT (tyN h) n s1.1 s1.2.1 = 4 ∧ tkV (tyN h) n s1.1 = 47
    · simp only [if_pos y47]
      rw [if_neg (by decide)]
      exact mul 4 47 g3 (Or.inr ⟨rfl, rfl⟩) y47 F3 (t3 y47)
    · simp only [if_neg y47]
      rw [if_pos True.intro]
      obtain ⟨g4, e4, f4, t4, n4⟩ := m_takesSign (c := 43) ht n16 (sg _ (by omega)) (n3 y47)
      have e4' : f_X12_takesSign g3 173 (43 : Int32) = some (if tkT (tyN h) n s1.1 s1.2.1 = 4 ∧ tkV (tyN h) n s1.1 = 43 then 1 else 0, g4) := e4
      have F4 := F3.tr f4
      rw [e4', kb_s]
      by_cases y43 : tkT (tyN h) n s1.1 s1.2.1 = 4 ∧ tkV (tyN h) n s1.1 = 43
      · simp only [if_pos y43]
        rw [if_neg (by decide)]
        exact add 1 43 g4 (Or.inl ⟨rfl, rfl⟩) y43 F4 (t4 y43)
      · simp only [if_neg y43]
        rw [if_pos True.intro]
        obtain ⟨g5, e5, f5, t5, n5⟩ := m_takesSign (c := 45) ht n16 (sg _ (by omega)) (n4 y43)
        have e5' : f_X12_takesSign g4 173 (45 : Int32) = some (if tkT (tyN h) n s1.1 s1.2.1 = 4 ∧ tkV (tyN h) n s1.1 = 45 then 1 else 0, g5) := e5
        have F5 := F4.tr f5
        rw [e5', kb_s]
        by_cases y45 : tkT (tyN h) n s1.1 s1.2.1 = 4 ∧ tkV (tyN h) n s1.1 = 45
        · simp only [if_pos y45]
          rw [if_neg (by decide)]
          exact add 2 45 g5 (Or.inr ⟨rfl, rfl⟩) y45 F5 (t5 y45)
        · simp only [if_neg y45]
          rw [if_pos True.intro]
          have m5 := n5 y45
          have q5 := q1.mv F5 m5 rfl (Nat.le_refl _)
          have br := m_qBracket n16 (by omega) q5
          have D := D_drop (tyN h) n L w1 k1 s1 rk1 (opP_0 y42 y47) (opA_0 y43 y45)
          obtain ⟨p1, p2⟩ := dB_1 w1 s1
          have FF : kfp Wq2 g g5 := f1.tr (F5.wide fun l i z => Or.inl z)
          have pf : ∀ kk, pft (tyN h) n kk (dB w1 s1).2 = pft (tyN h) n kk s1 := fun kk => by
            unfold pft
            rw [p1]
          rw [br, kb_s]
          rcases dB_top s1 wf1 rk1 with ⟨c0, c1⟩ | ⟨c0, c1, w2, c2⟩
          · rw [if_pos c0, if_neg (by decide), kb_s, if_neg (by decide), kb_s, if_pos rfl]
            rw [c1] at D
            exact ⟨0, g5, rfl, FF, Or.inr (Or.inr ⟨rfl, w1, k1, _, s1, q5, wf1, rk1, c0, hF1.trans D, hs1⟩)⟩
          · have cb : brN w1 < 2147483648 := by omega
            rw [if_neg (show ¬ brN w1 = 0 by omega)]
            rw [c2] at D
            -- the other half of a pair
            have cm : ∀ x c, ((x = 21 ∧ c = 5) ∨ (x = 22 ∧ c = 6)) → brN w1 = x → ∃ r g', f_X12_qGoesOn_b326 g5 173 = some (r, g') ∧ kfp Wq2 g g' ∧ GoR h n L B F s.1 r g' := fun x c hx hb => by
              rw [hb] at D c2
              have D' : (dn (tyN h) n L w1).1 k1 s1 = pbd (wS (tyN h) n 44 (dB w1 s1).2) fun s3 => pbd (smm (tyN h) n (lvP (tyN h) n L k1) s3) fun s4 => pbd (wS (tyN h) n 41 s4) fun s5 => (dn (tyN h) n L w2).1 (k1 + 1) (pem c s5) := by
                rw [D]
                show pSm (tyN h) n L x (dn (tyN h) n L w2) k1 (dB w1 s1).2 = _
                unfold pSm
                rcases hx with ⟨rfl, rfl⟩ | ⟨rfl, rfl⟩
                · rw [if_neg (by omega), if_pos rfl]
                · rw [if_neg (by omega), if_neg (by omega), if_pos rfl]
              obtain ⟨g6, a6, e6, f6, m6⟩ := m_asksSign (c := 44) (r := .inr s1) ht n16 (sg _ (by omega)) m5
              have e6' : f_X12_asksSign g5 173 (44 : Int32) = some g6 := e6
              unfold f_X12_qGoesOn_b326
              rw [if_pos kk173, e6', kb_s]
              rw [pbd_r] at m6
              by_cases y44 : tkT (tyN h) n s1.1 s1.2.1 = 4 ∧ tkV (tyN h) n s1.1 = 44
              · have pos := nxt_pos (tyN h) len.2 (by rw [y44.1]; omega)
                rw [wS_y y44] at m6
                have q6 := q5.mv f6 m6 rfl (e' := 0) (by omega)
                obtain ⟨g7, e7, f7, q7⟩ := m_qDropsToBracket n16 (by omega) q6 wf1 rk1
                rw [dB_nx, c2] at q7
                dsimp only at q7
                obtain ⟨d1, d2, d3, d4⟩ := dB_wf (s := s1) wf1 rk1
                rw [c2] at d1
                obtain ⟨b1, g8, eg8, f8, q8⟩ := q_top2 n16 q7 (by omega) (by omega)
                have rg7 := q7.kR
                rw [m6.2.2.1, if_pos rfl, e7, kb_s, rf173_87 rg7, if_pos (show 240 < 999999 by omega), if_pos kk240, kn240, if_neg b1, kl_e, ← eg8]
                have yB : tkT (tyN h) n (dB w1 s1).2.1 (dB w1 s1).2.2.1 = 4 ∧ tkV (tyN h) n (dB w1 s1).2.1 = 44 := by rw [p1, p2]; exact y44
                have n1 : (nxt (tyN h) n (dB w1 s1).2).1 = (nxt (tyN h) n s1).1 := by
                  show tkE (tyN h) n (dB w1 s1).2.1 = tkE (tyN h) n s1.1
                  rw [p1]
                refine ⟨1, g8, rfl, ((FF.tr (f6.wide fun l i z => Or.inl z)).tr f7).tr f8, Or.inr (Or.inl ⟨rfl, _, _, _, _, q8, ⟨d1.1, Or.inr (Or.inr (Or.inr (by omega)))⟩, ?_, by omega⟩)⟩
                rw [hF1, D', wS_y yB, pbd_r]
                exact dn_comma (tyN h) n L w2 k1 c (x + 2) (by omega) (nxt (tyN h) n (dB w1 s1).2)
              · rw [wS_n y44] at m6
                have m6' : Md h g6 n a6 (.inl (1, blE (tyN h) n s1.1)) := m6
                have yB : ¬ (tkT (tyN h) n (dB w1 s1).2.1 (dB w1 s1).2.2.1 = 4 ∧ tkV (tyN h) n (dB w1 s1).2.1 = 44) := by rw [p1, p2]; exact y44
                rw [if_neg m6'.bad]
                refine ⟨0, g6, rfl, FF.tr (f6.wide fun l i z => Or.inl z), Or.inl ⟨(1, blE (tyN h) n s1.1), ?_, rfl, q5.bad n16 f6 m6' (by omega) (by omega)⟩⟩
                rw [hF1, D', wS_n yB, pf]
                rfl
            by_cases z21 : brN w1 = 21
            · rw [if_pos (by rw [z21]; rfl)]
              exact cm 21 5 (Or.inl ⟨rfl, rfl⟩) z21
            · rw [if_neg (by rw [n32_eql (by omega) (by omega)]; exact z21), kb_s]
              by_cases z22 : brN w1 = 22
              · rw [if_pos (by rw [z22]; rfl)]
                exact cm 22 6 (Or.inr ⟨rfl, rfl⟩) z22
              · rw [if_neg (by rw [n32_eql (by omega) (by omega)]; exact z22), kb_s, if_neg (by rw [n32_eqm (by omega)]; exact fun z => z), m5.2.2.1, if_pos rfl]
                obtain ⟨g6, e6, f6, m6⟩ := m_failS (k := 1) m5 (by omega) (by omega)
                have e6' : f_X12_fail g5 173 (1 : Int32) (kI g5 173 2) = some g6 := e6
                have m6' : Md h g6 n 0 (.inl (1, blE (tyN h) n s1.1)) := m6
                have y41 : ¬ (tkT (tyN h) n (dB w1 s1).2.1 (dB w1 s1).2.2.1 = 4 ∧ tkV (tyN h) n (dB w1 s1).2.1 = 41) := by
                  rw [p1, p2]
                  exact fun z => hno ⟨z, by omega⟩
                rw [e6', kb_s]
                refine ⟨0, g6, rfl, FF.tr (f6.wide fun l i z => Or.inl z), Or.inl ⟨(1, blE (tyN h) n s1.1), ?_, rfl, q5.bad n16 f6 m6' (by omega) (by omega)⟩⟩
                rw [hF1, D]
                show pSm (tyN h) n L (brN w1) (dn (tyN h) n L w2) k1 (dB w1 s1).2 = _
                unfold pSm
                rw [wS_n y41, pf, if_neg z21, if_neg z22]
                by_cases z20 : brN w1 = 20
                · rw [if_pos z20]
                  rfl
                · rw [if_neg z20]
                  by_cases z23 : brN w1 = 23
                  · rw [if_pos z23]
                    rfl
                  · rw [if_neg z23]
                    rfl
