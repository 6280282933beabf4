/-! the model: what stands behind a part -/
theorem dM_nx (b : Nat → Nat) (n : Nat) (w : List Nat) (s : PS) : dM w (nxt b n s) = ((dM w s).1, nxt b n (dM w s).2) := by
  cases w with
  | nil => rfl
  | cons x w' =>
    unfold dM
    by_cases y : x = 3 ∨ x = 4
    · simp only [if_pos y]
      rfl
    · simp only [if_neg y]
theorem dA_nx (b : Nat → Nat) (n : Nat) (w : List Nat) (s : PS) : dA w (nxt b n s) = ((dA w s).1, nxt b n (dA w s).2) := by
  cases w with
  | nil => rfl
  | cons x w' =>
    unfold dA
    by_cases y : x = 1 ∨ x = 2
    · simp only [if_pos y]
      rfl
    · simp only [if_neg y]
theorem dB_nx (b : Nat → Nat) (n : Nat) (w : List Nat) (s : PS) : dB w (nxt b n s) = ((dB w s).1, nxt b n (dB w s).2) := by
  unfold dB
  rw [dM_nx]
  exact dA_nx b n _ _
theorem dB_1 (w : List Nat) (s : PS) : (dB w s).2.1 = s.1 ∧ (dB w s).2.2.1 = s.2.1 := by
  obtain ⟨a1, a2⟩ := dM_1 w s
  obtain ⟨c1, c2⟩ := dA_1 (dM w s).1 (dM w s).2
  exact ⟨c1.trans a1, c2.trans a2⟩
theorem dB_wf {w : List Nat} {s : PS} (h : wfS w) (r : rkN w ≤ 2) : wfS (dB w s).1 ∧ rkN (dB w s).1 = 0 ∧ cnO (dB w s).1 = cnO w ∧ (dB w s).2.2.2.length + (dB w s).1.length = s.2.2.length + w.length := by
  obtain ⟨a, c, d, e⟩ := dM_wf (s := s) h r
  obtain ⟨a2, c2, d2, e2⟩ := dA_wf (s := (dM w s).2) a c
  exact ⟨a2, c2, d2.trans d, e2.trans e⟩
theorem dB_top : ∀ {w : List Nat} (s : PS), wfS w → rkN w ≤ 2 → (brN w = 0 ∧ (dB w s).1 = []) ∨ (20 ≤ brN w ∧ brN w ≤ 24 ∧ ∃ w2, (dB w s).1 = brN w :: w2)
  | [], s, _, _ => Or.inl ⟨rfl, rfl⟩
  | x :: w, s, h, r => by
    rcases wf_top h r with ⟨u, v⟩ | ⟨u, v⟩ | u
    · have e : brN (x :: w) = brN w := by
        show (if _ then _ else _) = _
        rw [if_neg (by omega)]
      rw [e, dB_34 u v]
      exact dB_top (pem x s) h.1 (by omega)
    · have e : brN (x :: w) = brN w := by
        show (if _ then _ else _) = _
        rw [if_neg (by omega)]
      rw [e, dB_12 u v]
      exact dB_top (pem x s) h.1 (by omega)
    · have e : brN (x :: w) = x := by
        show (if _ then _ else _) = _
        rw [if_pos u]
      rw [e, dB_br u]
      exact Or.inr ⟨u.1, u.2, w, rfl⟩
theorem D_drop (b : Nat → Nat) (n : Nat) (L : Bool) (w : List Nat) (k : Nat) (s : PS) (r : rkN w ≤ 2) (o : opP b n s = 0) (o2 : opA b n s = 0) : (dn b n L w).1 k s = (dn b n L (dB w s).1).2.2 k (dB w s).2 := by
  obtain ⟨a, c⟩ := dM_1 w s
  rw [P_drop b n L w k s r o, Q_drop b n L (dM w s).1 k (dM w s).2 (by
    rw [← o2]
    unfold opA
    rw [a, c])]
  rfl
theorem opP_0 {b : Nat → Nat} {n : Nat} {s : PS} (h : ¬ (tkT b n s.1 s.2.1 = 4 ∧ tkV b n s.1 = 42)) (h2 : ¬ (tkT b n s.1 s.2.1 = 4 ∧ tkV b n s.1 = 47)) : opP b n s = 0 := by
  unfold opP
  rw [if_neg h, if_neg h2]
theorem opA_0 {b : Nat → Nat} {n : Nat} {s : PS} (h : ¬ (tkT b n s.1 s.2.1 = 4 ∧ tkV b n s.1 = 43)) (h2 : ¬ (tkT b n s.1 s.2.1 = 4 ∧ tkV b n s.1 = 45)) : opA b n s = 0 := by
  unfold opA
  rw [if_neg h, if_neg h2]
theorem wS_y {b : Nat → Nat} {n c : Nat} {s : PS} (h : tkT b n s.1 s.2.1 = 4 ∧ tkV b n s.1 = c) : wS b n c s = .inr (nxt b n s) := by
  unfold wS
  rw [if_pos h]
theorem wS_n {b : Nat → Nat} {n c : Nat} {s : PS} (h : ¬ (tkT b n s.1 s.2.1 = 4 ∧ tkV b n s.1 = c)) : wS b n c s = pft b n 1 s := by
  unfold wS
  rw [if_neg h]
theorem tkV_s {b : Nat → Nat} {n p : Nat} {g : Bool} (t : tkT b n p g = 4) : tkV b n p = b (blE b n p) ∧ blE b n p < n := by
  unfold tkT at t
  unfold tkV
  by_cases y : n ≤ blE b n p
  · rw [if_pos y] at t
    omega
  · rw [if_neg y] at t ⊢
    by_cases l : isLt (b (blE b n p)) = true
    · rw [if_pos l] at t
      split at t <;> omega
    · rw [if_neg l] at t ⊢
      by_cases d : isDg (b (blE b n p)) = true
      · rw [if_pos d] at t
        split at t <;> omega
      · rw [if_neg d]
        exact ⟨rfl, by omega⟩
/-- a bracket closed -/
theorem q_pop {h g : KH} {n x : Nat} {L : Bool} {w B : List Nat} {k a e e' : Nat} {s : PS} (n16 : n ≤ 1600) (q : Qd h g n L (x :: w) B k a e s) (he : e ≤ 1) (h2 : e ≤ e' + 1) (hx : 12 ≤ x) : ∃ g', g' = ksI (ksI g 173 88 (kI g 173 88 - (1 : Int32))) 173 89 (kI (ksI g 173 88 (kI g 173 88 - (1 : Int32))) 173 89 - (1 : Int32)) ∧ kfp Wq2 g g' ∧ Qd h g' n L w B (k + 1) a e' s ∧ kI g' 173 88 = Int32.ofNat (w ++ B).length ∧ kI g' 240 (w ++ B).length = Int32.ofNat x ∧ (w ++ B).length < 1602 := by
  have l := q.len
  obtain ⟨t1, t2, t3, t4⟩ := q.top n16 (by omega) (T := w ++ B) rfl
  obtain ⟨q1, q2, ⟨q3, q4⟩, ⟨q5, q6⟩, ⟨q7, q8, q9⟩, q10, q11⟩ := id q
  have cn9 : cnO (w ++ B) + (if 12 ≤ x then 1 else 0) + k = 6 := q9
  rw [if_pos hx] at cn9
  have lw : ((x :: w) ++ B).length = (w ++ B).length + 1 := rfl
  obtain ⟨g', eg⟩ : ∃ g', g' = ksI (ksI g 173 88 (kI g 173 88 - (1 : Int32))) 173 89 (kI (ksI g 173 88 (kI g 173 88 - (1 : Int32))) 173 89 - (1 : Int32)) := ⟨_, rfl⟩
  have f : kfp (fun l i => l = 173 ∧ (i = 88 ∨ i = 89)) g g' := by rw [eg]; exact (kfp.rf.sI _ (by omega)).sI _ (by omega)
  have I : ∀ l i, ¬ (l = 173 ∧ (i = 88 ∨ i = 89)) → kI g' l i = kI g l i := fun l i x => f.2.2.1 _ _ x
  have k88 : kI g' 173 88 = Int32.ofNat (w ++ B).length := by
    rw [eg, kI_sI, if_neg (by omega), kI_sI, if_pos ⟨rfl, rfl⟩, t1, n32_subl (by omega)]
    rfl
  refine ⟨g', eg, f.wide fun l i z => by unfold Wq2; omega, ⟨q1.fp f fun l i z => by omega, (I _ _ (by omega)).trans q2, ⟨(I _ _ (by omega)).trans q3, fun i hi => (I _ _ (by omega)).trans (q4 i hi)⟩, ⟨k88, q6.2.2.same fun i _ => I _ _ (by omega)⟩, ⟨?_, by omega, by omega⟩, (I _ _ (by omega)).trans q10, by omega⟩, k88, (I _ _ (by omega)).trans t2, by omega⟩
  rw [eg, kI_sI, if_pos ⟨rfl, rfl⟩, kI_sI, if_neg (by omega), q7, n32_subl (by omega), show 6 - k - 1 = 6 - (k + 1) by omega]
theorem m_close {h g : KH} {n : Nat} {L : Bool} {w B : List Nat} {k : Nat} {s : PS} (n16 : n ≤ 1600) (q : Qd h g n L w B k (blE (tyN h) n s.1) 0 s) (wf : wfS w) (rk : rkN w ≤ 2) (y : tkT (tyN h) n s.1 s.2.1 = 4 ∧ tkV (tyN h) n s.1 = 41) (hx : brN w = 20 ∨ brN w = 23 ∨ brN w = 24) : ∃ g' w' k' a' s', f_X12_qGoesOn_b43 g 173 = some (.inl g') ∧ kfp Wq2 g g' ∧ Qd h g' n L w' B k' a' 0 s' ∧ wfS w' ∧ rkN w' ≤ 2 ∧ (dn (tyN h) n L w).1 k s = (dn (tyN h) n L w').1 k' s' ∧ s.1 < s'.1 := by
  have len := q.len
  have pos := nxt_pos (tyN h) len.2 (by rw [y.1]; omega)
  obtain ⟨u1, u2, u3⟩ := m_takenS n16 q.1 y
  obtain ⟨g1, eg1⟩ : ∃ g1, g1 = ksI g 173 2 (Int32.ofNat (tkE (tyN h) n s.1)) := ⟨_, rfl⟩
  rw [← eg1] at u1 u2 u3
  have q1 := q.mv u2 u3 rfl (e' := 0) (by omega)
  obtain ⟨g2, e2, f2, q2⟩ := m_qDropsToBracket n16 (by omega) q1 wf rk
  rw [dB_nx] at q2
  dsimp only at q2
  obtain ⟨a1, a2, a3, a4⟩ := dB_wf (s := s) wf rk
  obtain ⟨p1, p2⟩ := dB_1 w s
  rcases dB_top s wf rk with ⟨c0, -⟩ | ⟨-, -, w2, c1⟩
  · omega
  · have D := D_drop (tyN h) n L w k s rk (opP_0 (by omega) (by omega)) (opA_0 (by omega) (by omega))
    obtain ⟨S, hS⟩ : ∃ S, (dB w s).2 = S := ⟨_, rfl⟩
    rw [c1, hS] at q2 D a4
    rw [hS] at p1 p2
    rw [c1] at a1
    have yS : tkT (tyN h) n S.1 S.2.1 = 4 ∧ tkV (tyN h) n S.1 = 41 := by rw [p1, p2]; exact y
    have n1 : (nxt (tyN h) n S).1 = (nxt (tyN h) n s).1 := by
      show tkE (tyN h) n S.1 = tkE (tyN h) n s.1
      rw [p1]
    have len2 := q2.len
    obtain ⟨g3, eg3, f3, q3, k88, k240, l3⟩ := q_pop (e' := 0) n16 q2 (by omega) (by omega) (by omega)
    have rg3 := q3.kR
    have F3 : kfp Wq2 g g3 := ((u2.wide fun l i z => Or.inl z).tr f2).tr f3
    unfold f_X12_qGoesOn_b43
    rw [if_pos kk173, u1, kl_e, e2, kb_s, kl_e, kl_e, ← eg3, rf173_87 rg3, if_pos (show 240 < 999999 by omega), if_pos kk240, kn240, k88, if_neg (by rw [n32_cl (by omega)]; exact fun z => z.elim (n32_nn (by omega)) (by omega)), n32_cl (show (w2 ++ B).length < 2147483648 by omega), k240]
    by_cases z : brN w = 20
    · rw [z, if_pos (show Int32.ofNat 20 = (20 : Int32) from rfl)]
      rw [z] at D
      obtain ⟨g4, w4, k4, s4, e4, f4, q4, wf4, rk4, d4, p4, -⟩ := m_qEndsPart n16 q3 a1.1
      unfold f_X12_qGoesOn_b115
      rw [if_pos kk173, e4, kb_s]
      refine ⟨g4, w4, k4, _, s4, rfl, F3.tr f4, q4, wf4, rk4, ?_, by omega⟩
      rw [D, ← d4]
      show pSm (tyN h) n L 20 (dn (tyN h) n L w2) k S = _
      unfold pSm
      rw [if_pos rfl, wS_y yS, pbd_r]
    · have c56 : ∀ c, (brN w = 23 ∧ c = 5) ∨ (brN w = 24 ∧ c = 6) → ∃ g' w' k' a' s', f_X12_qGoesOn_b112 g3 173 173 (Int32.ofNat c) = some (.inl g') ∧ kfp Wq2 g g' ∧ Qd h g' n L w' B k' a' 0 s' ∧ wfS w' ∧ rkN w' ≤ 2 ∧ (dn (tyN h) n L w).1 k s = (dn (tyN h) n L w').1 k' s' ∧ s.1 < s'.1 := fun c hc => by
        obtain ⟨g4, e4, f4, q4⟩ := m_qCode (c := c) n16 q3 (by omega)
        have q5 : Qd h g4 n L w2 B (k + 1) (tkE (tyN h) n s.1) 0 (pem c (nxt (tyN h) n S)) := q4.tight (by
          show ((nxt (tyN h) n S).2.2 ++ [c]).length + _ ≤ (nxt (tyN h) n S).1 + 0
          have l1 := len2.1
          simp only [List.length_append, List.length_cons, List.length_nil] at l1 ⊢
          omega)
        obtain ⟨g6, w6, k6, s6, e6, f6, q6, wf6, rk6, d6, p6, -⟩ := m_qEndsPart n16 q5 a1.1
        unfold f_X12_qGoesOn_b112 f_X12_qGoesOn_b115
        rw [if_pos kk173, e4, kb_s, if_pos kk173, e6, kb_s]
        refine ⟨g6, w6, k6, _, s6, rfl, (F3.tr f4).tr f6, q6, wf6, rk6, ?_, by rw [p6]; show s.1 < (nxt (tyN h) n S).1; omega⟩
        rw [D, ← d6]
        show pSm (tyN h) n L (brN w) (dn (tyN h) n L w2) k S = _
        unfold pSm
        rcases hc with ⟨c1, rfl⟩ | ⟨c1, rfl⟩
        · rw [c1, if_neg (by omega), if_neg (by omega), if_neg (by omega), if_pos rfl, wS_y yS, pbd_r]
        · rw [c1, if_neg (by omega), if_neg (by omega), if_neg (by omega), if_neg (by omega), wS_y yS, pbd_r]
      by_cases z3 : brN w = 23
      · rw [z3, if_neg (by decide), if_pos (show Int32.ofNat 23 = (23 : Int32) from rfl)]
        exact c56 5 (Or.inl ⟨z3, rfl⟩)
      · have z4 : brN w = 24 := by omega
        rw [z4, if_neg (by decide), if_neg (by decide)]
        exact c56 6 (Or.inr ⟨z4, rfl⟩)
theorem m_goesLoop {h g : KH} {n : Nat} {L : Bool} {w B : List Nat} {k a : Nat} {s : PS} (ht : Rtape h) (n16 : n ≤ 1600) (q : Qd h g n L w B k a 0 s) (wf : wfS w) (rk : rkN w ≤ 2) (F : PR) (hF : F = (dn (tyN h) n L w).1 k s) : ∃ g', kloop (f_X12_qGoesOn_l0 173) KF g = some g' ∧ kfp Wq2 g g' ∧ ∃ w' k' s', Qd h g' n L w' B k' (blE (tyN h) n s'.1) 0 s' ∧ wfS w' ∧ rkN w' ≤ 2 ∧ F = (dn (tyN h) n L w').1 k' s' ∧ s.1 ≤ s'.1 ∧ ¬ ((tkT (tyN h) n s'.1 s'.2.1 = 4 ∧ tkV (tyN h) n s'.1 = 41) ∧ (brN w' = 20 ∨ brN w' = 23 ∨ brN w' = 24)) := by
  have sg41 : isSg 41 := ⟨by omega, rfl, rfl⟩
  refine kloop_KF (body := f_X12_qGoesOn_l0 173) (fun m x => kfp Wq2 g x ∧ ∃ w' k' a' s', Qd h x n L w' B k' a' 0 s' ∧ wfS w' ∧ rkN w' ≤ 2 ∧ F = (dn (tyN h) n L w').1 k' s' ∧ s.1 ≤ s'.1 ∧ m = n - s'.1) (fun g' => kfp Wq2 g g' ∧ ∃ w' k' s', Qd h g' n L w' B k' (blE (tyN h) n s'.1) 0 s' ∧ wfS w' ∧ rkN w' ≤ 2 ∧ F = (dn (tyN h) n L w').1 k' s' ∧ s.1 ≤ s'.1 ∧ ¬ ((tkT (tyN h) n s'.1 s'.2.1 = 4 ∧ tkV (tyN h) n s'.1 = 41) ∧ (brN w' = 20 ∨ brN w' = 23 ∨ brN w' = 24))) (fun m x hP => ?_) (n := n - s.1) (by omega) ⟨kfp.rf, w, k, a, s, q, wf, rk, hF, Nat.le_refl _, rfl⟩
  obtain ⟨fx, w', k', a', s', q', wf', rk', hF', hs', hm⟩ := hP
  obtain ⟨x1, e1, fx1, m1⟩ := m_look0 ht n16 q'.1
  have q1 : Qd h x1 n L w' B k' (blE (tyN h) n s'.1) 0 s' := q'.mv fx1 m1 rfl (Nat.le_refl _)
  have sg := lkI_sg s'.2.1 (Md.byte ht n16 m1) sg41
  have sg' : lkI (tyN h) n s'.1 = (41 : Int32) ↔ tkT (tyN h) n s'.1 s'.2.1 = 4 ∧ tkV (tyN h) n s'.1 = 41 := sg
  have F1 : kfp Wq2 g x1 := fx.tr (fx1.wide fun l i z => Or.inl z)
  have br := m_qBracket n16 (by omega) q1
  have len := q'.len
  unfold f_X12_qGoesOn_l0
  rw [if_pos kk173, q'.1.2.2.1, if_pos rfl, e1, kb_s]
  dsimp only
  by_cases y : tkT (tyN h) n s'.1 s'.2.1 = 4 ∧ tkV (tyN h) n s'.1 = 41
  · rw [if_pos (sg'.mpr y), br, kb_s]
    have pos := nxt_pos (tyN h) len.2 (by rw [y.1]; omega)
    rcases dB_top s' wf' rk' with ⟨c0, -⟩ | ⟨c1, c2, -⟩
    · rw [if_pos c0, if_neg (by decide), kb_s, if_neg (by decide), kb_s, if_neg (by decide)]
      exact Or.inl ⟨x1, rfl, F1, w', k', s', q1, wf', rk', hF', hs', fun z => by omega⟩
    · rw [if_neg (show ¬ brN w' = 0 by omega)]
      by_cases z : brN w' = 20 ∨ brN w' = 23 ∨ brN w' = 24
      · obtain ⟨g', w4, k4, a4, s4, e4, f4, q4, wf4, rk4, d4, p4⟩ := m_close n16 q1 wf' rk' y z
        have q4l := q4.len
        refine Or.inr ⟨n - s4.1, g', by omega, ?_, F1.tr f4, w4, k4, a4, s4, q4, wf4, rk4, hF'.trans d4, by omega, rfl⟩
        rcases z with z | z | z
        · rw [z, if_pos (show Int32.ofNat 20 = (20 : Int32) from rfl), e4]
        · rw [z, if_neg (by decide), kb_s, if_pos (show Int32.ofNat 23 = (23 : Int32) from rfl), e4]
        · rw [z, if_neg (by decide), kb_s, if_neg (by decide), kb_s, if_pos (show Int32.ofNat 24 = (24 : Int32) from rfl), e4]
      · rw [if_neg (by rw [n32_eql (by omega) (by omega)]; omega), kb_s, if_neg (by rw [n32_eql (by omega) (by omega)]; omega), kb_s, if_neg (by rw [n32_eql (by omega) (by omega)]; omega)]
        exact Or.inl ⟨x1, rfl, F1, w', k', s', q1, wf', rk', hF', hs', fun u => z u.2⟩
  · rw [if_neg (fun z => y (sg'.mp z))]
    exact Or.inl ⟨x1, rfl, F1, w', k', s', q1, wf', rk', hF', hs', fun u => y u.1⟩
