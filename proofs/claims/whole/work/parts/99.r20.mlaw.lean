/-! the model is told the rule -/
def Wlt (l i : Nat) : Prop := Wq2 l i ∨ (l = 173 ∧ (i = 42 ∨ i = 44)) ∨ (l = 204 ∧ i = 0) ∨ (l = 205 ∧ i = 0) ∨ (l = 206 ∧ i < 1600)
theorem sel_of {C D : CTy} (e : D.1 = C.1) (s : Nat) : sel D s = sel C s := by
  unfold sel
  rw [e]
theorem Cm.mk3 {g g' : KH} {C D : CTy} (x : Cm g C) (e : D.1 = C.1) (I : ∀ l i, (l = 198 ∧ i < 3) ∨ (200 ≤ l ∧ l ≤ 202) → kI g' l i = kI g l i) (J : ∀ i, kL g' 199 i = kL g 199 i) (h3 : kI g' 203 0 = Int32.ofNat D.2.1.1 ∧ kI g' 203 1 = Int32.ofNat D.2.1.2) (h4 : match D.2.2 with
  | none => kI g' 204 0 = -1 ∧ kI g' 173 42 = 0
  | some d => kI g' 204 0 = 0 ∧ kI g' 205 0 = Int32.ofNat d.length ∧ kI g' 173 42 = Int32.ofNat d.length ∧ ∀ i, i < d.length → kI g' 206 i = Int32.ofNat (d.getD i 0)) : Cm g' D :=
  ⟨fun s hs => by rw [sel_of e]; exact (I _ _ (by omega)).trans (x.1 s hs), fun s hs k hk => by
    rw [sel_of e] at hk ⊢
    exact ⟨(J _).trans (x.2.1 s hs k hk).1, fun j hj => (I _ _ (by omega)).trans ((x.2.1 s hs k hk).2 j hj)⟩, h3, h4⟩
theorem Cm.rule {g g' : KH} {C : CTy} (x : Cm g C) (I : ∀ l i, (204 ≤ l ∧ l ≤ 206) ∨ (l = 173 ∧ i = 42) → kI g' l i = kI g l i) : match C.2.2 with
  | none => kI g' 204 0 = -1 ∧ kI g' 173 42 = 0
  | some d => kI g' 204 0 = 0 ∧ kI g' 205 0 = Int32.ofNat d.length ∧ kI g' 173 42 = Int32.ofNat d.length ∧ ∀ i, i < d.length → kI g' 206 i = Int32.ofNat (d.getD i 0) := by
  have x5 := x.2.2.2
  cases hC : C.2.2 with
  | none =>
    rw [hC] at x5
    exact ⟨(I _ _ (by omega)).trans x5.1, (I _ _ (by omega)).trans x5.2⟩
  | some d =>
    rw [hC] at x5
    exact ⟨(I _ _ (by omega)).trans x5.1, (I _ _ (by omega)).trans x5.2.1, (I _ _ (by omega)).trans x5.2.2.1, fun i hi => (I _ _ (by omega)).trans (x5.2.2.2 i hi)⟩
/-- the rule's codes are copied -/
theorem m_lawCopy {g : KH} {d : List Nat} (rg : kRefs g) (l16 : d.length ≤ 1600) (e86 : kI g 173 86 = Int32.ofNat d.length) (ec : ∀ i, i < d.length → kI g 239 i = Int32.ofNat (d.getD i 0)) (e42 : kI g 173 42 = Int32.ofNat 0) : ∃ g', kloop (f_X12_lawTold_l80 173) KF ((0 : Int32), g) = some g' ∧ kfp (fun l i => (l = 206 ∧ i < 1600) ∨ (l = 173 ∧ i = 42)) g g' ∧ kI g' 173 42 = Int32.ofNat d.length ∧ ∀ i, i < d.length → kI g' 206 i = Int32.ofNat (d.getD i 0) := by
  refine kloop_inv (body := f_X12_lawTold_l80 173) (fun k st => st.1 = Int32.ofNat k ∧ kfp (fun l i => (l = 206 ∧ i < 1600) ∨ (l = 173 ∧ i = 42)) g st.2 ∧ kI st.2 173 42 = Int32.ofNat k ∧ ∀ i, i < k → kI st.2 206 i = Int32.ofNat (d.getD i 0)) (fun r => kfp (fun l i => (l = 206 ∧ i < 1600) ∨ (l = 173 ∧ i = 42)) g r ∧ kI r 173 42 = Int32.ofNat d.length ∧ ∀ i, i < d.length → kI r 206 i = Int32.ofNat (d.getD i 0)) d.length (by omega) ⟨rfl, kfp.rf, e42, fun i hi => absurd hi (Nat.not_lt_zero _)⟩ (fun k st hk hP => ?_) (fun st hP => ?_)
  · obtain ⟨i, q⟩ := st
    obtain ⟨p1, p2, p3, p4⟩ := hP
    dsimp only at p1 p2 p3 p4
    subst p1
    have rq := rg.fp p2
    have q86 : kI q 173 86 = Int32.ofNat d.length := (p2.2.2.1 _ _ (by omega)).trans e86
    have qc : kI q 239 k = Int32.ofNat (d.getD k 0) := (p2.2.2.1 _ _ (by omega)).trans (ec k hk)
    obtain ⟨q2, eq2⟩ : ∃ q2, q2 = ksI q 206 k (Int32.ofNat (d.getD k 0)) := ⟨_, rfl⟩
    have q42 : kI q2 173 42 = Int32.ofNat k := by rw [eq2, kI_sI, if_neg (by omega)]; exact p3
    have f2 : kfp (fun l i => (l = 206 ∧ i < 1600) ∨ (l = 173 ∧ i = 42)) g q2 := by rw [eq2]; exact p2.sI _ (Or.inl ⟨rfl, by omega⟩)
    refine ⟨(Int32.ofNat (k + 1), ksI q2 173 42 (Int32.ofNat (k + 1))), ?_, rfl, f2.sI _ (Or.inr ⟨rfl, rfl⟩), by rw [kI_sI, if_pos ⟨rfl, rfl⟩], fun j hj => ?_⟩
    · unfold f_X12_lawTold_l80
      dsimp only
      rw [if_pos kk173, q86, if_neg (by rw [n32_le (by omega) (by omega)]; omega), rf173_41 rq, if_pos (show 206 < 999999 by omega), rf173_85 rq, if_pos (show 239 < 999999 by omega), if_pos kk239, kn239, if_neg (by rw [n32_cl (by omega)]; exact fun z => z.elim (n32_nn (by omega)) (by omega)), n32_cl (show k < 2147483648 by omega), if_pos kk206, kn206, p3, if_neg (by rw [n32_cl (by omega)]; exact fun z => z.elim (n32_nn (by omega)) (by omega)), n32_cl (show k < 2147483648 by omega), qc, kl_e, ← eq2, q42, n32_addl, kl_e, kl_e]
    · show kI (ksI q2 173 42 (Int32.ofNat (k + 1))) 206 j = _
      rw [kI_sI, if_neg (by omega), eq2, kI_sI]
      by_cases y : j = k
      · rw [if_pos ⟨rfl, y⟩, y]
      · rw [if_neg (fun z => y z.2)]
        exact p4 j (by omega)
  · obtain ⟨i, q⟩ := st
    obtain ⟨p1, p2, p3, p4⟩ := hP
    dsimp only at p1 p2 p3 p4
    subst p1
    have q86 : kI q 173 86 = Int32.ofNat d.length := (p2.2.2.1 _ _ (by omega)).trans e86
    refine ⟨q, ?_, p2, p3, p4⟩
    unfold f_X12_lawTold_l80
    dsimp only
    rw [if_pos kk173, q86, if_pos ((n32_le (by omega) (by omega)).mpr (Nat.le_refl _))]
theorem m_lawTold {h g : KH} {n a : Nat} {C : CTy} {s : PS} (ht : Rtape h) (n16 : n ≤ 1600) (cm : Cm g C) (m : Md h g n a (.inr (nxt (tyN h) n s))) : ∃ g', f_X12_lawTold g 173 (Int32.ofNat (blE (tyN h) n s.1)) = some g' ∧ kfp Wlt g g' ∧ Mx h g' n (match C.2.2 with
    | some _ => .inl (5, blE (tyN h) n s.1)
    | none => match tst (tyN h) n (lvF (tyN h) n true 6) (tkE (tyN h) n s.1, (nxt (tyN h) n s).2.1, []) with
      | .inl e => .inl e
      | .inr s2 => .inr ((C.1, C.2.1, some s2.2.2), s2)) := by
  have rg := m.1.1
  have x5 := cm.2.2.2
  unfold f_X12_lawTold
  rw [if_pos kk173, m.2.2.1, if_pos rfl, rf173_39 rg, if_pos (show 204 < 999999 by omega), if_pos kk204, kn204, if_neg (show ¬ 2 ≤ 0 by omega)]
  cases hC : C.2.2 with
  | some d =>
    rw [hC] at x5
    obtain ⟨q, e1, f1, m1⟩ := m_failR (k := 5) (pl := blE (tyN h) n s.1) m.1 m.2.2.1 (by omega) (by omega)
    have e1' : f_X12_fail g 173 (5 : Int32) (Int32.ofNat (blE (tyN h) n s.1)) = some q := e1
    rw [if_neg (by rw [x5.1]; decide), e1', kb_s]
    unfold f_X12_lawTold_b23
    rw [if_pos kk173, if_neg m1.bad]
    exact ⟨q, rfl, f1.wide fun l i z => Or.inl (Or.inl z), m1⟩
  | none =>
    rw [hC] at x5
    rw [if_pos x5.1]
    unfold f_X12_lawTold_b23
    rw [if_pos kk173, m.2.2.1, if_pos rfl]
    simp only [kl_e]
    obtain ⟨g1, eg1⟩ : ∃ g1, g1 = ksI (ksI (ksI (ksI (ksI g 173 44 (1 : Int32)) 173 86 (0 : Int32)) 173 88 (0 : Int32)) 173 89 (0 : Int32)) 173 90 (0 : Int32) := ⟨_, rfl⟩
    have f1 : kfp (fun l i => l = 173 ∧ (i = 44 ∨ i = 86 ∨ i = 88 ∨ i = 89 ∨ i = 90)) g g1 := by
      rw [eg1]
      exact ((((kfp.rf.sI _ (by omega)).sI _ (by omega)).sI _ (by omega)).sI _ (by omega)).sI _ (by omega)
    have v44 : kI g1 173 44 = 1 := by rw [eg1]; simp only [kI_sI]; simp
    have v86 : kI g1 173 86 = Int32.ofNat 0 := by rw [eg1]; simp only [kI_sI]; simp
    have v88 : kI g1 173 88 = Int32.ofNat 0 := by rw [eg1]; simp only [kI_sI]; simp
    have v89 : kI g1 173 89 = Int32.ofNat 0 := by rw [eg1]; simp only [kI_sI]; simp
    have v90 : kI g1 173 90 = Int32.ofNat 0 := by rw [eg1]; simp only [kI_sI]; simp
    have m1 : Md h g1 n a (.inr (nxt (tyN h) n s)) := m.fp f1 fun l i z => by omega
    have m1' : Md h g1 n a (.inr (tkE (tyN h) n s.1, (nxt (tyN h) n s).2.1, [])) := m1
    have q1 : Qd h g1 n true [] [] 6 a 0 (tkE (tyN h) n s.1, (nxt (tyN h) n s).2.1, []) := ⟨m1', v44, ⟨v86, fun i hi => absurd hi (Nat.not_lt_zero _)⟩, ⟨v88, trivial⟩, ⟨v89, Nat.le_refl _, rfl⟩, v90, Nat.zero_le _⟩
    obtain ⟨g2, e2, f2, hh⟩ := m_qTest ht n16 q1
    have F2 : kfp Wlt g g2 := (f1.wide fun l i z => by unfold Wlt Wq2; omega).tr (f2.wide fun l i z => Or.inl z)
    rw [← eg1, e2, kb_s]
    rcases hh with ⟨e, he, qe⟩ | ⟨s', a', hs', q2⟩
    · rw [if_neg qe.1.bad, he]
      exact ⟨g2, rfl, F2, qe.1⟩
    · have r2 := q2.1.1.1
      have l2 := q2.len
      have sl : s'.2.2.length ≤ 1600 := by omega
      have c42 : kI g2 173 42 = Int32.ofNat 0 := (f2.2.2.1 _ _ (by unfold Wq2 Wmp; omega)).trans ((f1.2.2.1 _ _ (by omega)).trans x5.2)
      obtain ⟨g3, eg3⟩ : ∃ g3, g3 = ksI g2 204 0 (Int32.ofNat 0) := ⟨_, rfl⟩
      have f3 : kfp (fun l i => l = 204 ∧ i = 0) g2 g3 := by rw [eg3]; exact kfp.rf.sI _ ⟨rfl, rfl⟩
      have r3 := r2.fp f3
      obtain ⟨g4, e4, f4, v42, vc⟩ := m_lawCopy (d := s'.2.2) r3 sl ((f3.2.2.1 _ _ (by omega)).trans q2.2.2.1.1) (fun i hi => (f3.2.2.1 _ _ (by omega)).trans (q2.2.2.1.2 i hi)) ((f3.2.2.1 _ _ (by omega)).trans c42)
      have r4 := r3.fp f4
      obtain ⟨g5, eg5⟩ : ∃ g5, g5 = ksI g4 205 0 (Int32.ofNat s'.2.2.length) := ⟨_, rfl⟩
      have f5 : kfp (fun l i => l = 205 ∧ i = 0) g4 g5 := by rw [eg5]; exact kfp.rf.sI _ ⟨rfl, rfl⟩
      have F5 : kfp (fun l i => (l = 204 ∧ i = 0) ∨ (l = 205 ∧ i = 0) ∨ (l = 206 ∧ i < 1600) ∨ (l = 173 ∧ i = 42)) g2 g5 := ((f3.wide fun l i z => by omega).tr (f4.wide fun l i z => by omega)).tr (f5.wide fun l i z => by omega)
      rw [if_pos q2.1.2.2.1, rf173_39 r2, if_pos (show 204 < 999999 by omega), if_pos kk204, kn204, if_neg (show ¬ 2 ≤ 0 by omega), c42, ← eg3, e4, kb_s, rf173_40 r4, if_pos (show 205 < 999999 by omega), if_pos kk205, kn205, if_neg (show ¬ 2 ≤ 0 by omega), v42, ← eg5, hs']
      refine ⟨g5, rfl, F2.tr (F5.wide fun l i z => by unfold Wlt; omega), ⟨_, q2.1.fp F5 fun l i z w => by omega⟩, ?_⟩
      have I : ∀ l i, (l = 198 ∧ i < 3) ∨ (200 ≤ l ∧ l ≤ 202) ∨ l = 203 → kI g5 l i = kI g l i := fun l i z => (F5.2.2.1 _ _ (by omega)).trans ((f2.2.2.1 _ _ (by unfold Wq2 Wmp; omega)).trans (f1.2.2.1 _ _ (by omega)))
      refine cm.mk3 rfl (fun l i z => I _ _ (by omega)) (fun i => (F5.2.2.2 _ _ (by omega)).trans ((f2.2.2.2 _ _ (by unfold Wq2 Wmp; omega)).trans (f1.2.2.2 _ _ (by omega)))) ⟨(I _ _ (by omega)).trans cm.2.2.1.1, (I _ _ (by omega)).trans cm.2.2.1.2⟩ ?_
      refine ⟨?_, ?_, ?_, fun i hi => ?_⟩
      · rw [f5.2.2.1 _ _ (by omega), f4.2.2.1 _ _ (by omega), eg3, kI_sI, if_pos ⟨rfl, rfl⟩]
        rfl
      · rw [eg5, kI_sI, if_pos ⟨rfl, rfl⟩]
      · rw [f5.2.2.1 _ _ (by omega)]
        exact v42
      · rw [f5.2.2.1 _ _ (by omega)]
        exact vc i hi
