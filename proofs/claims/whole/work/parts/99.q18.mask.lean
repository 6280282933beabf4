/-! the model reads a QUESTION -/
def isQ (w : Nat) : Prop := w = 9 ∨ w = 22 ∨ w = 23 ∨ w = 24 ∨ w = 25 ∨ w = 26
def qkN (w : Nat) : Nat := if w = 9 then 0 else if w = 22 then 1 else if w = 23 then 2 else if w = 24 then 3 else if w = 25 then 4 else 5
theorem m_qKind {h g : KH} {n a : Nat} {s : PS} (ht : Rtape h) (n16 : n ≤ 1600) (m : Md h g n a (.inr s)) : ∃ g' a', f_X12_qKind g 173 = some (Int32.ofNat (qkN (wI (tyN h) n s)), g') ∧ kfp Wmp g g' ∧ (isQ (wI (tyN h) n s) → Md h g' n a' (.inr (nxt (tyN h) n s))) ∧ (¬ isQ (wI (tyN h) n s) → Md h g' n a' (pft (tyN h) n 1 s)) := by
  have done : ∀ g1 j k, j = wI (tyN h) n s → (qkN j = k) → k < 5 → isQ j → kfp Wmp g g1 → Md h g1 n (tkE (tyN h) n s.1) (.inr (nxt (tyN h) n s)) → ∃ g' a', f_X12_qKind_b76 g1 173 (Int32.ofNat k) = some (Int32.ofNat (qkN (wI (tyN h) n s)), g') ∧ kfp Wmp g g' ∧ (isQ (wI (tyN h) n s) → Md h g' n a' (.inr (nxt (tyN h) n s))) ∧ (¬ isQ (wI (tyN h) n s) → Md h g' n a' (pft (tyN h) n 1 s)) := fun g1 j k ej hk k5 iq f1 m1 => by
    subst ej
    refine ⟨g1, _, ?_, f1, fun _ => m1, fun z => absurd iq z⟩
    unfold f_X12_qKind_b76
    rw [if_neg (by rw [n32_eql (by omega) (by omega)]; omega), hk]
  have w : ∀ g1, Md h g1 n (blE (tyN h) n s.1) (.inr s) → ∀ q, q < 21 → Wd g1 (218 + q) (aqN q) := fun g1 m1 q hq => m1.1.2.2.2.w2 hq
  have w0 : Wd g 218 9 := m.1.2.2.2.w2 (q := 0) (by omega)
  unfold f_X12_qKind
  obtain ⟨g1, e1, f1, t1, n1⟩ := m_takes ht n16 w0 m
  rw [if_pos kk173, rf173_64 m.1.1, if_pos (show 218 < 999999 by omega), e1, kb_s]
  by_cases y9 : wI (tyN h) n s = 9
  · simp only [if_pos y9]
    rw [if_neg (by decide)]
    exact done g1 9 0 y9.symm rfl (by omega) (Or.inl rfl) f1 (t1 y9)
  · simp only [if_neg y9]
    rw [if_pos True.intro]
    have m1 := n1 y9
    obtain ⟨g2, e2, f2, t2, n2⟩ := m_takes ht n16 (w g1 m1 1 (by omega)) m1
    have F2 := f1.tr f2
    rw [rf173_65 m1.1.1, if_pos (show 219 < 999999 by omega), show f_X12_takes g1 173 219 = some (if wI (tyN h) n s = 22 then 1 else 0, g2) from e2, kb_s]
    by_cases y22 : wI (tyN h) n s = 22
    · simp only [if_pos y22]
      rw [if_neg (by decide)]
      exact done g2 22 1 y22.symm rfl (by omega) (by unfold isQ; omega) F2 (t2 y22)
    · simp only [if_neg y22]
      rw [if_pos True.intro]
      have m2 := n2 y22
      obtain ⟨g3, e3, f3, t3, n3⟩ := m_takes ht n16 (w g2 m2 2 (by omega)) m2
      have F3 := F2.tr f3
      rw [rf173_66 m2.1.1, if_pos (show 220 < 999999 by omega), show f_X12_takes g2 173 220 = some (if wI (tyN h) n s = 23 then 1 else 0, g3) from e3, kb_s]
      by_cases y23 : wI (tyN h) n s = 23
      · simp only [if_pos y23]
        rw [if_neg (by decide)]
        exact done g3 23 2 y23.symm rfl (by omega) (by unfold isQ; omega) F3 (t3 y23)
      · simp only [if_neg y23]
        rw [if_pos True.intro]
        have m3 := n3 y23
        obtain ⟨g4, e4, f4, t4, n4⟩ := m_takes ht n16 (w g3 m3 3 (by omega)) m3
        have F4 := F3.tr f4
        rw [rf173_67 m3.1.1, if_pos (show 221 < 999999 by omega), show f_X12_takes g3 173 221 = some (if wI (tyN h) n s = 24 then 1 else 0, g4) from e4, kb_s]
        by_cases y24 : wI (tyN h) n s = 24
        · simp only [if_pos y24]
          rw [if_neg (by decide)]
          exact done g4 24 3 y24.symm rfl (by omega) (by unfold isQ; omega) F4 (t4 y24)
        · simp only [if_neg y24]
          rw [if_pos True.intro]
          have m4 := n4 y24
          obtain ⟨g5, e5, f5, t5, n5⟩ := m_takes ht n16 (w g4 m4 4 (by omega)) m4
          have F5 := F4.tr f5
          rw [rf173_68 m4.1.1, if_pos (show 222 < 999999 by omega), show f_X12_takes g4 173 222 = some (if wI (tyN h) n s = 25 then 1 else 0, g5) from e5, kb_s]
          by_cases y25 : wI (tyN h) n s = 25
          · simp only [if_pos y25]
            rw [if_neg (by decide)]
            exact done g5 25 4 y25.symm rfl (by omega) (by unfold isQ; omega) F5 (t5 y25)
          · simp only [if_neg y25]
            rw [if_pos True.intro]
            have m5 := n5 y25
            have w5 : Wd g5 223 26 := w g5 m5 5 (by omega)
            obtain ⟨g6, a6, e6, f6, m6⟩ := m_asks (r := .inr s) ht n16 w5 m5
            have k5 : qkN (wI (tyN h) n s) = 5 := by
              unfold qkN
              rw [if_neg y9, if_neg y22, if_neg y23, if_neg y24, if_neg y25]
            unfold f_X12_qKind_b76
            rw [if_pos rfl, if_pos kk173, rf173_69 m5.1.1, if_pos (show 223 < 999999 by omega), e6, kb_s, k5]
            rw [pbd_r] at m6
            unfold wW at m6
            refine ⟨g6, a6, rfl, F5.tr f6, fun z => ?_, fun z => ?_⟩
            · rw [if_pos (by unfold isQ at z; omega)] at m6
              exact m6
            · rw [if_neg (fun u => z (by unfold isQ; omega))] at m6
              exact m6
theorem lk_end {b : Nat → Nat} {n p : Nat} (g : Bool) (hb : blE b n p < n → b (blE b n p) < 256) : lkI b n p = -1 ↔ tkT b n p g = 1 := by
  unfold lkI tkT
  by_cases y : n ≤ blE b n p
  · rw [if_pos y, if_pos y]
    exact ⟨fun _ => rfl, fun _ => rfl⟩
  · have := hb (by omega)
    rw [if_neg y, if_neg y, n32_eqm (by omega)]
    refine ⟨fun z => z.elim, fun z => ?_⟩
    split at z
    · split at z <;> omega
    · split at z
      · split at z <;> omega
      · omega
def Wqa (l i : Nat) : Prop := Wq2 l i ∨ (l = 173 ∧ (i = 1 ∨ i = 3 ∨ i = 44))
theorem m_askReads {h g : KH} {n : Nat} (ht : Rtape h) (n16 : n ≤ 1600) (rg : kRefs g) (rw0 : Rwords g) (hn : kI g 173 1 = Int32.ofNat n) (h174 : ∀ i, kI g 174 i = kI h 174 i) : ∃ g', f_X12_ask g 173 = f_X12_ask_b117 g' 173 (Int32.ofNat (qkN (wI (tyN h) n s00))) ∧ kfp Wqa g g' ∧ ((∃ e, qst (tyN h) n = .inl e ∧ Md h g' n 0 (.inl e)) ∨ ∃ s a, qst (tyN h) n = .inr s ∧ isQ (wI (tyN h) n s00) ∧ Qd h g' n false [] [] 6 a 0 s) ∧ kI g' 173 1 = 0 := by
  obtain ⟨g1, eg1⟩ : ∃ g1, g1 = ksI (ksI (ksI (ksI (ksI (ksI (ksI (ksI (ksI (ksI (ksI g 173 3 (Int32.ofNat n)) 173 1 (0 : Int32)) 173 2 (0 : Int32)) 173 4 (-1 : Int32)) 173 5 (0 : Int32)) 173 6 (-1 : Int32)) 173 44 (0 : Int32)) 173 86 (0 : Int32)) 173 88 (0 : Int32)) 173 89 (0 : Int32)) 173 90 (0 : Int32) := ⟨_, rfl⟩
  have f1 : kfp Wqa g g1 := by
    rw [eg1]
    exact ((((((((((kfp.rf.sI _ (by unfold Wqa; omega)).sI _ (by unfold Wqa; omega)).sI _ (by unfold Wqa Wq2 Wmp; omega)).sI _ (by unfold Wqa Wq2 Wmp; omega)).sI _ (by unfold Wqa Wq2 Wmp; omega)).sI _ (by unfold Wqa Wq2 Wmp; omega)).sI _ (by unfold Wqa; omega)).sI _ (by unfold Wqa Wq2 Wmp; omega)).sI _ (by unfold Wqa Wq2 Wmp; omega)).sI _ (by unfold Wqa Wq2 Wmp; omega)).sI _ (by unfold Wqa Wq2 Wmp; omega)
  have r1 := rg.fp f1
  have J : ∀ l i, l ≠ 173 → kI g1 l i = kI g l i := fun l i z => by
    rw [eg1]
    simp only [kI_sI, z, false_and, if_false]
  have v3 : kI g1 173 3 = Int32.ofNat n := by rw [eg1]; simp only [kI_sI]; simp
  have v1 : kI g1 173 1 = 0 := by rw [eg1]; simp only [kI_sI]; simp
  have v2 : kI g1 173 2 = Int32.ofNat 0 := by rw [eg1]; simp only [kI_sI]; simp
  have v4 : kI g1 173 4 = -1 := by rw [eg1]; simp only [kI_sI]; simp
  have v5 : kI g1 173 5 = 0 := by rw [eg1]; simp only [kI_sI]; simp
  have v6 : kI g1 173 6 = -1 := by rw [eg1]; simp only [kI_sI]; simp
  have v44 : kI g1 173 44 = 0 := by rw [eg1]; simp only [kI_sI]; simp
  have v86 : kI g1 173 86 = Int32.ofNat 0 := by rw [eg1]; simp only [kI_sI]; simp
  have v88 : kI g1 173 88 = Int32.ofNat 0 := by rw [eg1]; simp only [kI_sI]; simp
  have v89 : kI g1 173 89 = Int32.ofNat 0 := by rw [eg1]; simp only [kI_sI]; simp
  have v90 : kI g1 173 90 = Int32.ofNat 0 := by rw [eg1]; simp only [kI_sI]; simp
  have w1 : Rwords g1 := ⟨fun j hj => (J _ _ (by omega)).trans (rw0.1 j hj), fun j hj i hi => (J _ _ (by omega)).trans (rw0.2.1 j hj i hi), fun q hq i hi => (J _ _ (by omega)).trans (rw0.2.2 q hq i hi)⟩
  have md1 : Md h g1 n 0 (.inr s00) := ⟨⟨r1, v3, fun i => (J _ _ (by omega)).trans (h174 i), w1⟩, Nat.zero_le _, v5, v6, Nat.le_refl _, Nat.zero_le _, v2, (fun z => by cases z), fun _ => Or.inl v4⟩
  have q1 : Qd h g1 n false [] [] 6 0 0 s00 := ⟨md1, v44, ⟨v86, fun i hi => absurd hi (Nat.not_lt_zero _)⟩, ⟨v88, trivial⟩, ⟨v89, Nat.le_refl _, rfl⟩, v90, Nat.le_refl _⟩
  obtain ⟨g2, a2, e2, f2, iq, niq⟩ := m_qKind ht n16 md1
  have F2 : kfp Wqa g g2 := f1.tr (f2.wide fun l i z => Or.inl (Or.inl z))
  have top : f_X12_ask g 173 = (if kI g2 173 5 = 0 then if (3 : Int32) ≤ Int32.ofNat (qkN (wI (tyN h) n s00)) then f_X12_ask_b82 g2 173 (Int32.ofNat (qkN (wI (tyN h) n s00))) else kb (f_X12_qTest g2 173) fun r41 => f_X12_ask_b93 r41 173 (Int32.ofNat (qkN (wI (tyN h) n s00))) else f_X12_ask_b82 g2 173 (Int32.ofNat (qkN (wI (tyN h) n s00)))) := by
    unfold f_X12_ask
    rw [if_pos kk173, hn]
    simp only [kl_e]
    rw [← eg1, e2, kb_s]
  have V1 : ∀ {g'}, kfp Wq2 g1 g' → kI g' 173 1 = 0 := fun f => (f.2.2.1 _ _ (by unfold Wq2 Wmp; omega)).trans v1
  -- behind the TEST or SUM
  have b93 : ∀ g3 (v : Int32), kfp Wq2 g1 g3 → ((∃ e, qbd (tyN h) n s00 = .inl e ∧ Md h g3 n 0 (.inl e)) ∨ ∃ s a, qbd (tyN h) n s00 = .inr s ∧ isQ (wI (tyN h) n s00) ∧ Qd h g3 n false [] [] 6 a 0 s) → ∃ g', f_X12_ask_b93 g3 173 v = f_X12_ask_b117 g' 173 v ∧ kfp Wqa g g' ∧ ((∃ e, qst (tyN h) n = .inl e ∧ Md h g' n 0 (.inl e)) ∨ ∃ s a, qst (tyN h) n = .inr s ∧ isQ (wI (tyN h) n s00) ∧ Qd h g' n false [] [] 6 a 0 s) ∧ kI g' 173 1 = 0 := fun g3 v f3 hh => by
    have F3 : kfp Wqa g g3 := f1.tr (f3.wide fun l i z => Or.inl z)
    unfold f_X12_ask_b93
    rw [if_pos kk173]
    rcases hh with ⟨e, he, m3⟩ | ⟨s, a, hs, iq, q3⟩
    · rw [if_neg m3.bad]
      refine ⟨g3, rfl, F3, Or.inl ⟨e, ?_, m3⟩, V1 f3⟩
      unfold qst
      rw [he, pbd_l]
    · obtain ⟨g4, e4, f4, m4⟩ := m_look0 ht n16 q3.1
      have le := lk_end s.2.1 (Md.byte ht n16 m4)
      rw [q3.1.2.2.1, if_pos rfl, e4, kb_s]
      dsimp only
      by_cases y : tkT (tyN h) n s.1 s.2.1 = 1
      · rw [if_pos (le.mpr y)]
        refine ⟨g4, rfl, F3.tr (f4.wide fun l i z => Or.inl (Or.inl z)), Or.inr ⟨s, _, ?_, iq, q3.mv f4 m4 rfl (Nat.le_refl _)⟩, V1 (f3.tr (f4.wide fun l i z => Or.inl z))⟩
        unfold qst qEd
        rw [hs, pbd_r, if_pos y]
      · rw [if_neg (fun z => y (le.mp z))]
        obtain ⟨g5, e5, f5, m5⟩ := m_failS (k := 1) (s := s) m4 (by omega) (by omega)
        have e5' : f_X12_fail g4 173 (1 : Int32) (kI g4 173 2) = some g5 := e5
        rw [e5', kb_s]
        refine ⟨g5, rfl, (F3.tr (f4.wide fun l i z => Or.inl (Or.inl z))).tr (f5.wide fun l i z => Or.inl (Or.inl z)), Or.inl ⟨(1, blE (tyN h) n s.1), ?_, m5⟩, V1 ((f3.tr (f4.wide fun l i z => Or.inl z)).tr (f5.wide fun l i z => Or.inl z))⟩
        unfold qst qEd
        rw [hs, pbd_r, if_neg y]
        rfl
  rw [top]
  by_cases y : isQ (wI (tyN h) n s00)
  · have m2 := iq y
    have q2 : Qd h g2 n false [] [] 6 a2 0 (nxt (tyN h) n s00) := q1.mv f2 m2 rfl (Nat.zero_le _)
    rw [m2.2.2.1, if_pos rfl]
    by_cases t : wI (tyN h) n s00 = 9 ∨ wI (tyN h) n s00 = 22 ∨ wI (tyN h) n s00 = 23
    · have k3 : ¬ (3 : Int32) ≤ Int32.ofNat (qkN (wI (tyN h) n s00)) := by
        rcases t with t | t | t <;> rw [t] <;> decide
      obtain ⟨g3, e3, f3, hh⟩ := m_qTest ht n16 q2
      rw [if_neg k3, e3, kb_s]
      refine b93 g3 _ ((f2.wide fun l i z => Or.inl z).tr f3) ?_
      unfold qbd
      rw [if_pos t]
      rcases hh with ⟨e, he, qe⟩ | ⟨s, a, hs, q3⟩
      · exact Or.inl ⟨e, he, qe.1⟩
      · exact Or.inr ⟨s, a, hs, y, q3⟩
    · have t2 : wI (tyN h) n s00 = 24 ∨ wI (tyN h) n s00 = 25 ∨ wI (tyN h) n s00 = 26 := by
        unfold isQ at y
        omega
      have k3 : (3 : Int32) ≤ Int32.ofNat (qkN (wI (tyN h) n s00)) := by
        rcases t2 with t | t | t <;> rw [t] <;> decide
      obtain ⟨g3, e3, f3, hh⟩ := m_qSums ht n16 (okTs (T := []) trivial) q2
      rw [if_pos k3]
      unfold f_X12_ask_b82
      rw [if_pos kk173, m2.2.2.1, if_pos rfl, e3, kb_s]
      refine b93 g3 _ ((f2.wide fun l i z => Or.inl z).tr f3) ?_
      unfold qbd
      rw [if_neg t, if_pos t2]
      rcases hh with ⟨e, he, qe⟩ | ⟨s, a, hs, q3⟩
      · exact Or.inl ⟨e, he, qe.1⟩
      · exact Or.inr ⟨s, a, hs, y, q3⟩
  · have m2 := niq y
    have m2' : Md h g2 n 0 (.inl (1, blE (tyN h) n 0)) := m2
    rw [if_neg m2'.bad]
    unfold f_X12_ask_b82
    rw [if_pos kk173, if_neg m2'.bad]
    refine b93 g2 _ (f2.wide fun l i z => Or.inl z) (Or.inl ⟨(1, blE (tyN h) n 0), ?_, m2'⟩)
    unfold isQ at y
    unfold qbd
    rw [if_neg (by omega), if_neg (by omega)]
    rfl
