/-! the model is told a statement -/
def Wsm (l i : Nat) : Prop := Wtr l i ∨ Wlt l i ∨ (l = 203 ∧ i < 2) ∨ (l = 173 ∧ i = 43)
theorem Wsm.m {l i : Nat} (z : Wmp l i) : Wsm l i := Or.inl (Or.inl (Or.inl z))
theorem m_b146 {h g q : KH} {n mm : Nat} {C : CTy} {s : PS} (ht : Rtape h) (n16 : n ≤ 1600) (k43 : kI g 173 43 = Int32.ofNat mm) (f : kfp (fun l i => Wsm l i ∧ ¬ (l = 173 ∧ i = 43)) g q) (x : Mx h q n (stB (tyN h) n C s)) : ∃ g', f_X12_statementTold_b146 q 173 = some g' ∧ kfp Wsm g g' ∧ kI g' 173 43 = Int32.ofNat (mm + 1) ∧ Mx h g' n (stm (tyN h) n C s) := by
  have sg : isSg 59 := ⟨by omega, rfl, rfl⟩
  have F : kfp Wsm g q := f.wide fun l i z => z.1
  have q43 : kI q 173 43 = Int32.ofNat mm := (f.2.2.1 173 43 fun z => z.2 ⟨rfl, rfl⟩).trans k43
  unfold f_X12_statementTold_b146 stm
  cases hB : stB (tyN h) n C s with
  | inl e =>
    rw [hB] at x
    have md : Md h q n 0 (.inl e) := x
    obtain ⟨q1, a1, e1, f1, m1⟩ := m_asksSign (c := 59) ht n16 sg md
    have e1' : f_X12_asksSign q 173 (59 : Int32) = some q1 := e1
    have c43 : kI q1 173 43 = Int32.ofNat mm := (f1.2.2.1 _ _ (by unfold Wmp; omega)).trans q43
    have f2 : kfp (fun l i => l = 173 ∧ i = 43) q1 (ksI q1 173 43 (Int32.ofNat (mm + 1))) := kfp.rf.sI _ ⟨rfl, rfl⟩
    rw [if_pos kk173, e1', kb_s, c43, n32_addl, kl_e]
    exact ⟨_, rfl, (F.tr (f1.wide fun l i z => Wsm.m z)).tr (f2.wide fun l i z => by unfold Wsm; omega), by rw [kI_sI, if_pos ⟨rfl, rfl⟩], (m1.fp f2 fun l i z w => by omega).l0 (a' := 0)⟩
  | inr r =>
    rw [hB] at x
    obtain ⟨⟨a, md⟩, cm⟩ : (∃ a, Md h q n a (.inr r.2)) ∧ Cm q r.1 := x
    obtain ⟨q1, a1, e1, f1, m1⟩ := m_asksSign (c := 59) ht n16 sg md
    have e1' : f_X12_asksSign q 173 (59 : Int32) = some q1 := e1
    rw [pbd_r] at m1
    have c43 : kI q1 173 43 = Int32.ofNat mm := (f1.2.2.1 _ _ (by unfold Wmp; omega)).trans q43
    have f2 : kfp (fun l i => l = 173 ∧ i = 43) q1 (ksI q1 173 43 (Int32.ofNat (mm + 1))) := kfp.rf.sI _ ⟨rfl, rfl⟩
    rw [if_pos kk173, e1', kb_s, c43, n32_addl, kl_e]
    have m2 := m1.fp f2 fun l i z w => by omega
    have cm2 : Cm (ksI q1 173 43 (Int32.ofNat (mm + 1))) r.1 := (cm.fp f1 fun l i z => by unfold Wmp; omega).fp f2 fun l i z w => by omega
    refine ⟨_, rfl, (F.tr (f1.wide fun l i z => Wsm.m z)).tr (f2.wide fun l i z => by unfold Wsm; omega), by rw [kI_sI, if_pos ⟨rfl, rfl⟩], ?_⟩
    dsimp only
    cases hS : wS (tyN h) n 59 r.2 with
    | inl e =>
      rw [hS] at m2
      exact m2.l0 (a' := 0)
    | inr s2 =>
      rw [hS] at m2
      exact ⟨⟨_, m2⟩, cm2⟩
theorem m_stm {h g : KH} {n mm : Nat} {C : CTy} {s : PS} (ht : Rtape h) (n16 : n ≤ 1600) (cm : Cm g C) (wf : wfB C) (m : MdS h g n s) (k43 : kI g 173 43 = Int32.ofNat mm) (hm : mm < 60) : ∃ g', f_X12_statementTold g 173 = some g' ∧ kfp Wsm g g' ∧ kI g' 173 43 = Int32.ofNat (mm + 1) ∧ Mx h g' n (stm (tyN h) n C s) := by
  have hs : s.1 ≤ n := m.2.1
  have rg := m.1.1
  have c2 : kI g 173 2 = Int32.ofNat (blE (tyN h) n s.1) := m.2.2.2.2.2.2.1
  have nm : ∀ {W : Nat → Nat → Prop} {q q' : KH}, kfp W q q' → (∀ l i, W l i → Wsm l i ∧ ¬ (l = 173 ∧ i = 43)) → kfp (fun l i => Wsm l i ∧ ¬ (l = 173 ∧ i = 43)) q q' := fun f hd => f.wide hd
  have wm : ∀ l i, Wmp l i → Wsm l i ∧ ¬ (l = 173 ∧ i = 43) := fun l i z => ⟨Wsm.m z, by unfold Wmp at z; omega⟩
  have wt : ∀ l i, Wtr l i → Wsm l i ∧ ¬ (l = 173 ∧ i = 43) := fun l i z => ⟨Or.inl z, by unfold Wtr Wmn Wmp at z; omega⟩
  have wl : ∀ l i, Wlt l i → Wsm l i ∧ ¬ (l = 173 ∧ i = 43) := fun l i z => ⟨Or.inr (Or.inl z), by unfold Wlt Wq2 Wmp at z; omega⟩
  have cf : ∀ {q q'}, kfp Wmp q q' → Cm q C → Cm q' C := fun f x => x.fp f fun l i z => by unfold Wmp; omega
  unfold f_X12_statementTold
  rw [if_pos kk173, kl_e, k43, if_neg (by rw [n32_eql (by omega) (by omega)]; omega), c2, rf173_10 rg, if_pos (show 176 < 999999 by omega)]
  -- KIND
  obtain ⟨g1, e1, f1, a1, b1⟩ := m_takes ht n16 (m.1.2.2.2.w1 (j := 0) (by omega)) m
  have e1' : f_X12_takes g 173 176 = some (if wI (tyN h) n s = 0 then 1 else 0, g1) := e1
  rw [e1', kb_s]
  by_cases y0 : wI (tyN h) n s = 0
  · obtain ⟨q, e, f, x⟩ := m_kindTold ht n16 (cf f1 cm) wf (a1 y0) hs
    rw [if_pos y0]
    dsimp only
    rw [if_neg (by decide), e, kb_s]
    exact m_b146 ht n16 k43 ((nm f1 wm).tr (nm f wt)) (by unfold stB; rw [if_pos y0]; exact x)
  rw [if_neg y0, if_pos rfl]
  have m1 := b1 y0
  dsimp only
  rw [rf173_15 m1.1.1, if_pos (show 181 < 999999 by omega)]
  -- TEST
  obtain ⟨g2, e2, f2, a2, b2⟩ := m_takes ht n16 (m1.1.2.2.2.w1 (j := 5) (by omega)) m1
  have e2' : f_X12_takes g1 173 181 = some (if wI (tyN h) n s = 5 then 1 else 0, g2) := e2
  rw [e2', kb_s]
  have F2 := f1.tr f2
  by_cases y5 : wI (tyN h) n s = 5
  · obtain ⟨q, e, f, x⟩ := m_testTold ht n16 (cf F2 cm) wf (a2 y5) hs
    rw [if_pos y5]
    dsimp only
    rw [if_neg (by decide), e, kb_s]
    exact m_b146 ht n16 k43 ((nm F2 wm).tr (nm f wt)) (by unfold stB; rw [if_neg y0, if_pos y5]; exact x)
  rw [if_neg y5, if_pos rfl]
  have m2 := b2 y5
  dsimp only
  rw [rf173_17 m2.1.1, if_pos (show 183 < 999999 by omega)]
  -- MARK
  obtain ⟨g3, e3, f3, a3, b3⟩ := m_takes ht n16 (m2.1.2.2.2.w1 (j := 7) (by omega)) m2
  have e3' : f_X12_takes g2 173 183 = some (if wI (tyN h) n s = 7 then 1 else 0, g3) := e3
  rw [e3', kb_s]
  have F3 := F2.tr f3
  by_cases y7 : wI (tyN h) n s = 7
  · obtain ⟨q, e, f, x⟩ := m_markTold ht n16 (cf F3 cm) wf (a3 y7) hs
    rw [if_pos y7]
    dsimp only
    rw [if_neg (by decide), e, kb_s]
    exact m_b146 ht n16 k43 ((nm F3 wm).tr (nm f wt)) (by unfold stB; rw [if_neg y0, if_neg y5, if_pos y7]; exact x)
  rw [if_neg y7, if_pos rfl]
  have m3 := b3 y7
  dsimp only
  rw [rf173_18 m3.1.1, if_pos (show 184 < 999999 by omega)]
  -- YIELDS
  obtain ⟨g4, e4, f4, a4, b4⟩ := m_takes ht n16 (m3.1.2.2.2.w1 (j := 8) (by omega)) m3
  have e4' : f_X12_takes g3 173 184 = some (if wI (tyN h) n s = 8 then 1 else 0, g4) := e4
  rw [e4', kb_s]
  have F4 := F3.tr f4
  by_cases y8 : wI (tyN h) n s = 8
  · obtain ⟨q, e, f, x⟩ := m_lawTold ht n16 (cf F4 cm) (a4 y8)
    rw [if_pos y8]
    dsimp only
    rw [if_neg (by decide), e, kb_s]
    exact m_b146 ht n16 k43 ((nm F4 wm).tr (nm f wl)) (by unfold stB; rw [if_neg y0, if_neg y5, if_neg y7, if_pos y8]; exact x)
  rw [if_neg y8, if_pos rfl]
  have m4 := b4 y8
  dsimp only
  rw [rf173_19 m4.1.1, if_pos (show 185 < 999999 by omega)]
  -- FIRST
  obtain ⟨g5, e5, f5, a5, b5⟩ := m_takes ht n16 (m4.1.2.2.2.w1 (j := 9) (by omega)) m4
  have e5' : f_X12_takes g4 173 185 = some (if wI (tyN h) n s = 9 then 1 else 0, g5) := e5
  rw [e5', kb_s]
  have F5 := F4.tr f5
  by_cases y9 : wI (tyN h) n s = 9
  · have m5 := a5 y9
    obtain ⟨v, g6, a6, e6, f6, m6, w6⟩ := m_number (lo := 1) (hi := 99) ht n16 (by omega) (by omega) m5
    have e6' : f_X12_number g5 173 (1 : Int32) (99 : Int32) = some (v, g6) := e6
    have r5 := m5.1.1
    obtain ⟨g7, eg7⟩ : ∃ g7, g7 = ksI g6 203 0 v := ⟨_, rfl⟩
    have f7 : kfp (fun l i => l = 203 ∧ i = 0) g6 g7 := by rw [eg7]; exact kfp.rf.sI _ ⟨rfl, rfl⟩
    rw [if_pos y9]
    dsimp only
    rw [if_neg (by decide)]
    rw [rf173_38 r5, if_pos (show 203 < 999999 by omega), e6', kb_s, if_pos kk203, kn203, if_neg (show ¬ 4 ≤ 0 by omega), kl_e, ← eg7]
    have m7 := m6.fp f7 fun l i z w => by omega
    refine m_b146 ht n16 k43 ((nm (F5.tr f6) wm).tr (nm f7 fun l i z => by unfold Wsm; omega)) ?_
    have tw : tBh (tyN h) n 9 1 99 s = wNum (tyN h) n 1 99 (nxt (tyN h) n s) := by
      unfold tBh wW
      rw [if_pos y9]
    unfold stB
    rw [if_neg y0, if_neg y5, if_neg y7, if_neg y8, if_pos y9, tw]
    cases hw : wNum (tyN h) n 1 99 (nxt (tyN h) n s) with
    | inl e =>
      rw [hw] at m7
      exact m7.l0 (a' := 0)
    | inr p =>
      rw [hw] at m7
      have cm6 : Cm g6 C := cf (F5.tr f6) cm
      refine ⟨⟨_, m7⟩, cm6.mk3 rfl (fun l i z => f7.2.2.1 _ _ (by omega)) (fun i => f7.2.2.2 _ _ (by omega)) ⟨?_, (f7.2.2.1 _ _ (by omega)).trans cm6.2.2.1.2⟩ ?_⟩
      · rw [eg7, kI_sI, if_pos ⟨rfl, rfl⟩]
        exact w6 p.1 p.2 hw
      · exact cm6.rule fun l i z => f7.2.2.1 _ _ (by omega)
  rw [if_neg y9, if_pos rfl]
  have m5 := b5 y9
  dsimp only
  rw [rf173_20 m5.1.1, if_pos (show 186 < 999999 by omega)]
  -- PRICE
  obtain ⟨ga, v, g6, a6, ea, ra, e6, f6, m6, w6⟩ := m_numBh (j := 10) (lo := 0) (hi := 9999) ht n16 (m5.1.2.2.2.w1 (j := 10) (by omega)) (by omega) (by omega) m5
  have ea' : f_X12_asks g5 173 186 = some ga := ea
  have e6' : f_X12_number ga 173 (0 : Int32) (9999 : Int32) = some (v, g6) := e6
  obtain ⟨g7, eg7⟩ : ∃ g7, g7 = ksI g6 203 1 v := ⟨_, rfl⟩
  have f7 : kfp (fun l i => l = 203 ∧ i = 1) g6 g7 := by rw [eg7]; exact kfp.rf.sI _ ⟨rfl, rfl⟩
  rw [ea', kb_s, rf173_38 ra, if_pos (show 203 < 999999 by omega), e6', kb_s, if_pos kk203, kn203, if_neg (show ¬ 4 ≤ 1 by omega), kl_e, ← eg7]
  have m7 := m6.fp f7 fun l i z w => by omega
  refine m_b146 ht n16 k43 ((nm (F5.tr f6) wm).tr (nm f7 fun l i z => by unfold Wsm; omega)) ?_
  unfold stB
  rw [if_neg y0, if_neg y5, if_neg y7, if_neg y8, if_neg y9]
  by_cases y10 : wI (tyN h) n s = 10
  · rw [if_pos y10]
    cases hw : tBh (tyN h) n 10 0 9999 s with
    | inl e =>
      have e0 : tPR (.inr s) (tBh (tyN h) n 10 0 9999) = .inl e := by simp only [tPR, pbd, nbd, hw]
      rw [e0] at m7
      exact m7.l0 (a' := 0)
    | inr p =>
      have e0 : tPR (.inr s) (tBh (tyN h) n 10 0 9999) = .inr p.2 := by simp only [tPR, pbd, nbd, hw]
      rw [e0] at m7
      have cm6 : Cm g6 C := cf (F5.tr f6) cm
      refine ⟨⟨_, m7⟩, cm6.mk3 rfl (fun l i z => f7.2.2.1 _ _ (by omega)) (fun i => f7.2.2.2 _ _ (by omega)) ⟨(f7.2.2.1 _ _ (by omega)).trans cm6.2.2.1.1, ?_⟩ ?_⟩
      · rw [eg7, kI_sI, if_pos ⟨rfl, rfl⟩]
        exact w6 s p.1 p.2 rfl hw
      · exact cm6.rule fun l i z => f7.2.2.1 _ _ (by omega)
  · rw [if_neg y10]
    have tw : tBh (tyN h) n 10 0 9999 s = .inl (1, blE (tyN h) n s.1) := by
      unfold tBh wW
      rw [if_neg y10]
      rfl
    have e0 : tPR (.inr s) (tBh (tyN h) n 10 0 9999) = .inl (1, blE (tyN h) n s.1) := by simp only [tPR, pbd, nbd, tw]
    rw [e0] at m7
    exact m7.l0 (a' := 0)
