/-! the model is told a row (by mk_r19.py) -/
def Mx (h g : KH) (n : Nat) (r : (Nat × Nat) ⊕ (CTy × PS)) : Prop := match r with
  | .inl e => Md h g n 0 (.inl e)
  | .inr p => (∃ a, Md h g n a (.inr p.2)) ∧ Cm g p.1
def Wtr (l i : Nat) : Prop := Wmn l i ∨ (l = 198 ∧ i < 3) ∨ (l = 199 ∧ i < 18) ∨ (l = 200 ∧ i < 24) ∨ (l = 201 ∧ i < 6) ∨ (l = 202 ∧ i < 10)
theorem Cm.add {g g' : KH} {t : Nat} {C : CTy} {r : Row} (ht : t < 3) (x : Cm g C) (wf : wfB C) (hl : (sel C t).length < 6) (I : ∀ l i, (l = 198 ∧ i < 3 ∧ i ≠ t) ∨ (200 ≤ l ∧ l ≤ 202 ∧ l ≠ 200 + t) ∨ (l = 200 + t ∧ i < (spS t).length * (sel C t).length) ∨ (203 ≤ l ∧ l ≤ 206) ∨ (l = 173 ∧ i = 42) → kI g' l i = kI g l i) (J : ∀ i, i ≠ 6 * t + (sel C t).length → kL g' 199 i = kL g 199 i) (hr : rwM g' t (sel C t).length r) (hn : kI g' 198 t = Int32.ofNat ((sel C t).length + 1)) : Cm g' (addR C t r) := by
  obtain ⟨x1, x2, ⟨x3, x4⟩, x5⟩ := x
  have e2 : (addR C t r).2 = C.2 := rfl
  refine ⟨fun s hs => ?_, fun s hs k hk => ?_, ⟨?_, ?_⟩, ?_⟩
  · rw [sel_add ht r s hs]
    by_cases y : s = t
    · subst y
      rw [if_pos rfl, hn, List.length_append]
      rfl
    · rw [if_neg y]
      exact (I _ _ (Or.inl ⟨rfl, hs, y⟩)).trans (x1 s hs)
  · have l6 := wf.l6 hs
    rw [sel_add ht r s hs] at hk ⊢
    by_cases y : s = t
    · subst y
      rw [if_pos rfl] at hk ⊢
      rw [List.length_append] at hk
      have hk' : k < (sel C s).length + 1 := hk
      rw [getD_snoc hk']
      by_cases z : k = (sel C s).length
      · rw [if_pos z, z]
        exact hr
      · rw [if_neg z]
        obtain ⟨a, b⟩ := x2 s hs k (by omega)
        refine ⟨(J _ (by omega)).trans a, fun j hj => (I _ _ (Or.inr (Or.inr (Or.inl ⟨rfl, ?_⟩)))).trans (b j hj)⟩
        have ml := Nat.mul_le_mul_left (spS s).length (show k + 1 ≤ (sel C s).length by omega)
        rw [Nat.mul_succ] at ml
        omega
    · rw [if_neg y] at hk ⊢
      obtain ⟨a, b⟩ := x2 s hs k hk
      exact ⟨(J _ (by omega)).trans a, fun j hj => (I _ _ (Or.inr (Or.inl ⟨by omega, by omega, by omega⟩))).trans (b j hj)⟩
  · exact (I _ _ (by omega)).trans x3
  · exact (I _ _ (by omega)).trans x4
  · rw [e2]
    cases hC : C.2.2 with
    | none =>
      rw [hC] at x5
      exact ⟨(I _ _ (by omega)).trans x5.1, (I _ _ (by omega)).trans x5.2⟩
    | some d =>
      rw [hC] at x5
      exact ⟨(I _ _ (by omega)).trans x5.1, (I _ _ (by omega)).trans x5.2.1, (I _ _ (by omega)).trans x5.2.2.1, fun i hi => (I _ _ (by omega)).trans (x5.2.2.2 i hi)⟩
theorem m_testTold {h g : KH} {n a : Nat} {C : CTy} {s : PS} (ht : Rtape h) (n16 : n ≤ 1600) (cm : Cm g C) (wf : wfB C) (m : Md h g n a (.inr (nxt (tyN h) n s))) (hs : s.1 ≤ n) : ∃ g', f_X12_testTold g 173 (Int32.ofNat (blE (tyN h) n s.1)) = some g' ∧ kfp Wtr g g' ∧ Mx h g' n (rowS (tyN h) n C 1 6 spT s) := by
  have l7 : (sel C 1).length ≤ 6 := (wf.l6 (s := 1) (by omega)).2
  obtain ⟨k, hk⟩ : ∃ k, (sel C 1).length = k := ⟨_, rfl⟩
  have c0 : kI g 198 1 = Int32.ofNat k := by rw [← hk]; exact cm.1 1 (by omega)
  rw [hk] at l7
  have w4 : (spS 1).length = 1 := rfl
  obtain ⟨g1, e1, f1, a1, a2⟩ := m_isFull (t := 1) (k := k) (mx := 6) (p := blE (tyN h) n s.1) m (by omega) (by omega) (by omega) c0
  have e1' : f_X12_isFull g 173 (1 : Int32) (6 : Int32) (Int32.ofNat (blE (tyN h) n s.1)) = some (if k = 6 then 1 else 0, g1) := e1
  unfold f_X12_testTold rowS
  rw [if_pos kk173, e1', kb_s, hk]
  by_cases y : k = 6
  · rw [if_pos y, if_pos (show 6 ≤ k by omega)]
    dsimp only
    rw [if_neg (by decide)]
    exact ⟨g1, rfl, f1.wide fun l i z => Or.inl (Or.inl z), a1 y⟩
  · rw [a2 y, if_neg y, if_neg (show ¬ 6 ≤ k by omega)]
    dsimp only
    obtain ⟨v, g2, b0, r0, e2, f2, mb0, ra, rb⟩ := m_newName ht n16 cm wf m
    obtain ⟨ga1, va1, gb1, ab1, ea1, -, en1, fb1, mb1, wb1⟩ := m_numBh (j := 6) (lo := 0) (hi := 99) ht n16 (mb0.1.2.2.2.w1 (j := 6) (by omega)) (by omega) (by omega) mb0
    have ea1' : f_X12_asks g2 173 182 = some ga1 := ea1
    have en1' : f_X12_number ga1 173 (0 : Int32) (99 : Int32) = some (va1, gb1) := en1
    have F : kfp Wmn g gb1 := (f2.tr (fb1.wide fun l i z => Or.inl z))
    rw [if_pos rfl, e2, kb_s]
    dsimp only
    rw [rf173_16 mb0.1.1, if_pos (show 182 < 999999 by omega), ea1', kb_s, en1', kb_s]
    dsimp only
    cases hw : nwN (tyN h) n C (nxt (tyN h) n s) with
    | inl e =>
      have er := ra e hw
      subst er
      have e1 : rwS (tyN h) n C spT s = .inl e := by simp only [rwS, hw]
      have e0 : tPR (.inl e) (tBh (tyN h) n 6 0 99) = .inl e := rfl
      rw [e0] at mb1
      rw [e1, if_neg mb1.bad]
      exact ⟨gb1, rfl, F.wide fun l i z => Or.inl z, mb1.l0 (a' := 0)⟩
    | inr w =>
      obtain ⟨er, ev⟩ := rb w hw
      subst er
      cases t1 : tBh (tyN h) n 6 0 99 w.2.2 with
      | inl e =>
        have e1 : rwS (tyN h) n C spT s = .inl e := by simp only [rwS, hw, spT, rdN, t1]
        have e0 : tPR (.inr w.2.2) (tBh (tyN h) n 6 0 99) = .inl e := by simp only [tPR, pbd, nbd, t1]
        rw [e0] at mb1
        rw [e1, if_neg mb1.bad]
        exact ⟨gb1, rfl, F.wide fun l i z => Or.inl z, mb1.l0 (a' := 0)⟩
      | inr p1 =>
        have e1 : rwS (tyN h) n C spT s = .inr ((w.1, w.2.1, [p1.1]), p1.2) := by simp only [rwS, hw, spT, rdN, t1]
        have e0 : tPR (.inr w.2.2) (tBh (tyN h) n 6 0 99) = .inr p1.2 := by simp only [tPR, pbd, nbd, t1]
        have wv1 := wb1 w.2.2 p1.1 p1.2 rfl t1
        rw [e0] at mb1
        have rN := mb1.1.1
        have cN : kI gb1 198 1 = Int32.ofNat k := (F.2.2.1 _ _ (by unfold Wmn Wmp; omega)).trans c0
        obtain ⟨gc, egc⟩ : ∃ gc, gc = ksI (ksL gb1 199 (6 * 1 + k) v) 198 1 (Int32.ofNat (k + 1)) := ⟨_, rfl⟩
        have ad : f_X12_adds gb1 173 (1 : Int32) v = some (Int32.ofNat k, gc) := by rw [egc]; exact m_adds rN (t := 1) (by omega) (by omega) cN v
        have fC : kfp (fun l i => (l = 198 ∧ i = 1) ∨ (l = 199 ∧ i = 6 * 1 + k)) gb1 gc := by rw [egc]; exact (kfp.rf.sL _ (Or.inr ⟨rfl, rfl⟩)).sI _ (Or.inl ⟨rfl, rfl⟩)
        have rC := rN.fp fC
        obtain ⟨gd, egd⟩ : ∃ gd, gd = ksI gc 201 (k) va1 := ⟨_, rfl⟩
        have fD : kfp (fun l i => l = 201 ∧ 1 * k ≤ i ∧ i < 1 * k + 1) gc gd := by rw [egd]; exact (kfp.rf.sI _ ⟨rfl, by omega, by omega⟩)
        rw [e1, if_pos mb1.2.2.1, rf173_36 rN, if_pos (show 201 < 999999 by omega), ad, kb_s]
        dsimp only
        rw [if_pos kk201, kn201, if_neg (by rw [n32_cl (by omega)]; exact fun z => z.elim (n32_nn (by omega)) (by omega)), n32_cl (show k < 2147483648 by omega), kl_e, ← egd]
        have md := (mb1.fp fC fun l i z w => by omega).fp fD fun l i z w => by omega
        have cmN : Cm gb1 C := cm.fp F fun l i z => by unfold Wmn Wmp; omega
        have Fa : kfp Wtr g gb1 := F.wide fun l i z => Or.inl z
        have Fb : kfp Wtr gb1 gc := fC.wide fun l i z => by unfold Wtr; omega
        have Fc : kfp Wtr gc gd := fD.wide fun l i z => by unfold Wtr; omega
        refine ⟨gd, rfl, (Fa.tr Fb).tr Fc, ⟨_, md⟩, ?_⟩
        have hr : rwM gd 1 k (w.1, w.2.1, [p1.1]) := by
          refine ⟨by rw [fD.2.2.2 _ _ (by omega), egc, kL_sI, kL_sL, if_pos ⟨rfl, rfl⟩]; exact ev, fun j hj => ?_⟩
          have hj' : j < 1 := hj
          have ej : j = 0 := by omega
          subst ej
          show kI gd 201 (1 * k) = Int32.ofNat p1.1
          rw [Nat.one_mul]
          rw [egd, kI_sI, if_pos ⟨rfl, rfl⟩]
          exact wv1
        exact cmN.add (t := 1) (r := (w.1, w.2.1, [p1.1])) (by omega) wf (by rw [hk]; omega) (fun l i z => (fD.2.2.1 _ _ (by rw [hk, w4] at z; omega)).trans (fC.2.2.1 _ _ (by omega))) (fun i hi => (fD.2.2.2 _ _ (by omega)).trans (fC.2.2.2 _ _ (by rw [hk] at hi; omega))) (by rw [hk]; exact hr) (by rw [hk, fD.2.2.1 _ _ (by omega), egc, kI_sI, if_pos ⟨rfl, rfl⟩])
theorem m_markTold {h g : KH} {n a : Nat} {C : CTy} {s : PS} (ht : Rtape h) (n16 : n ≤ 1600) (cm : Cm g C) (wf : wfB C) (m : Md h g n a (.inr (nxt (tyN h) n s))) (hs : s.1 ≤ n) : ∃ g', f_X12_markTold g 173 (Int32.ofNat (blE (tyN h) n s.1)) = some g' ∧ kfp Wtr g g' ∧ Mx h g' n (rowS (tyN h) n C 2 5 spM s) := by
  have l7 : (sel C 2).length ≤ 5 := (wf.l6 (s := 2) (by omega)).2
  obtain ⟨k, hk⟩ : ∃ k, (sel C 2).length = k := ⟨_, rfl⟩
  have c0 : kI g 198 2 = Int32.ofNat k := by rw [← hk]; exact cm.1 2 (by omega)
  rw [hk] at l7
  have w4 : (spS 2).length = 2 := rfl
  obtain ⟨g1, e1, f1, a1, a2⟩ := m_isFull (t := 2) (k := k) (mx := 5) (p := blE (tyN h) n s.1) m (by omega) (by omega) (by omega) c0
  have e1' : f_X12_isFull g 173 (2 : Int32) (5 : Int32) (Int32.ofNat (blE (tyN h) n s.1)) = some (if k = 5 then 1 else 0, g1) := e1
  unfold f_X12_markTold rowS
  rw [if_pos kk173, e1', kb_s, hk]
  by_cases y : k = 5
  · rw [if_pos y, if_pos (show 5 ≤ k by omega)]
    dsimp only
    rw [if_neg (by decide)]
    exact ⟨g1, rfl, f1.wide fun l i z => Or.inl (Or.inl z), a1 y⟩
  · rw [a2 y, if_neg y, if_neg (show ¬ 5 ≤ k by omega)]
    dsimp only
    obtain ⟨v, g2, b0, r0, e2, f2, mb0, ra, rb⟩ := m_newName ht n16 cm wf m
    obtain ⟨ga1, va1, gb1, ab1, ea1, -, en1, fb1, mb1, wb1⟩ := m_numBh (j := 3) (lo := 1) (hi := 9) ht n16 (mb0.1.2.2.2.w1 (j := 3) (by omega)) (by omega) (by omega) mb0
    have ea1' : f_X12_asks g2 173 179 = some ga1 := ea1
    have en1' : f_X12_number ga1 173 (1 : Int32) (9 : Int32) = some (va1, gb1) := en1
    obtain ⟨ga2, va2, gb2, ab2, ea2, -, en2, fb2, mb2, wb2⟩ := m_numBh (j := 4) (lo := 1) (hi := 9) ht n16 (mb1.1.2.2.2.w1 (j := 4) (by omega)) (by omega) (by omega) mb1
    have ea2' : f_X12_asks gb1 173 180 = some ga2 := ea2
    have en2' : f_X12_number ga2 173 (1 : Int32) (9 : Int32) = some (va2, gb2) := en2
    have F : kfp Wmn g gb2 := ((f2.tr (fb1.wide fun l i z => Or.inl z)).tr (fb2.wide fun l i z => Or.inl z))
    rw [if_pos rfl, e2, kb_s]
    dsimp only
    rw [rf173_13 mb0.1.1, if_pos (show 179 < 999999 by omega), ea1', kb_s, en1', kb_s]
    dsimp only
    rw [rf173_14 mb1.1.1, if_pos (show 180 < 999999 by omega), ea2', kb_s, en2', kb_s]
    dsimp only
    cases hw : nwN (tyN h) n C (nxt (tyN h) n s) with
    | inl e =>
      have er := ra e hw
      subst er
      have e1 : rwS (tyN h) n C spM s = .inl e := by simp only [rwS, hw]
      have e0 : tPR (tPR (.inl e) (tBh (tyN h) n 3 1 9)) (tBh (tyN h) n 4 1 9) = .inl e := rfl
      rw [e0] at mb2
      rw [e1, if_neg mb2.bad]
      exact ⟨gb2, rfl, F.wide fun l i z => Or.inl z, mb2.l0 (a' := 0)⟩
    | inr w =>
      obtain ⟨er, ev⟩ := rb w hw
      subst er
      cases t1 : tBh (tyN h) n 3 1 9 w.2.2 with
      | inl e =>
        have e1 : rwS (tyN h) n C spM s = .inl e := by simp only [rwS, hw, spM, rdN, t1]
        have e0 : tPR (tPR (.inr w.2.2) (tBh (tyN h) n 3 1 9)) (tBh (tyN h) n 4 1 9) = .inl e := by simp only [tPR, pbd, nbd, t1]
        rw [e0] at mb2
        rw [e1, if_neg mb2.bad]
        exact ⟨gb2, rfl, F.wide fun l i z => Or.inl z, mb2.l0 (a' := 0)⟩
      | inr p1 =>
        cases t2 : tBh (tyN h) n 4 1 9 p1.2 with
        | inl e =>
          have e1 : rwS (tyN h) n C spM s = .inl e := by simp only [rwS, hw, spM, rdN, t1, t2]
          have e0 : tPR (tPR (.inr w.2.2) (tBh (tyN h) n 3 1 9)) (tBh (tyN h) n 4 1 9) = .inl e := by simp only [tPR, pbd, nbd, t1, t2]
          rw [e0] at mb2
          rw [e1, if_neg mb2.bad]
          exact ⟨gb2, rfl, F.wide fun l i z => Or.inl z, mb2.l0 (a' := 0)⟩
        | inr p2 =>
          have e1 : rwS (tyN h) n C spM s = .inr ((w.1, w.2.1, [p1.1, p2.1]), p2.2) := by simp only [rwS, hw, spM, rdN, t1, t2]
          have e0 : tPR (tPR (.inr w.2.2) (tBh (tyN h) n 3 1 9)) (tBh (tyN h) n 4 1 9) = .inr p2.2 := by simp only [tPR, pbd, nbd, t1, t2]
          have wv1 := wb1 w.2.2 p1.1 p1.2 rfl t1
          have wv2 := wb2 p1.2 p2.1 p2.2 (by simp only [tPR, pbd, nbd, t1]) t2
          rw [e0] at mb2
          have rN := mb2.1.1
          have cN : kI gb2 198 2 = Int32.ofNat k := (F.2.2.1 _ _ (by unfold Wmn Wmp; omega)).trans c0
          obtain ⟨gc, egc⟩ : ∃ gc, gc = ksI (ksL gb2 199 (6 * 2 + k) v) 198 2 (Int32.ofNat (k + 1)) := ⟨_, rfl⟩
          have ad : f_X12_adds gb2 173 (2 : Int32) v = some (Int32.ofNat k, gc) := by rw [egc]; exact m_adds rN (t := 2) (by omega) (by omega) cN v
          have fC : kfp (fun l i => (l = 198 ∧ i = 2) ∨ (l = 199 ∧ i = 6 * 2 + k)) gb2 gc := by rw [egc]; exact (kfp.rf.sL _ (Or.inr ⟨rfl, rfl⟩)).sI _ (Or.inl ⟨rfl, rfl⟩)
          have rC := rN.fp fC
          obtain ⟨gd, egd⟩ : ∃ gd, gd = ksI (ksI gc 202 (2 * k) va1) 202 (2 * k + 1) va2 := ⟨_, rfl⟩
          have fD : kfp (fun l i => l = 202 ∧ 2 * k ≤ i ∧ i < 2 * k + 2) gc gd := by rw [egd]; exact ((kfp.rf.sI _ ⟨rfl, by omega, by omega⟩).sI _ ⟨rfl, by omega, by omega⟩)
          rw [e1, if_pos mb2.2.2.1, ad, kb_s]
          dsimp only
          rw [n32_mulr, kl_e, n32_addl]
          rw [rf173_37 rC, if_pos (show 202 < 999999 by omega), if_pos kk202, kn202, if_neg (by rw [n32_cl (by omega)]; exact fun z => z.elim (n32_nn (by omega)) (by omega)), n32_cl (show 2 * k < 2147483648 by omega), kl_e]
          rw [rf173_37 (rC.sI _ _ _), if_pos (show 202 < 999999 by omega), if_pos kk202, kn202, if_neg (by rw [n32_cl (by omega)]; exact fun z => z.elim (n32_nn (by omega)) (by omega)), n32_cl (show 2 * k + 1 < 2147483648 by omega), kl_e]
          rw [← egd]
          have md := (mb2.fp fC fun l i z w => by omega).fp fD fun l i z w => by omega
          have cmN : Cm gb2 C := cm.fp F fun l i z => by unfold Wmn Wmp; omega
          have Fa : kfp Wtr g gb2 := F.wide fun l i z => Or.inl z
          have Fb : kfp Wtr gb2 gc := fC.wide fun l i z => by unfold Wtr; omega
          have Fc : kfp Wtr gc gd := fD.wide fun l i z => by unfold Wtr; omega
          refine ⟨gd, rfl, (Fa.tr Fb).tr Fc, ⟨_, md⟩, ?_⟩
          have hr : rwM gd 2 k (w.1, w.2.1, [p1.1, p2.1]) := by
            refine ⟨by rw [fD.2.2.2 _ _ (by omega), egc, kL_sI, kL_sL, if_pos ⟨rfl, rfl⟩]; exact ev, fun j hj => ?_⟩
            have hj' : j < 2 := hj
            have ej : j = 0 ∨ j = 1 := by omega
            rcases ej with rfl | rfl
            · show kI gd 202 (2 * k) = Int32.ofNat p1.1
              rw [egd, kI_sI, if_neg (by omega), kI_sI, if_pos ⟨rfl, rfl⟩]
              exact wv1
            · show kI gd 202 (2 * k + 1) = Int32.ofNat p2.1
              rw [egd, kI_sI, if_pos ⟨rfl, rfl⟩]
              exact wv2
          exact cmN.add (t := 2) (r := (w.1, w.2.1, [p1.1, p2.1])) (by omega) wf (by rw [hk]; omega) (fun l i z => (fD.2.2.1 _ _ (by rw [hk, w4] at z; omega)).trans (fC.2.2.1 _ _ (by omega))) (fun i hi => (fD.2.2.2 _ _ (by omega)).trans (fC.2.2.2 _ _ (by rw [hk] at hi; omega))) (by rw [hk]; exact hr) (by rw [hk, fD.2.2.1 _ _ (by omega), egc, kI_sI, if_pos ⟨rfl, rfl⟩])
theorem m_kindTold {h g : KH} {n a : Nat} {C : CTy} {s : PS} (ht : Rtape h) (n16 : n ≤ 1600) (cm : Cm g C) (wf : wfB C) (m : Md h g n a (.inr (nxt (tyN h) n s))) (hs : s.1 ≤ n) : ∃ g', f_X12_kindTold g 173 (Int32.ofNat (blE (tyN h) n s.1)) = some g' ∧ kfp Wtr g g' ∧ Mx h g' n (rowS (tyN h) n C 0 6 spK s) := by
  have l7 : (sel C 0).length ≤ 6 := (wf.l6 (s := 0) (by omega)).2
  obtain ⟨k, hk⟩ : ∃ k, (sel C 0).length = k := ⟨_, rfl⟩
  have c0 : kI g 198 0 = Int32.ofNat k := by rw [← hk]; exact cm.1 0 (by omega)
  rw [hk] at l7
  have w4 : (spS 0).length = 4 := rfl
  obtain ⟨g1, e1, f1, a1, a2⟩ := m_isFull (t := 0) (k := k) (mx := 6) (p := blE (tyN h) n s.1) m (by omega) (by omega) (by omega) c0
  have e1' : f_X12_isFull g 173 (0 : Int32) (6 : Int32) (Int32.ofNat (blE (tyN h) n s.1)) = some (if k = 6 then 1 else 0, g1) := e1
  unfold f_X12_kindTold rowS
  rw [if_pos kk173, e1', kb_s, hk]
  by_cases y : k = 6
  · rw [if_pos y, if_pos (show 6 ≤ k by omega)]
    dsimp only
    rw [if_neg (by decide)]
    exact ⟨g1, rfl, f1.wide fun l i z => Or.inl (Or.inl z), a1 y⟩
  · rw [a2 y, if_neg y, if_neg (show ¬ 6 ≤ k by omega)]
    dsimp only
    obtain ⟨v, g2, b0, r0, e2, f2, mb0, ra, rb⟩ := m_newName ht n16 cm wf m
    obtain ⟨ga1, va1, gb1, ab1, ea1, -, en1, fb1, mb1, wb1⟩ := m_numBh (j := 1) (lo := 0) (hi := 99) ht n16 (mb0.1.2.2.2.w1 (j := 1) (by omega)) (by omega) (by omega) mb0
    have ea1' : f_X12_asks g2 173 177 = some ga1 := ea1
    have en1' : f_X12_number ga1 173 (0 : Int32) (99 : Int32) = some (va1, gb1) := en1
    obtain ⟨ga2, va2, gb2, ab2, ea2, -, en2, fb2, mb2, wb2⟩ := m_numBh (j := 2) (lo := 0) (hi := 99) ht n16 (mb1.1.2.2.2.w1 (j := 2) (by omega)) (by omega) (by omega) mb1
    have ea2' : f_X12_asks gb1 173 178 = some ga2 := ea2
    have en2' : f_X12_number ga2 173 (0 : Int32) (99 : Int32) = some (va2, gb2) := en2
    obtain ⟨ga3, va3, gb3, ab3, ea3, -, en3, fb3, mb3, wb3⟩ := m_numBh (j := 3) (lo := 0) (hi := 9) ht n16 (mb2.1.2.2.2.w1 (j := 3) (by omega)) (by omega) (by omega) mb2
    have ea3' : f_X12_asks gb2 173 179 = some ga3 := ea3
    have en3' : f_X12_number ga3 173 (0 : Int32) (9 : Int32) = some (va3, gb3) := en3
    obtain ⟨ga4, va4, gb4, ab4, ea4, -, en4, fb4, mb4, wb4⟩ := m_numBh (j := 4) (lo := 0) (hi := 9) ht n16 (mb3.1.2.2.2.w1 (j := 4) (by omega)) (by omega) (by omega) mb3
    have ea4' : f_X12_asks gb3 173 180 = some ga4 := ea4
    have en4' : f_X12_number ga4 173 (0 : Int32) (9 : Int32) = some (va4, gb4) := en4
    have F : kfp Wmn g gb4 := ((((f2.tr (fb1.wide fun l i z => Or.inl z)).tr (fb2.wide fun l i z => Or.inl z)).tr (fb3.wide fun l i z => Or.inl z)).tr (fb4.wide fun l i z => Or.inl z))
    rw [if_pos rfl, e2, kb_s]
    dsimp only
    rw [rf173_11 mb0.1.1, if_pos (show 177 < 999999 by omega), ea1', kb_s, en1', kb_s]
    dsimp only
    rw [rf173_12 mb1.1.1, if_pos (show 178 < 999999 by omega), ea2', kb_s, en2', kb_s]
    dsimp only
    rw [rf173_13 mb2.1.1, if_pos (show 179 < 999999 by omega), ea3', kb_s, en3', kb_s]
    dsimp only
    rw [rf173_14 mb3.1.1, if_pos (show 180 < 999999 by omega), ea4', kb_s, en4', kb_s]
    dsimp only
    cases hw : nwN (tyN h) n C (nxt (tyN h) n s) with
    | inl e =>
      have er := ra e hw
      subst er
      have e1 : rwS (tyN h) n C spK s = .inl e := by simp only [rwS, hw]
      have e0 : tPR (tPR (tPR (tPR (.inl e) (tBh (tyN h) n 1 0 99)) (tBh (tyN h) n 2 0 99)) (tBh (tyN h) n 3 0 9)) (tBh (tyN h) n 4 0 9) = .inl e := rfl
      rw [e0] at mb4
      rw [e1, if_neg mb4.bad]
      exact ⟨gb4, rfl, F.wide fun l i z => Or.inl z, mb4.l0 (a' := 0)⟩
    | inr w =>
      obtain ⟨er, ev⟩ := rb w hw
      subst er
      cases t1 : tBh (tyN h) n 1 0 99 w.2.2 with
      | inl e =>
        have e1 : rwS (tyN h) n C spK s = .inl e := by simp only [rwS, hw, spK, rdN, t1]
        have e0 : tPR (tPR (tPR (tPR (.inr w.2.2) (tBh (tyN h) n 1 0 99)) (tBh (tyN h) n 2 0 99)) (tBh (tyN h) n 3 0 9)) (tBh (tyN h) n 4 0 9) = .inl e := by simp only [tPR, pbd, nbd, t1]
        rw [e0] at mb4
        rw [e1, if_neg mb4.bad]
        exact ⟨gb4, rfl, F.wide fun l i z => Or.inl z, mb4.l0 (a' := 0)⟩
      | inr p1 =>
        cases t2 : tBh (tyN h) n 2 0 99 p1.2 with
        | inl e =>
          have e1 : rwS (tyN h) n C spK s = .inl e := by simp only [rwS, hw, spK, rdN, t1, t2]
          have e0 : tPR (tPR (tPR (tPR (.inr w.2.2) (tBh (tyN h) n 1 0 99)) (tBh (tyN h) n 2 0 99)) (tBh (tyN h) n 3 0 9)) (tBh (tyN h) n 4 0 9) = .inl e := by simp only [tPR, pbd, nbd, t1, t2]
          rw [e0] at mb4
          rw [e1, if_neg mb4.bad]
          exact ⟨gb4, rfl, F.wide fun l i z => Or.inl z, mb4.l0 (a' := 0)⟩
        | inr p2 =>
          cases t3 : tBh (tyN h) n 3 0 9 p2.2 with
          | inl e =>
            have e1 : rwS (tyN h) n C spK s = .inl e := by simp only [rwS, hw, spK, rdN, t1, t2, t3]
            have e0 : tPR (tPR (tPR (tPR (.inr w.2.2) (tBh (tyN h) n 1 0 99)) (tBh (tyN h) n 2 0 99)) (tBh (tyN h) n 3 0 9)) (tBh (tyN h) n 4 0 9) = .inl e := by simp only [tPR, pbd, nbd, t1, t2, t3]
            rw [e0] at mb4
            rw [e1, if_neg mb4.bad]
            exact ⟨gb4, rfl, F.wide fun l i z => Or.inl z, mb4.l0 (a' := 0)⟩
          | inr p3 =>
            cases t4 : tBh (tyN h) n 4 0 9 p3.2 with
            | inl e =>
              have e1 : rwS (tyN h) n C spK s = .inl e := by simp only [rwS, hw, spK, rdN, t1, t2, t3, t4]
              have e0 : tPR (tPR (tPR (tPR (.inr w.2.2) (tBh (tyN h) n 1 0 99)) (tBh (tyN h) n 2 0 99)) (tBh (tyN h) n 3 0 9)) (tBh (tyN h) n 4 0 9) = .inl e := by simp only [tPR, pbd, nbd, t1, t2, t3, t4]
              rw [e0] at mb4
              rw [e1, if_neg mb4.bad]
              exact ⟨gb4, rfl, F.wide fun l i z => Or.inl z, mb4.l0 (a' := 0)⟩
            | inr p4 =>
              have e1 : rwS (tyN h) n C spK s = .inr ((w.1, w.2.1, [p1.1, p2.1, p3.1, p4.1]), p4.2) := by simp only [rwS, hw, spK, rdN, t1, t2, t3, t4]
              have e0 : tPR (tPR (tPR (tPR (.inr w.2.2) (tBh (tyN h) n 1 0 99)) (tBh (tyN h) n 2 0 99)) (tBh (tyN h) n 3 0 9)) (tBh (tyN h) n 4 0 9) = .inr p4.2 := by simp only [tPR, pbd, nbd, t1, t2, t3, t4]
              have wv1 := wb1 w.2.2 p1.1 p1.2 rfl t1
              have wv2 := wb2 p1.2 p2.1 p2.2 (by simp only [tPR, pbd, nbd, t1]) t2
              have wv3 := wb3 p2.2 p3.1 p3.2 (by simp only [tPR, pbd, nbd, t1, t2]) t3
              have wv4 := wb4 p3.2 p4.1 p4.2 (by simp only [tPR, pbd, nbd, t1, t2, t3]) t4
              rw [e0] at mb4
              have rN := mb4.1.1
              have cN : kI gb4 198 0 = Int32.ofNat k := (F.2.2.1 _ _ (by unfold Wmn Wmp; omega)).trans c0
              obtain ⟨gc, egc⟩ : ∃ gc, gc = ksI (ksL gb4 199 (6 * 0 + k) v) 198 0 (Int32.ofNat (k + 1)) := ⟨_, rfl⟩
              have ad : f_X12_adds gb4 173 (0 : Int32) v = some (Int32.ofNat k, gc) := by rw [egc]; exact m_adds rN (t := 0) (by omega) (by omega) cN v
              have fC : kfp (fun l i => (l = 198 ∧ i = 0) ∨ (l = 199 ∧ i = 6 * 0 + k)) gb4 gc := by rw [egc]; exact (kfp.rf.sL _ (Or.inr ⟨rfl, rfl⟩)).sI _ (Or.inl ⟨rfl, rfl⟩)
              have rC := rN.fp fC
              obtain ⟨gd, egd⟩ : ∃ gd, gd = ksI (ksI (ksI (ksI gc 200 (4 * k) va1) 200 (4 * k + 1) va2) 200 (4 * k + 2) va3) 200 (4 * k + 3) va4 := ⟨_, rfl⟩
              have fD : kfp (fun l i => l = 200 ∧ 4 * k ≤ i ∧ i < 4 * k + 4) gc gd := by rw [egd]; exact ((((kfp.rf.sI _ ⟨rfl, by omega, by omega⟩).sI _ ⟨rfl, by omega, by omega⟩).sI _ ⟨rfl, by omega, by omega⟩).sI _ ⟨rfl, by omega, by omega⟩)
              rw [e1, if_pos mb4.2.2.1, ad, kb_s]
              dsimp only
              rw [n32_mulr, kl_e, n32_addl, n32_addl, n32_addl]
              rw [rf173_35 rC, if_pos (show 200 < 999999 by omega), if_pos kk200, kn200, if_neg (by rw [n32_cl (by omega)]; exact fun z => z.elim (n32_nn (by omega)) (by omega)), n32_cl (show 4 * k < 2147483648 by omega), kl_e]
              rw [rf173_35 (rC.sI _ _ _), if_pos (show 200 < 999999 by omega), if_pos kk200, kn200, if_neg (by rw [n32_cl (by omega)]; exact fun z => z.elim (n32_nn (by omega)) (by omega)), n32_cl (show 4 * k + 1 < 2147483648 by omega), kl_e]
              rw [rf173_35 ((rC.sI _ _ _).sI _ _ _), if_pos (show 200 < 999999 by omega), if_pos kk200, kn200, if_neg (by rw [n32_cl (by omega)]; exact fun z => z.elim (n32_nn (by omega)) (by omega)), n32_cl (show 4 * k + 2 < 2147483648 by omega), kl_e]
              rw [rf173_35 (((rC.sI _ _ _).sI _ _ _).sI _ _ _), if_pos (show 200 < 999999 by omega), if_pos kk200, kn200, if_neg (by rw [n32_cl (by omega)]; exact fun z => z.elim (n32_nn (by omega)) (by omega)), n32_cl (show 4 * k + 3 < 2147483648 by omega), kl_e]
              rw [← egd]
              have md := (mb4.fp fC fun l i z w => by omega).fp fD fun l i z w => by omega
              have cmN : Cm gb4 C := cm.fp F fun l i z => by unfold Wmn Wmp; omega
              have Fa : kfp Wtr g gb4 := F.wide fun l i z => Or.inl z
              have Fb : kfp Wtr gb4 gc := fC.wide fun l i z => by unfold Wtr; omega
              have Fc : kfp Wtr gc gd := fD.wide fun l i z => by unfold Wtr; omega
              refine ⟨gd, rfl, (Fa.tr Fb).tr Fc, ⟨_, md⟩, ?_⟩
              have hr : rwM gd 0 k (w.1, w.2.1, [p1.1, p2.1, p3.1, p4.1]) := by
                refine ⟨by rw [fD.2.2.2 _ _ (by omega), egc, kL_sI, kL_sL, if_pos ⟨rfl, rfl⟩]; exact ev, fun j hj => ?_⟩
                have hj' : j < 4 := hj
                have ej : j = 0 ∨ j = 1 ∨ j = 2 ∨ j = 3 := by omega
                rcases ej with rfl | rfl | rfl | rfl
                · show kI gd 200 (4 * k) = Int32.ofNat p1.1
                  rw [egd, kI_sI, if_neg (by omega), kI_sI, if_neg (by omega), kI_sI, if_neg (by omega), kI_sI, if_pos ⟨rfl, rfl⟩]
                  exact wv1
                · show kI gd 200 (4 * k + 1) = Int32.ofNat p2.1
                  rw [egd, kI_sI, if_neg (by omega), kI_sI, if_neg (by omega), kI_sI, if_pos ⟨rfl, rfl⟩]
                  exact wv2
                · show kI gd 200 (4 * k + 2) = Int32.ofNat p3.1
                  rw [egd, kI_sI, if_neg (by omega), kI_sI, if_pos ⟨rfl, rfl⟩]
                  exact wv3
                · show kI gd 200 (4 * k + 3) = Int32.ofNat p4.1
                  rw [egd, kI_sI, if_pos ⟨rfl, rfl⟩]
                  exact wv4
              exact cmN.add (t := 0) (r := (w.1, w.2.1, [p1.1, p2.1, p3.1, p4.1])) (by omega) wf (by rw [hk]; omega) (fun l i z => (fD.2.2.1 _ _ (by rw [hk, w4] at z; omega)).trans (fC.2.2.1 _ _ (by omega))) (fun i hi => (fD.2.2.2 _ _ (by omega)).trans (fC.2.2.2 _ _ (by rw [hk] at hi; omega))) (by rw [hk]; exact hr) (by rw [hk, fD.2.2.1 _ _ (by omega), egc, kI_sI, if_pos ⟨rfl, rfl⟩])
