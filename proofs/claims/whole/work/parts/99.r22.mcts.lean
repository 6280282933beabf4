/-! the model reads all statements -/
theorem cts_end {b : Nat → Nat} {n : Nat} {s : PS} (h : tkT b n s.1 s.2.1 = 1) (f m : Nat) (C : CTy) : cts b n f m C s = .inr (m, C) := by
  cases f with
  | zero => rw [cts, if_pos h]
  | succ f => rw [cts, if_pos h]
/-- how the model's reading ends -/
def MxE (h g : KH) (n : Nat) : Prop := (∃ e, Md h g n 0 (.inl e) ∧ cts (tyN h) n 60 0 CT0 s00 = .inl e) ∨ ∃ mm C s a, mm ≤ 60 ∧ kI g 173 43 = Int32.ofNat mm ∧ Md h g n a (.inr s) ∧ Cm g C ∧ wfB C ∧ cts (tyN h) n 60 0 CT0 s00 = .inr (mm, C)
theorem m_ctsLoop {h g : KH} {n a : Nat} (ht : Rtape h) (n16 : n ≤ 1600) (m : Md h g n a (.inr s00)) (cm : Cm g CT0) (k43 : kI g 173 43 = 0) : ∃ g', kloop (f_X12_court_l87 173) KF g = some g' ∧ kfp Wsm g g' ∧ MxE h g' n := by
  refine kloop_KF (body := f_X12_court_l87 173) (fun k q => kfp Wsm g q ∧ ((∃ e, k = 0 ∧ Md h q n 0 (.inl e) ∧ cts (tyN h) n 60 0 CT0 s00 = .inl e) ∨ ∃ mm C s a, k = 61 - mm ∧ mm ≤ 60 ∧ kI q 173 43 = Int32.ofNat mm ∧ Md h q n a (.inr s) ∧ Cm q C ∧ wfB C ∧ cts (tyN h) n (60 - mm) mm C s = cts (tyN h) n 60 0 CT0 s00)) (fun r => kfp Wsm g r ∧ MxE h r n) (fun k q hP => ?_) (n := 61 - 0) (by omega) ⟨kfp.rf, Or.inr ⟨0, CT0, s00, a, rfl, by omega, k43, m, cm, wfB_0, rfl⟩⟩
  obtain ⟨fq, hP⟩ := hP
  rcases hP with ⟨e, hk, md, he⟩ | ⟨mm, C, s, a, hk, m60, q43, md, cq, wf, he⟩
  · refine Or.inl ⟨q, ?_, fq, Or.inl ⟨e, md, he⟩⟩
    unfold f_X12_court_l87
    rw [if_pos kk173, if_neg md.bad]
  · obtain ⟨g1, e1, f1, m1⟩ := m_look0 ht n16 md
    have le := lk_end s.2.1 (Md.byte ht n16 m1)
    have F1 : kfp Wsm g g1 := fq.tr (f1.wide fun l i z => Wsm.m z)
    have c1 : Cm g1 C := cq.fp f1 fun l i z => by unfold Wmp; omega
    have k1 : kI g1 173 43 = Int32.ofNat mm := (f1.2.2.1 _ _ (by unfold Wmp; omega)).trans q43
    have top : f_X12_court_l87 173 q = (if lkI (tyN h) n s.1 = (-1 : Int32) then some (.inr g1) else kb (f_X12_statementTold g1 173) fun r8 => some (.inl r8)) := by
      unfold f_X12_court_l87
      rw [if_pos kk173, md.2.2.1, if_pos rfl, e1, kb_s]
    rw [top]
    by_cases y : tkT (tyN h) n s.1 s.2.1 = 1
    · rw [if_pos (le.mpr y)]
      refine Or.inl ⟨g1, rfl, F1, Or.inr ⟨mm, C, s, _, m60, k1, m1, c1, wf, ?_⟩⟩
      rw [← he, cts_end y]
    · rw [if_neg (fun z => y (le.mp z))]
      by_cases z : mm = 60
      · subst z
        have c2 : kI g1 173 2 = Int32.ofNat (blE (tyN h) n s.1) := m1.2.2.2.2.2.2.1
        obtain ⟨g2, e2, f2, m2⟩ := m_failR (k := 5) (pl := blE (tyN h) n s.1) m1.1 m1.2.2.1 (by omega) (by omega)
        have e2' : f_X12_fail g1 173 (5 : Int32) (Int32.ofNat (blE (tyN h) n s.1)) = some g2 := e2
        refine Or.inr ⟨0, g2, by omega, ?_, F1.tr (f2.wide fun l i z => Wsm.m z), Or.inl ⟨_, rfl, m2, ?_⟩⟩
        · unfold f_X12_statementTold
          rw [if_pos kk173, kl_e, k1, if_pos (by decide), c2, e2', kb_s, kb_s]
        · rw [← he, show 60 - 60 = 0 from rfl, cts, if_neg y]
      · obtain ⟨g2, e2, f2, k2, x2⟩ := m_stm ht n16 c1 wf m1 k1 (by omega)
        have f6 : 60 - mm = (60 - (mm + 1)) + 1 := by omega
        rw [f6, cts, if_neg y] at he
        rw [e2, kb_s]
        cases hS : stm (tyN h) n C s with
        | inl e =>
          rw [hS] at x2 he
          exact Or.inr ⟨0, g2, by omega, rfl, F1.tr f2, Or.inl ⟨e, rfl, x2, he.symm⟩⟩
        | inr r =>
          rw [hS] at x2 he
          obtain ⟨⟨a2, m2⟩, c2⟩ : (∃ a, Md h g2 n a (.inr r.2)) ∧ Cm g2 r.1 := x2
          exact Or.inr ⟨61 - (mm + 1), g2, by omega, rfl, F1.tr f2, Or.inr ⟨mm + 1, r.1, r.2, a2, rfl, by omega, k2, m2, c2, (stm_b n16 wf md.2.1 hS).1, he⟩⟩
def Wmc (l i : Nat) : Prop := Wsm l i ∨ (l = 173 ∧ (i = 1 ∨ i = 3))
theorem m_zero3 {g : KH} (rg : kRefs g) : ∃ g', kloop (f_X12_court_l45 173) KF ((0 : Int32), g) = some g' ∧ kfp (fun l i => l = 198 ∧ i < 3) g g' ∧ ∀ s, s < 3 → kI g' 198 s = 0 := by
  refine kloop_inv (body := f_X12_court_l45 173) (fun k st => st.1 = Int32.ofNat k ∧ kfp (fun l i => l = 198 ∧ i < 3) g st.2 ∧ ∀ s, s < k → kI st.2 198 s = 0) (fun r => kfp (fun l i => l = 198 ∧ i < 3) g r ∧ ∀ s, s < 3 → kI r 198 s = 0) 3 (by omega) ⟨rfl, kfp.rf, fun i hi => absurd hi (Nat.not_lt_zero _)⟩ (fun k st hk hP => ?_) (fun st hP => ?_)
  · obtain ⟨i, q⟩ := st
    obtain ⟨p1, p2, p3⟩ := hP
    dsimp only at p1 p2 p3
    subst p1
    have rq := rg.fp p2
    refine ⟨(Int32.ofNat (k + 1), ksI q 198 k (0 : Int32)), ?_, rfl, p2.sI _ ⟨rfl, hk⟩, fun s hs => ?_⟩
    · unfold f_X12_court_l45
      dsimp only
      rw [if_neg (by rw [n32_ler (by omega) (by omega)]; omega), if_pos kk173, rf173_33 rq, if_pos (show 198 < 999999 by omega), if_pos kk198, kn198, if_neg (by rw [n32_cl (by omega)]; exact fun z => z.elim (n32_nn (by omega)) (by omega)), n32_cl (show k < 2147483648 by omega), kl_e, n32_addl, kl_e]
    · show kI (ksI q 198 k (0 : Int32)) 198 s = 0
      rw [kI_sI]
      by_cases y : s = k
      · rw [if_pos ⟨rfl, y⟩]
      · rw [if_neg (fun z => y z.2)]
        exact p3 s (by omega)
  · obtain ⟨i, q⟩ := st
    obtain ⟨p1, p2, p3⟩ := hP
    dsimp only at p1 p2 p3
    subst p1
    refine ⟨q, ?_, p2, p3⟩
    unfold f_X12_court_l45
    dsimp only
    rw [if_pos (by decide)]
theorem m_courtReads {h g : KH} {n : Nat} (ht : Rtape h) (n16 : n ≤ 1600) (rg : kRefs g) (rw0 : Rwords g) (hn : kI g 173 1 = Int32.ofNat n) (h174 : ∀ i, kI g 174 i = kI h 174 i) : ∃ g', f_X12_court g 173 = f_X12_court_b109 g' 173 ∧ kfp Wmc g g' ∧ MxE h g' n ∧ kI g' 173 1 = 0 := by
  obtain ⟨g1, eg1⟩ : ∃ g1, g1 = ksI (ksI (ksI (ksI (ksI (ksI (ksI (ksI g 173 3 (Int32.ofNat n)) 173 1 (0 : Int32)) 173 2 (0 : Int32)) 173 4 (-1 : Int32)) 173 5 (0 : Int32)) 173 6 (-1 : Int32)) 173 43 (0 : Int32)) 173 42 (0 : Int32) := ⟨_, rfl⟩
  have f1 : kfp (fun l i => l = 173 ∧ (i = 1 ∨ i = 2 ∨ i = 3 ∨ i = 4 ∨ i = 5 ∨ i = 6 ∨ i = 42 ∨ i = 43)) g g1 := by
    rw [eg1]
    exact (((((((kfp.rf.sI _ (by omega)).sI _ (by omega)).sI _ (by omega)).sI _ (by omega)).sI _ (by omega)).sI _ (by omega)).sI _ (by omega)).sI _ (by omega)
  have r1 := rg.fp f1
  obtain ⟨g2, e2, f2, z2⟩ := m_zero3 r1
  have r2 := r1.fp f2
  obtain ⟨g3, eg3⟩ : ∃ g3, g3 = ksI (ksI (ksI g2 203 0 (50 : Int32)) 203 1 (1000 : Int32)) 204 0 (-1 : Int32) := ⟨_, rfl⟩
  have f3 : kfp (fun l i => (l = 203 ∧ i < 2) ∨ (l = 204 ∧ i = 0)) g2 g3 := by
    rw [eg3]
    exact ((kfp.rf.sI _ (by omega)).sI _ (by omega)).sI _ (by omega)
  have F3 : kfp Wmc g g3 := ((f1.wide fun l i z => by unfold Wmc Wsm Wtr Wlt Wmn Wq2 Wmp; omega).tr (f2.wide fun l i z => by unfold Wmc Wsm Wtr; omega)).tr (f3.wide fun l i z => by unfold Wmc Wsm Wlt; omega)
  have K : ∀ i, kI g3 173 i = kI g1 173 i := fun i => (f3.2.2.1 _ _ (by omega)).trans (f2.2.2.1 _ _ (by omega))
  have J : ∀ l i, l ≠ 173 → l ≠ 198 → l ≠ 203 → l ≠ 204 → kI g3 l i = kI g l i := fun l i a b c d => (f3.2.2.1 _ _ (by omega)).trans ((f2.2.2.1 _ _ (by omega)).trans (f1.2.2.1 _ _ (by omega)))
  have v3 : kI g3 173 3 = Int32.ofNat n := by rw [K, eg1]; simp only [kI_sI]; simp
  have v1 : kI g3 173 1 = 0 := by rw [K, eg1]; simp only [kI_sI]; simp
  have v2 : kI g3 173 2 = Int32.ofNat 0 := by rw [K, eg1]; simp only [kI_sI]; simp
  have v4 : kI g3 173 4 = -1 := by rw [K, eg1]; simp only [kI_sI]; simp
  have v5 : kI g3 173 5 = 0 := by rw [K, eg1]; simp only [kI_sI]; simp
  have v6 : kI g3 173 6 = -1 := by rw [K, eg1]; simp only [kI_sI]; simp
  have v43 : kI g3 173 43 = 0 := by rw [K, eg1]; simp only [kI_sI]; simp
  have v42 : kI g3 173 42 = 0 := by rw [K, eg1]; simp only [kI_sI]; simp
  have w3 : Rwords g3 := ⟨fun j hj => (J _ _ (by omega) (by omega) (by omega) (by omega)).trans (rw0.1 j hj), fun j hj i hi => (J _ _ (by omega) (by omega) (by omega) (by omega)).trans (rw0.2.1 j hj i hi), fun q hq i hi => (J _ _ (by omega) (by omega) (by omega) (by omega)).trans (rw0.2.2 q hq i hi)⟩
  have md : Md h g3 n 0 (.inr s00) := ⟨⟨r2.fp f3, v3, fun i => (J _ _ (by omega) (by omega) (by omega) (by omega)).trans (h174 i), w3⟩, Nat.zero_le _, v5, v6, Nat.le_refl _, Nat.zero_le _, v2, (fun z => by cases z), fun _ => Or.inl v4⟩
  have cm : Cm g3 CT0 := by
    refine ⟨fun s hs => ?_, fun s hs k hk => ?_, ⟨?_, ?_⟩, ?_⟩
    · rw [sel_CT0]
      exact (f3.2.2.1 _ _ (by omega)).trans (z2 s hs)
    · rw [sel_CT0] at hk
      exact absurd hk (Nat.not_lt_zero _)
    · exact (by rw [eg3, kI_sI, if_neg (by omega), kI_sI, if_neg (by omega), kI_sI, if_pos ⟨rfl, rfl⟩] : kI g3 203 0 = (50 : Int32))
    · exact (by rw [eg3, kI_sI, if_neg (by omega), kI_sI, if_pos ⟨rfl, rfl⟩] : kI g3 203 1 = (1000 : Int32))
    · exact (show kI g3 204 0 = -1 ∧ kI g3 173 42 = 0 from ⟨by rw [eg3, kI_sI, if_pos ⟨rfl, rfl⟩], v42⟩)
  obtain ⟨g4, e4, f4, x4⟩ := m_ctsLoop ht n16 md cm v43
  refine ⟨g4, ?_, F3.tr (f4.wide fun l i z => Or.inl z), x4, (f4.2.2.1 _ _ (by unfold Wsm Wtr Wlt Wmn Wq2 Wmp; omega)).trans v1⟩
  unfold f_X12_court
  rw [if_pos kk173, hn]
  simp only [kl_e]
  rw [← eg1, e2, kb_s, rf173_38 r2, if_pos (show 203 < 999999 by omega), if_pos kk203, kn203, if_neg (show ¬ 4 ≤ 0 by omega), rf173_38 (r2.sI _ _ _), if_pos (show 203 < 999999 by omega), if_pos kk203, kn203, if_neg (show ¬ 4 ≤ 1 by omega), rf173_39 ((r2.sI _ _ _).sI _ _ _), if_pos (show 204 < 999999 by omega), if_pos kk204, kn204, if_neg (show ¬ 2 ≤ 0 by omega), ← eg3, e4, kb_s]
