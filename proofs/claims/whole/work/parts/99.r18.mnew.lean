/-! the model's told half of a court; it takes a new name -/
theorem nmo_lt {v n : Nat} (a : nmo v n) : v < 387420489 := by
  obtain ⟨a1, a2, a3, a4, a5⟩ := a
  have := Nat.pow_le_pow_right (n := 27) (by omega) (show n ≤ 6 by omega)
  have e : (27 : Nat) ^ 6 = 387420489 := rfl
  omega
def rwM (g : KH) (s k : Nat) (r : Row) : Prop := kL g 199 (6 * s + k) = Int64.ofNat r.1 ∧ ∀ j, j < (spS s).length → kI g (200 + s) ((spS s).length * k + j) = Int32.ofNat (r.2.2.getD j 0)
def Cm (g : KH) (C : CTy) : Prop := (∀ s, s < 3 → kI g 198 s = Int32.ofNat (sel C s).length) ∧ (∀ s, s < 3 → ∀ k, k < (sel C s).length → rwM g s k ((sel C s).getD k (0, 0, []))) ∧ (kI g 203 0 = Int32.ofNat C.2.1.1 ∧ kI g 203 1 = Int32.ofNat C.2.1.2) ∧ (match C.2.2 with
  | none => kI g 204 0 = -1 ∧ kI g 173 42 = 0
  | some d => kI g 204 0 = 0 ∧ kI g 205 0 = Int32.ofNat d.length ∧ kI g 173 42 = Int32.ofNat d.length ∧ ∀ i, i < d.length → kI g 206 i = Int32.ofNat (d.getD i 0))
theorem Cm.fp {W : Nat → Nat → Prop} {g g' : KH} {C : CTy} (x : Cm g C) (f : kfp W g g') (hd : ∀ l i, (198 ≤ l ∧ l ≤ 206) ∨ (l = 173 ∧ i = 42) → ¬ W l i) : Cm g' C := by
  obtain ⟨x1, x2, ⟨x3, x4⟩, x5⟩ := x
  have I : ∀ l i, (198 ≤ l ∧ l ≤ 206) ∨ (l = 173 ∧ i = 42) → kI g' l i = kI g l i := fun l i z => f.2.2.1 _ _ (hd l i z)
  refine ⟨fun s hs => (I _ _ (by omega)).trans (x1 s hs), fun s hs k hk => ⟨(f.2.2.2 _ _ (hd _ _ (by omega))).trans (x2 s hs k hk).1, fun j hj => (I _ _ (by omega)).trans ((x2 s hs k hk).2 j hj)⟩, ⟨(I _ _ (by omega)).trans x3, (I _ _ (by omega)).trans x4⟩, ?_⟩
  cases hC : C.2.2 with
  | none =>
    rw [hC] at x5
    exact ⟨(I _ _ (by omega)).trans x5.1, (I _ _ (by omega)).trans x5.2⟩
  | some d =>
    rw [hC] at x5
    exact ⟨(I _ _ (by omega)).trans x5.1, (I _ _ (by omega)).trans x5.2.1, (I _ _ (by omega)).trans x5.2.2.1, fun i hi => (I _ _ (by omega)).trans (x5.2.2.2 i hi)⟩
theorem wfB.l6 {C : CTy} (w : wfB C) {s : Nat} (hs : s < 3) : (sel C s).length ≤ 6 ∧ (sel C s).length ≤ mxS s := by
  have l := w.1 s hs
  refine ⟨?_, l⟩
  unfold mxS at l
  split at l <;> omega
def nwP (h g q : KH) (n p : Nat) (hit : Prop) : Prop := (¬ hit ∧ q = g) ∨ (hit ∧ kfp Wmp g q ∧ Md h q n 0 (.inl (3, p)))
theorem nwP.imp {h g q : KH} {n p : Nat} {a b : Prop} (x : nwP h g q n p a) (e : a ↔ b) : nwP h g q n p b := by
  rcases x with ⟨x1, x2⟩ | ⟨x1, x2⟩
  · exact Or.inl ⟨fun z => x1 (e.mpr z), x2⟩
  · exact Or.inr ⟨e.mp x1, x2⟩
theorem nwP.f {h g q : KH} {n p : Nat} {a : Prop} (x : nwP h g q n p a) : kfp Wmp g q := by
  rcases x with ⟨x1, x2⟩ | ⟨x1, x2, -⟩
  · rw [x2]
    exact kfp.rf
  · exact x2
theorem new_b59 (q : KH) (v : Int64) (s : Int32) (k : Nat) : f_X12_newName_b59 q 173 v s (Int32.ofNat k) = some (.inl (Int32.ofNat (k + 1), q)) := by
  unfold f_X12_newName_b59
  rw [kl_e, n32_addl]
theorem m_newIn {h g q : KH} {n a p s v : Nat} {C : CTy} {hit : Prop} {s0 : PS} (cm : Cm g C) (wf : wfB C) (m : Md h g n a (.inr s0)) (k32 : kI g 173 32 = Int32.ofNat p) (hs : s < 3) (hv : v < 387420489) (x : nwP h g q n p hit) : ∃ q', kloop (f_X12_newName_l15 173 (Int64.ofNat v) (Int32.ofNat s)) KF ((0 : Int32), q) = some q' ∧ nwP h g q' n p (hit ∨ ∃ j, j < (sel C s).length ∧ ((sel C s).getD j (0, 0, [])).1 = v) := by
  have l6 := (wf.l6 hs).1
  have rg := m.1.1
  refine kloop_inv (body := f_X12_newName_l15 173 (Int64.ofNat v) (Int32.ofNat s)) (fun k st => st.1 = Int32.ofNat k ∧ nwP h g st.2 n p (hit ∨ ∃ j, j < k ∧ ((sel C s).getD j (0, 0, [])).1 = v)) (fun r => nwP h g r n p (hit ∨ ∃ j, j < (sel C s).length ∧ ((sel C s).getD j (0, 0, [])).1 = v)) (sel C s).length (by omega) ⟨rfl, x.imp ⟨Or.inl, fun z => z.elim id fun ⟨j, hj, _⟩ => absurd hj (Nat.not_lt_zero _)⟩⟩ (fun k st hk hP => ?_) (fun st hP => ?_)
  · obtain ⟨i, q1⟩ := st
    obtain ⟨p1, p2⟩ := hP
    dsimp only at p1 p2
    subst p1
    have fq := p2.f
    have rq := rg.fp fq
    have eN : kI q1 198 s = Int32.ofNat (sel C s).length := (fq.2.2.1 _ _ (by unfold Wmp; omega)).trans (cm.1 s hs)
    unfold f_X12_newName_l15
    dsimp only
    rw [if_pos kk173, rf173_33 rq, if_pos (show 198 < 999999 by omega), if_pos kk198, kn198, if_neg (by rw [n32_cl (by omega)]; exact fun z => z.elim (n32_nn (by omega)) (by omega)), n32_cl (show s < 2147483648 by omega), eN, if_neg (by rw [n32_le (by omega) (by omega)]; omega)]
    rcases p2 with ⟨nh, eq⟩ | ⟨yh, f1, m1⟩
    · rw [eq, if_pos m.2.2.1, rf173_34 rg, if_pos (show 199 < 999999 by omega), if_pos kk199, kn199, n32_mulr, n32_add, if_neg (by rw [n32_cl (by omega)]; exact fun z => z.elim (n32_nn (by omega)) (by omega)), n32_cl (show 6 * s + k < 2147483648 by omega), (cm.2.1 s hs k hk).1]
      have ln := nmo_lt (wf.2.1 s hs _ (row_mem hk)).1
      have le : lg_cmp (Int64.ofNat ((sel C s).getD k (0, 0, [])).1) (Int64.ofNat v) = 0 ↔ ((sel C s).getD k (0, 0, [])).1 = v := by rw [lgc_eq, n64_eq (by omega) (by omega)]
      by_cases z : ((sel C s).getD k (0, 0, [])).1 = v
      · obtain ⟨q2, e2, f2, m2⟩ := m_failR (k := 3) (pl := p) m.1 m.2.2.1 (by omega) (by omega)
        have e2' : f_X12_fail g 173 (3 : Int32) (Int32.ofNat p) = some q2 := e2
        exact ⟨(Int32.ofNat (k + 1), q2), by rw [if_pos (le.mpr z), k32, e2', kb_s, new_b59], rfl, Or.inr ⟨Or.inr ⟨k, by omega, z⟩, f2, m2⟩⟩
      · refine ⟨(Int32.ofNat (k + 1), g), by rw [if_neg (fun u => z (le.mp u)), new_b59], rfl, Or.inl ⟨fun u => ?_, rfl⟩⟩
        rcases u with u | ⟨j, hj, ej⟩
        · exact nh (Or.inl u)
        · by_cases ek : j = k
          · rw [ek] at ej
            exact z ej
          · exact nh (Or.inr ⟨j, by omega, ej⟩)
    · refine ⟨(Int32.ofNat (k + 1), q1), by rw [if_neg m1.bad, new_b59], rfl, Or.inr ⟨?_, f1, m1⟩⟩
      exact yh.imp id fun ⟨j, hj, ej⟩ => ⟨j, by omega, ej⟩
  · obtain ⟨i, q1⟩ := st
    obtain ⟨p1, p2⟩ := hP
    dsimp only at p1 p2
    subst p1
    have fq := p2.f
    have rq := rg.fp fq
    have eN : kI q1 198 s = Int32.ofNat (sel C s).length := (fq.2.2.1 _ _ (by unfold Wmp; omega)).trans (cm.1 s hs)
    refine ⟨q1, ?_, p2⟩
    unfold f_X12_newName_l15
    dsimp only
    rw [if_pos kk173, rf173_33 rq, if_pos (show 198 < 999999 by omega), if_pos kk198, kn198, if_neg (by rw [n32_cl (by omega)]; exact fun z => z.elim (n32_nn (by omega)) (by omega)), n32_cl (show s < 2147483648 by omega), eN, if_pos ((n32_le (by omega) (by omega)).mpr (Nat.le_refl _))]
theorem m_newAll {h g : KH} {n a p v : Nat} {C : CTy} {s0 : PS} (cm : Cm g C) (wf : wfB C) (m : Md h g n a (.inr s0)) (k32 : kI g 173 32 = Int32.ofNat p) (hv : v < 387420489) : ∃ q', kloop (f_X12_newName_l7 173 (Int64.ofNat v)) KF ((0 : Int32), g) = some q' ∧ nwP h g q' n p (kno C v) := by
  have key : ∃ q', kloop (f_X12_newName_l7 173 (Int64.ofNat v)) KF ((0 : Int32), g) = some q' ∧ nwP h g q' n p (∃ t, t < 3 ∧ ∃ j, j < (sel C t).length ∧ ((sel C t).getD j (0, 0, [])).1 = v) := by
    refine kloop_inv (body := f_X12_newName_l7 173 (Int64.ofNat v)) (fun s st => st.1 = Int32.ofNat s ∧ nwP h g st.2 n p (∃ t, t < s ∧ ∃ j, j < (sel C t).length ∧ ((sel C t).getD j (0, 0, [])).1 = v)) (fun r => nwP h g r n p (∃ t, t < 3 ∧ ∃ j, j < (sel C t).length ∧ ((sel C t).getD j (0, 0, [])).1 = v)) 3 (by omega) ⟨rfl, Or.inl ⟨fun ⟨t, ht, _⟩ => absurd ht (Nat.not_lt_zero _), rfl⟩⟩ (fun s st hs hP => ?_) (fun st hP => ?_)
    · obtain ⟨i, q1⟩ := st
      obtain ⟨p1, p2⟩ := hP
      dsimp only at p1 p2
      subst p1
      obtain ⟨q2, e2, x2⟩ := m_newIn cm wf m k32 hs hv p2
      refine ⟨(Int32.ofNat (s + 1), q2), ?_, rfl, x2.imp ⟨fun u => ?_, fun u => ?_⟩⟩
      · unfold f_X12_newName_l7
        dsimp only
        rw [if_neg (by rw [n32_ler (by omega) (by omega)]; omega), e2, kb_s, kl_e, n32_addl]
      · rcases u with ⟨t, ht, u⟩ | u
        · exact ⟨t, by omega, u⟩
        · exact ⟨s, by omega, u⟩
      · obtain ⟨t, ht, u⟩ := u
        by_cases y : t = s
        · subst y
          exact Or.inr u
        · exact Or.inl ⟨t, by omega, u⟩
    · obtain ⟨i, q1⟩ := st
      obtain ⟨p1, p2⟩ := hP
      dsimp only at p1 p2
      subst p1
      refine ⟨q1, ?_, p2⟩
      unfold f_X12_newName_l7
      dsimp only
      rw [if_pos (by decide)]
  obtain ⟨q', e, x⟩ := key
  refine ⟨q', e, x.imp ⟨fun u => ?_, fun u => ?_⟩⟩
  · obtain ⟨t, ht, j, hj, ej⟩ := u
    exact ⟨t, ht, _, row_mem hj, ej⟩
  · obtain ⟨t, ht, r, hr, er⟩ := u
    obtain ⟨k, hk, ek⟩ := row_at hr
    exact ⟨t, ht, k, hk, by rw [ek]; exact er⟩
/-- behind a fault nothing is looked for -/
theorem m_newBad {g : KH} {C : CTy} (rg : kRefs g) (cm : Cm g C) (wf : wfB C) (bad : ¬ kI g 173 5 = 0) (v : Int64) : kloop (f_X12_newName_l7 173 v) KF ((0 : Int32), g) = some g := by
  refine kloop_for (body := f_X12_newName_l7 173 v) (fun s => (Int32.ofNat s, g)) 3 g (by omega) (fun s hs => ?_) ?_
  · have l6 := (wf.l6 hs).1
    have lp : kloop (f_X12_newName_l15 173 v (Int32.ofNat s)) KF ((0 : Int32), g) = some g := by
      refine kloop_for (body := f_X12_newName_l15 173 v (Int32.ofNat s)) (fun k => (Int32.ofNat k, g)) (sel C s).length g (by omega) (fun k hk => ?_) ?_
      · unfold f_X12_newName_l15
        dsimp only
        rw [if_pos kk173, rf173_33 rg, if_pos (show 198 < 999999 by omega), if_pos kk198, kn198, if_neg (by rw [n32_cl (by omega)]; exact fun z => z.elim (n32_nn (by omega)) (by omega)), n32_cl (show s < 2147483648 by omega), cm.1 s hs, if_neg (by rw [n32_le (by omega) (by omega)]; omega), if_neg bad, new_b59]
      · unfold f_X12_newName_l15
        dsimp only
        rw [if_pos kk173, rf173_33 rg, if_pos (show 198 < 999999 by omega), if_pos kk198, kn198, if_neg (by rw [n32_cl (by omega)]; exact fun z => z.elim (n32_nn (by omega)) (by omega)), n32_cl (show s < 2147483648 by omega), cm.1 s hs, if_pos ((n32_le (by omega) (by omega)).mpr (Nat.le_refl _))]
    unfold f_X12_newName_l7
    dsimp only
    rw [if_neg (by rw [n32_ler (by omega) (by omega)]; omega), lp, kb_s, kl_e, n32_addl]
  · unfold f_X12_newName_l7
    dsimp only
    rw [if_pos (by decide)]
theorem m_newName {h g : KH} {n a : Nat} {C : CTy} {s : PS} (ht : Rtape h) (n16 : n ≤ 1600) (cm : Cm g C) (wf : wfB C) (m : Md h g n a (.inr s)) : ∃ v g' a' r, f_X12_newName g 173 = some (v, g') ∧ kfp Wmn g g' ∧ Md h g' n a' r ∧ (∀ e, nwN (tyN h) n C s = .inl e → r = .inl e) ∧ ∀ w, nwN (tyN h) n C s = .inr w → r = .inr w.2.2 ∧ v = Int64.ofNat w.1 := by
  have rg := m.1.1
  obtain ⟨v, g1, e1, f1, k1, k2⟩ := m_name ht n16 m
  have r1 := rg.fp f1
  have cm1 := cm.fp f1 fun l i z => by unfold Wmn Wmp; omega
  unfold f_X12_newName
  rw [if_pos kk173, e1, kb_s]
  dsimp only
  cases hw : wNm (tyN h) n s with
  | inl e =>
    have m1 := k1 e hw
    have en : nwN (tyN h) n C s = .inl e := by
      unfold nwN
      rw [hw]
    rw [m_newBad r1 cm1 wf m1.bad v, kb_s]
    refine ⟨v, g1, 0, .inl e, rfl, f1, m1, fun e' he => ?_, fun w he => ?_⟩
    · rw [en] at he
      cases he
      rfl
    · rw [en] at he
      exact nomatch he
  | inr w =>
    obtain ⟨ev, m1, k32⟩ := k2 w hw
    obtain ⟨nm, -, ew, -⟩ := wNm_ok hw
    obtain ⟨q', e2, x2⟩ := m_newAll cm1 wf m1 k32 (nmo_lt nm)
    rw [ev, e2, kb_s]
    rcases x2 with ⟨nk, eq⟩ | ⟨yk, f2, m2⟩
    · have e4 : nwN (tyN h) n C s = .inr w := by
        unfold nwN
        rw [hw]
        exact if_neg nk
      refine ⟨_, q', _, .inr (nxt (tyN h) n s), rfl, by rw [eq]; exact f1, by rw [eq]; exact m1, fun e' he => ?_, fun w' he => ?_⟩
      · rw [e4] at he
        exact nomatch he
      · rw [e4] at he
        cases he
        exact ⟨by rw [ew], rfl⟩
    · have e4 : nwN (tyN h) n C s = .inl (3, blE (tyN h) n s.1) := by
        unfold nwN
        rw [hw]
        exact if_pos yk
      refine ⟨_, q', 0, .inl (3, blE (tyN h) n s.1), rfl, f1.tr (f2.wide fun l i z => Or.inl z), m2, fun e' he => ?_, fun w' he => ?_⟩
      · rw [e4] at he
        cases he
        rfl
      · rw [e4] at he
        exact nomatch he
