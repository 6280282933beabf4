/-! the model: what was told stands (by mk_r23.py) -/
theorem kcopyI {body : Int32 × KH → Option ((Int32 × KH) ⊕ KH)} {g : KH} (l off N : Nat) (hN : N < 1000000) (ho : N ≤ off) (hgo : ∀ k q, k < N → kfp (fun a i => a = l ∧ off ≤ i ∧ i < off + N) g q → body (Int32.ofNat k, q) = some (.inl (Int32.ofNat (k + 1), ksI q l (off + k) (kI q l k)))) (hend : ∀ q, kfp (fun a i => a = l ∧ off ≤ i ∧ i < off + N) g q → body (Int32.ofNat N, q) = some (.inr q)) : ∃ g', kloop body KF ((0 : Int32), g) = some g' ∧ kfp (fun a i => a = l ∧ off ≤ i ∧ i < off + N) g g' ∧ ∀ k, k < N → kI g' l (off + k) = kI g l k := by
  refine kloop_inv (body := body) (fun k st => st.1 = Int32.ofNat k ∧ kfp (fun a i => a = l ∧ off ≤ i ∧ i < off + N) g st.2 ∧ ∀ j, j < k → kI st.2 l (off + j) = kI g l j) (fun r => kfp (fun a i => a = l ∧ off ≤ i ∧ i < off + N) g r ∧ ∀ k, k < N → kI r l (off + k) = kI g l k) N hN ⟨rfl, kfp.rf, fun i hi => absurd hi (Nat.not_lt_zero _)⟩ (fun k st hk hP => ?_) (fun st hP => ?_)
  · obtain ⟨i, q⟩ := st
    obtain ⟨p1, p2, p3⟩ := hP
    dsimp only at p1 p2 p3
    subst p1
    refine ⟨_, hgo k q hk p2, rfl, p2.sI _ ⟨rfl, by omega, by omega⟩, fun j hj => ?_⟩
    show kI (ksI q l (off + k) (kI q l k)) l (off + j) = kI g l j
    rw [kI_sI]
    by_cases y : j = k
    · rw [if_pos ⟨rfl, by omega⟩, p2.2.2.1 _ _ (by omega), y]
    · rw [if_neg (by omega)]
      exact p3 j (by omega)
  · obtain ⟨i, q⟩ := st
    obtain ⟨p1, p2, p3⟩ := hP
    dsimp only at p1 p2 p3
    subst p1
    exact ⟨q, hend q p2, p2, p3⟩
theorem kcopyL {body : Int32 × KH → Option ((Int32 × KH) ⊕ KH)} {g : KH} (l off N : Nat) (hN : N < 1000000) (ho : N ≤ off) (hgo : ∀ k q, k < N → kfp (fun a i => a = l ∧ off ≤ i ∧ i < off + N) g q → body (Int32.ofNat k, q) = some (.inl (Int32.ofNat (k + 1), ksL q l (off + k) (kL q l k)))) (hend : ∀ q, kfp (fun a i => a = l ∧ off ≤ i ∧ i < off + N) g q → body (Int32.ofNat N, q) = some (.inr q)) : ∃ g', kloop body KF ((0 : Int32), g) = some g' ∧ kfp (fun a i => a = l ∧ off ≤ i ∧ i < off + N) g g' ∧ ∀ k, k < N → kL g' l (off + k) = kL g l k := by
  refine kloop_inv (body := body) (fun k st => st.1 = Int32.ofNat k ∧ kfp (fun a i => a = l ∧ off ≤ i ∧ i < off + N) g st.2 ∧ ∀ j, j < k → kL st.2 l (off + j) = kL g l j) (fun r => kfp (fun a i => a = l ∧ off ≤ i ∧ i < off + N) g r ∧ ∀ k, k < N → kL r l (off + k) = kL g l k) N hN ⟨rfl, kfp.rf, fun i hi => absurd hi (Nat.not_lt_zero _)⟩ (fun k st hk hP => ?_) (fun st hP => ?_)
  · obtain ⟨i, q⟩ := st
    obtain ⟨p1, p2, p3⟩ := hP
    dsimp only at p1 p2 p3
    subst p1
    refine ⟨_, hgo k q hk p2, rfl, p2.sL _ ⟨rfl, by omega, by omega⟩, fun j hj => ?_⟩
    show kL (ksL q l (off + k) (kL q l k)) l (off + j) = kL g l j
    rw [kL_sL]
    by_cases y : j = k
    · rw [if_pos ⟨rfl, by omega⟩, p2.2.2.2 _ _ (by omega), y]
    · rw [if_neg (by omega)]
      exact p3 j (by omega)
  · obtain ⟨i, q⟩ := st
    obtain ⟨p1, p2, p3⟩ := hP
    dsimp only at p1 p2 p3
    subst p1
    exact ⟨q, hend q p2, p2, p3⟩
theorem st_l2 {q : KH} {k : Nat} (rq : kRefs q) (hk : k < 3) : f_X12_stands_l2 173 (Int32.ofNat k, q) = some (.inl (Int32.ofNat (k + 1), ksI q 198 (3 + k) (kI q 198 k))) := by
  unfold f_X12_stands_l2
  dsimp only
  rw [if_neg (by rw [n32_ler (by omega) (by omega)]; omega), if_pos kk173, rf173_33 rq, if_pos (show 198 < 999999 by omega), if_pos kk198, kn198, n32_addr, if_neg (by rw [n32_cl (by omega)]; exact fun z => z.elim (n32_nn (by omega)) (by omega)), if_neg (by rw [n32_cl (by omega)]; exact fun z => z.elim (n32_nn (by omega)) (by omega)), n32_cl (show k < 2147483648 by omega), n32_cl (show 3 + k < 2147483648 by omega), kl_e, n32_addl, kl_e]
theorem st_l2e (q : KH) : f_X12_stands_l2 173 (Int32.ofNat 3, q) = some (.inr q) := by
  unfold f_X12_stands_l2
  dsimp only
  rw [if_pos (by decide)]
theorem st_l29 {q : KH} {k : Nat} (rq : kRefs q) (hk : k < 18) : f_X12_stands_l29 173 (Int32.ofNat k, q) = some (.inl (Int32.ofNat (k + 1), ksL q 199 (18 + k) (kL q 199 k))) := by
  unfold f_X12_stands_l29
  dsimp only
  rw [if_neg (by rw [n32_ler (by omega) (by omega)]; omega), if_pos kk173, rf173_34 rq, if_pos (show 199 < 999999 by omega), if_pos kk199, kn199, n32_addr, if_neg (by rw [n32_cl (by omega)]; exact fun z => z.elim (n32_nn (by omega)) (by omega)), if_neg (by rw [n32_cl (by omega)]; exact fun z => z.elim (n32_nn (by omega)) (by omega)), n32_cl (show k < 2147483648 by omega), n32_cl (show 18 + k < 2147483648 by omega), kl_e, n32_addl, kl_e]
theorem st_l29e (q : KH) : f_X12_stands_l29 173 (Int32.ofNat 18, q) = some (.inr q) := by
  unfold f_X12_stands_l29
  dsimp only
  rw [if_pos (by decide)]
theorem st_l58 {q : KH} {k : Nat} (rq : kRefs q) (hk : k < 24) : f_X12_stands_l58 173 (Int32.ofNat k, q) = some (.inl (Int32.ofNat (k + 1), ksI q 200 (24 + k) (kI q 200 k))) := by
  unfold f_X12_stands_l58
  dsimp only
  rw [if_neg (by rw [n32_ler (by omega) (by omega)]; omega), if_pos kk173, rf173_35 rq, if_pos (show 200 < 999999 by omega), if_pos kk200, kn200, n32_addr, if_neg (by rw [n32_cl (by omega)]; exact fun z => z.elim (n32_nn (by omega)) (by omega)), if_neg (by rw [n32_cl (by omega)]; exact fun z => z.elim (n32_nn (by omega)) (by omega)), n32_cl (show k < 2147483648 by omega), n32_cl (show 24 + k < 2147483648 by omega), kl_e, n32_addl, kl_e]
theorem st_l58e (q : KH) : f_X12_stands_l58 173 (Int32.ofNat 24, q) = some (.inr q) := by
  unfold f_X12_stands_l58
  dsimp only
  rw [if_pos (by decide)]
theorem st_l87 {q : KH} {k : Nat} (rq : kRefs q) (hk : k < 6) : f_X12_stands_l87 173 (Int32.ofNat k, q) = some (.inl (Int32.ofNat (k + 1), ksI q 201 (6 + k) (kI q 201 k))) := by
  unfold f_X12_stands_l87
  dsimp only
  rw [if_neg (by rw [n32_ler (by omega) (by omega)]; omega), if_pos kk173, rf173_36 rq, if_pos (show 201 < 999999 by omega), if_pos kk201, kn201, n32_addr, if_neg (by rw [n32_cl (by omega)]; exact fun z => z.elim (n32_nn (by omega)) (by omega)), if_neg (by rw [n32_cl (by omega)]; exact fun z => z.elim (n32_nn (by omega)) (by omega)), n32_cl (show k < 2147483648 by omega), n32_cl (show 6 + k < 2147483648 by omega), kl_e, n32_addl, kl_e]
theorem st_l87e (q : KH) : f_X12_stands_l87 173 (Int32.ofNat 6, q) = some (.inr q) := by
  unfold f_X12_stands_l87
  dsimp only
  rw [if_pos (by decide)]
theorem st_l116 {q : KH} {k : Nat} (rq : kRefs q) (hk : k < 10) : f_X12_stands_l116 173 (Int32.ofNat k, q) = some (.inl (Int32.ofNat (k + 1), ksI q 202 (10 + k) (kI q 202 k))) := by
  unfold f_X12_stands_l116
  dsimp only
  rw [if_neg (by rw [n32_ler (by omega) (by omega)]; omega), if_pos kk173, rf173_37 rq, if_pos (show 202 < 999999 by omega), if_pos kk202, kn202, n32_addr, if_neg (by rw [n32_cl (by omega)]; exact fun z => z.elim (n32_nn (by omega)) (by omega)), if_neg (by rw [n32_cl (by omega)]; exact fun z => z.elim (n32_nn (by omega)) (by omega)), n32_cl (show k < 2147483648 by omega), n32_cl (show 10 + k < 2147483648 by omega), kl_e, n32_addl, kl_e]
theorem st_l116e (q : KH) : f_X12_stands_l116 173 (Int32.ofNat 10, q) = some (.inr q) := by
  unfold f_X12_stands_l116
  dsimp only
  rw [if_pos (by decide)]
theorem st_l145 {q : KH} {k : Nat} (rq : kRefs q) (hk : k < 2) : f_X12_stands_l145 173 (Int32.ofNat k, q) = some (.inl (Int32.ofNat (k + 1), ksI q 203 (2 + k) (kI q 203 k))) := by
  unfold f_X12_stands_l145
  dsimp only
  rw [if_neg (by rw [n32_ler (by omega) (by omega)]; omega), if_pos kk173, rf173_38 rq, if_pos (show 203 < 999999 by omega), if_pos kk203, kn203, n32_addr, if_neg (by rw [n32_cl (by omega)]; exact fun z => z.elim (n32_nn (by omega)) (by omega)), if_neg (by rw [n32_cl (by omega)]; exact fun z => z.elim (n32_nn (by omega)) (by omega)), n32_cl (show k < 2147483648 by omega), n32_cl (show 2 + k < 2147483648 by omega), kl_e, n32_addl, kl_e]
theorem st_l145e (q : KH) : f_X12_stands_l145 173 (Int32.ofNat 2, q) = some (.inr q) := by
  unfold f_X12_stands_l145
  dsimp only
  rw [if_pos (by decide)]
theorem st_l196 {q : KH} {k N : Nat} (rq : kRefs q) (e : kI q 173 42 = Int32.ofNat N) (hk : k < N) (hN : N ≤ 1600) : f_X12_stands_l196 173 (Int32.ofNat k, q) = some (.inl (Int32.ofNat (k + 1), ksI q 206 (1600 + k) (kI q 206 k))) := by
  unfold f_X12_stands_l196
  dsimp only
  rw [if_pos kk173, e, if_neg (by rw [n32_le (by omega) (by omega)]; omega), rf173_41 rq, if_pos (show 206 < 999999 by omega), if_pos kk206, kn206, n32_addr, if_neg (by rw [n32_cl (by omega)]; exact fun z => z.elim (n32_nn (by omega)) (by omega)), if_neg (by rw [n32_cl (by omega)]; exact fun z => z.elim (n32_nn (by omega)) (by omega)), n32_cl (show k < 2147483648 by omega), n32_cl (show 1600 + k < 2147483648 by omega), kl_e, n32_addl, kl_e]
theorem st_l196e {q : KH} {N : Nat} (e : kI q 173 42 = Int32.ofNat N) (hN : N ≤ 1600) : f_X12_stands_l196 173 (Int32.ofNat N, q) = some (.inr q) := by
  unfold f_X12_stands_l196
  dsimp only
  rw [if_pos kk173, e, if_pos ((n32_le (by omega) (by omega)).mpr (Nat.le_refl _))]
theorem st_zero {g : KH} (rg : kRefs g) : ∃ g', kloop (f_X12_stands_l228 173) KF ((0 : Int32), g) = some g' ∧ kfp (fun a _ => a = 207) g g' ∧ ∀ k, k < 185 → kI g' 207 k = 0 := by
  refine kloop_inv (body := f_X12_stands_l228 173) (fun k st => st.1 = Int32.ofNat k ∧ kfp (fun a _ => a = 207) g st.2 ∧ ∀ j, j < k → kI st.2 207 j = 0) (fun r => kfp (fun a _ => a = 207) g r ∧ ∀ k, k < 185 → kI r 207 k = 0) 185 (by omega) ⟨rfl, kfp.rf, fun i hi => absurd hi (Nat.not_lt_zero _)⟩ (fun k st hk hP => ?_) (fun st hP => ?_)
  · obtain ⟨i, q⟩ := st
    obtain ⟨p1, p2, p3⟩ := hP
    dsimp only at p1 p2 p3
    subst p1
    have rq := rg.fp p2
    refine ⟨(Int32.ofNat (k + 1), ksI q 207 k (0 : Int32)), ?_, rfl, p2.sI _ rfl, fun j hj => ?_⟩
    · unfold f_X12_stands_l228
      dsimp only
      rw [if_neg (by rw [n32_ler (by omega) (by omega)]; omega), if_pos kk173, rf173_45 rq, if_pos (show 207 < 999999 by omega), if_pos kk207, kn207, if_neg (by rw [n32_cl (by omega)]; exact fun z => z.elim (n32_nn (by omega)) (by omega)), n32_cl (show k < 2147483648 by omega), kl_e, n32_addl, kl_e]
    · show kI (ksI q 207 k (0 : Int32)) 207 j = 0
      rw [kI_sI]
      by_cases y : j = k
      · rw [if_pos ⟨rfl, y⟩]
      · rw [if_neg (fun z => y z.2)]
        exact p3 j (by omega)
  · obtain ⟨i, q⟩ := st
    obtain ⟨p1, p2, p3⟩ := hP
    dsimp only at p1 p2 p3
    subst p1
    refine ⟨q, ?_, p2, p3⟩
    unfold f_X12_stands_l228
    dsimp only
    rw [if_pos (by decide)]
/-- the standing half holds a court -/
def Cs (g : KH) (C : CTy) : Prop := (∀ s, s < 3 → kI g 198 (3 + s) = Int32.ofNat (sel C s).length) ∧ (∀ s, s < 3 → ∀ k, k < (sel C s).length → kL g 199 (18 + (6 * s + k)) = Int64.ofNat ((sel C s).getD k (0, 0, [])).1 ∧ ∀ j, j < (spS s).length → kI g (200 + s) (mxS s * (spS s).length + ((spS s).length * k + j)) = Int32.ofNat (((sel C s).getD k (0, 0, [])).2.2.getD j 0)) ∧ (kI g 203 2 = Int32.ofNat C.2.1.1 ∧ kI g 203 3 = Int32.ofNat C.2.1.2) ∧ (match C.2.2 with
  | none => kI g 204 1 = -1
  | some d => kI g 204 1 = 0 ∧ kI g 205 1 = Int32.ofNat d.length ∧ ∀ i, i < d.length → kI g 206 (1600 + i) = Int32.ofNat (d.getD i 0))
def Wsd (l i : Nat) : Prop := (l = 198 ∧ 3 ≤ i) ∨ (l = 199 ∧ 18 ≤ i) ∨ (l = 200 ∧ 24 ≤ i) ∨ (l = 201 ∧ 6 ≤ i) ∨ (l = 202 ∧ 10 ≤ i) ∨ (l = 203 ∧ 2 ≤ i) ∨ (l = 204 ∧ i = 1) ∨ (l = 205 ∧ i = 1) ∨ (l = 206 ∧ 1600 ≤ i) ∨ l = 207 ∨ (l = 173 ∧ (i = 58 ∨ i = 61))
theorem m_stands {g : KH} {C : CTy} (rg : kRefs g) (cm : Cm g C) (wf : wfB C) : ∃ g', f_X12_stands g 173 = some g' ∧ kfp Wsd g g' ∧ Cs g' C ∧ (∀ i, i < 185 → kI g' 207 i = 0) ∧ kI g' 173 61 = 0 ∧ kI g' 173 58 = 0 := by
  obtain ⟨g1, e1, f1, v1⟩ := kcopyI (body := f_X12_stands_l2 173) (g := g) 198 3 3 (by omega) (by omega) (fun k q hk f => st_l2 (rg.fp f) hk) (fun q _ => st_l2e q)
  have r1 := rg.fp f1
  obtain ⟨g2, e2, f2, v2⟩ := kcopyL (body := f_X12_stands_l29 173) (g := g1) 199 18 18 (by omega) (by omega) (fun k q hk f => st_l29 (r1.fp f) hk) (fun q _ => st_l29e q)
  have r2 := r1.fp f2
  obtain ⟨g3, e3, f3, v3⟩ := kcopyI (body := f_X12_stands_l58 173) (g := g2) 200 24 24 (by omega) (by omega) (fun k q hk f => st_l58 (r2.fp f) hk) (fun q _ => st_l58e q)
  have r3 := r2.fp f3
  obtain ⟨g4, e4, f4, v4⟩ := kcopyI (body := f_X12_stands_l87 173) (g := g3) 201 6 6 (by omega) (by omega) (fun k q hk f => st_l87 (r3.fp f) hk) (fun q _ => st_l87e q)
  have r4 := r3.fp f4
  obtain ⟨g5, e5, f5, v5⟩ := kcopyI (body := f_X12_stands_l116 173) (g := g4) 202 10 10 (by omega) (by omega) (fun k q hk f => st_l116 (r4.fp f) hk) (fun q _ => st_l116e q)
  have r5 := r4.fp f5
  obtain ⟨g6, e6, f6, v6⟩ := kcopyI (body := f_X12_stands_l145 173) (g := g5) 203 2 2 (by omega) (by omega) (fun k q hk f => st_l145 (r5.fp f) hk) (fun q _ => st_l145e q)
  have r6 := r5.fp f6
  obtain ⟨g7, eg7⟩ : ∃ g7, g7 = ksI g6 204 1 (kI g6 204 0) := ⟨_, rfl⟩
  have f7 : kfp (fun l i => l = 204 ∧ i = 1) g6 g7 := by rw [eg7]; exact kfp.rf.sI _ ⟨rfl, rfl⟩
  have r7 := r6.fp f7
  obtain ⟨g8, eg8⟩ : ∃ g8, g8 = ksI g7 205 1 (kI g7 205 0) := ⟨_, rfl⟩
  have f8 : kfp (fun l i => l = 205 ∧ i = 1) g7 g8 := by rw [eg8]; exact kfp.rf.sI _ ⟨rfl, rfl⟩
  have r8 := r7.fp f8
  have F8 : kfp (fun l i => (l = 198 ∧ 3 ≤ i) ∨ (l = 199 ∧ 18 ≤ i) ∨ (l = 200 ∧ 24 ≤ i) ∨ (l = 201 ∧ 6 ≤ i) ∨ (l = 202 ∧ 10 ≤ i) ∨ (l = 203 ∧ 2 ≤ i) ∨ (l = 204 ∧ i = 1) ∨ (l = 205 ∧ i = 1)) g g8 := (((((((f1.wide fun l i z => by omega).tr (f2.wide fun l i z => by omega)).tr (f3.wide fun l i z => by omega)).tr (f4.wide fun l i z => by omega)).tr (f5.wide fun l i z => by omega)).tr (f6.wide fun l i z => by omega)).tr (f7.wide fun l i z => by omega)).tr (f8.wide fun l i z => by omega)
  obtain ⟨N, n16, e42, hd⟩ : ∃ N, N ≤ 1600 ∧ kI g 173 42 = Int32.ofNat N ∧ ∀ d, C.2.2 = some d → d.length = N := by
    have x5 := cm.2.2.2
    cases hC : C.2.2 with
    | none =>
      rw [hC] at x5
      exact ⟨0, by omega, x5.2, fun d h => nomatch h⟩
    | some d =>
      rw [hC] at x5
      exact ⟨d.length, (wf.2.2.2 d hC).1, x5.2.2.1, fun d' h => by cases h; rfl⟩
  have e42' : kI g8 173 42 = Int32.ofNat N := (F8.2.2.1 _ _ (by omega)).trans e42
  obtain ⟨g9, e9, f9, v9⟩ := kcopyI (body := f_X12_stands_l196 173) (g := g8) 206 1600 N (by omega) n16 (fun k q hk f => st_l196 (r8.fp f) ((f.2.2.1 _ _ (by omega)).trans e42') hk n16) (fun q f => st_l196e ((f.2.2.1 _ _ (by omega)).trans e42') n16)
  have r9 := r8.fp f9
  obtain ⟨g10, e10, f10, v10⟩ := st_zero r9
  have r10 := r9.fp f10
  obtain ⟨g11, eg11⟩ : ∃ g11, g11 = ksI (ksI g10 173 61 (0 : Int32)) 173 58 (0 : Int32) := ⟨_, rfl⟩
  have f11 : kfp (fun l i => l = 173 ∧ (i = 58 ∨ i = 61)) g10 g11 := by rw [eg11]; exact (kfp.rf.sI _ ⟨rfl, Or.inr rfl⟩).sI _ ⟨rfl, Or.inl rfl⟩
  have FF : kfp Wsd g g11 := (((F8.wide fun l i z => by unfold Wsd; omega).tr (f9.wide fun l i z => by unfold Wsd; omega)).tr (f10.wide fun l i z => by unfold Wsd; omega)).tr (f11.wide fun l i z => by unfold Wsd; omega)
  refine ⟨g11, ?_, FF, ⟨fun s hs => ?_, fun s hs k hk => ⟨?_, fun j hj => ?_⟩, ⟨?_, ?_⟩, ?_⟩, fun i hi => (f11.2.2.1 _ _ (by omega)).trans (v10 i hi), ?_, ?_⟩
  · unfold f_X12_stands
    rw [e1, kb_s, e2, kb_s, e3, kb_s, e4, kb_s, e5, kb_s, e6, kb_s, if_pos kk173, rf173_39 r6, if_pos (show 204 < 999999 by omega), if_pos kk204, kn204, if_neg (show ¬ 2 ≤ 0 by omega), if_neg (show ¬ 2 ≤ 1 by omega), kl_e, ← eg7, rf173_40 r7, if_pos (show 205 < 999999 by omega), if_pos kk205, kn205, if_neg (show ¬ 2 ≤ 0 by omega), if_neg (show ¬ 2 ≤ 1 by omega), kl_e, ← eg8, e9, kb_s, e10, kb_s, kl_e, kl_e, ← eg11]
  · rw [f11.2.2.1 _ _ (by omega), f10.2.2.1 _ _ (by omega), f9.2.2.1 _ _ (by omega), f8.2.2.1 _ _ (by omega), f7.2.2.1 _ _ (by omega), f6.2.2.1 _ _ (by omega), f5.2.2.1 _ _ (by omega), f4.2.2.1 _ _ (by omega), f3.2.2.1 _ _ (by omega), f2.2.2.1 _ _ (by omega), v1 s hs]
    exact cm.1 s hs
  · have l6 := (wf.l6 hs).1
    rw [f11.2.2.2 _ _ (by omega), f10.2.2.2 _ _ (by omega), f9.2.2.2 _ _ (by omega), f8.2.2.2 _ _ (by omega), f7.2.2.2 _ _ (by omega), f6.2.2.2 _ _ (by omega), f5.2.2.2 _ _ (by omega), f4.2.2.2 _ _ (by omega), f3.2.2.2 _ _ (by omega), v2 _ (by omega), f1.2.2.2 _ _ (by omega)]
    exact (cm.2.1 s hs k hk).1
  · have l6 := wf.l6 hs
    have b := (cm.2.1 s hs k hk).2 j hj
    have es : s = 0 ∨ s = 1 ∨ s = 2 := by omega
    rcases es with rfl | rfl | rfl
    · have hj' : j < 4 := hj
      have hk' : (sel C 0).length ≤ 6 := l6.2
      have b' : kI g 200 (4 * k + j) = Int32.ofNat (((sel C 0).getD k (0, 0, [])).2.2.getD j 0) := b
      show kI g11 200 (24 + (4 * k + j)) = _
      rw [f11.2.2.1 _ _ (by omega), f10.2.2.1 _ _ (by omega), f9.2.2.1 _ _ (by omega), f8.2.2.1 _ _ (by omega), f7.2.2.1 _ _ (by omega), f6.2.2.1 _ _ (by omega), f5.2.2.1 _ _ (by omega), f4.2.2.1 _ _ (by omega), v3 _ (by omega), f2.2.2.1 _ _ (by omega), f1.2.2.1 _ _ (by omega)]
      exact b'
    · have hj' : j < 1 := hj
      have hk' : (sel C 1).length ≤ 6 := l6.2
      have b' : kI g 201 (1 * k + j) = Int32.ofNat (((sel C 1).getD k (0, 0, [])).2.2.getD j 0) := b
      show kI g11 201 (6 + (1 * k + j)) = _
      rw [f11.2.2.1 _ _ (by omega), f10.2.2.1 _ _ (by omega), f9.2.2.1 _ _ (by omega), f8.2.2.1 _ _ (by omega), f7.2.2.1 _ _ (by omega), f6.2.2.1 _ _ (by omega), f5.2.2.1 _ _ (by omega), v4 _ (by omega), f3.2.2.1 _ _ (by omega), f2.2.2.1 _ _ (by omega), f1.2.2.1 _ _ (by omega)]
      exact b'
    · have hj' : j < 2 := hj
      have hk' : (sel C 2).length ≤ 5 := l6.2
      have b' : kI g 202 (2 * k + j) = Int32.ofNat (((sel C 2).getD k (0, 0, [])).2.2.getD j 0) := b
      show kI g11 202 (10 + (2 * k + j)) = _
      rw [f11.2.2.1 _ _ (by omega), f10.2.2.1 _ _ (by omega), f9.2.2.1 _ _ (by omega), f8.2.2.1 _ _ (by omega), f7.2.2.1 _ _ (by omega), f6.2.2.1 _ _ (by omega), v5 _ (by omega), f4.2.2.1 _ _ (by omega), f3.2.2.1 _ _ (by omega), f2.2.2.1 _ _ (by omega), f1.2.2.1 _ _ (by omega)]
      exact b'
  · rw [f11.2.2.1 _ _ (by omega), f10.2.2.1 _ _ (by omega), f9.2.2.1 _ _ (by omega), f8.2.2.1 _ _ (by omega), f7.2.2.1 _ _ (by omega), show 2 = 2 + 0 from rfl, v6 0 (by omega), f5.2.2.1 _ _ (by omega), f4.2.2.1 _ _ (by omega), f3.2.2.1 _ _ (by omega), f2.2.2.1 _ _ (by omega), f1.2.2.1 _ _ (by omega)]
    exact cm.2.2.1.1
  · rw [f11.2.2.1 _ _ (by omega), f10.2.2.1 _ _ (by omega), f9.2.2.1 _ _ (by omega), f8.2.2.1 _ _ (by omega), f7.2.2.1 _ _ (by omega), show 3 = 2 + 1 from rfl, v6 1 (by omega), f5.2.2.1 _ _ (by omega), f4.2.2.1 _ _ (by omega), f3.2.2.1 _ _ (by omega), f2.2.2.1 _ _ (by omega), f1.2.2.1 _ _ (by omega)]
    exact cm.2.2.1.2
  · have x5 := cm.2.2.2
    have w204 : kI g11 204 1 = kI g 204 0 := by rw [f11.2.2.1 _ _ (by omega), f10.2.2.1 _ _ (by omega), f9.2.2.1 _ _ (by omega), f8.2.2.1 _ _ (by omega), eg7, kI_sI, if_pos ⟨rfl, rfl⟩, f6.2.2.1 _ _ (by omega), f5.2.2.1 _ _ (by omega), f4.2.2.1 _ _ (by omega), f3.2.2.1 _ _ (by omega), f2.2.2.1 _ _ (by omega), f1.2.2.1 _ _ (by omega)]
    have w205 : kI g11 205 1 = kI g 205 0 := by rw [f11.2.2.1 _ _ (by omega), f10.2.2.1 _ _ (by omega), f9.2.2.1 _ _ (by omega), eg8, kI_sI, if_pos ⟨rfl, rfl⟩, f7.2.2.1 _ _ (by omega), f6.2.2.1 _ _ (by omega), f5.2.2.1 _ _ (by omega), f4.2.2.1 _ _ (by omega), f3.2.2.1 _ _ (by omega), f2.2.2.1 _ _ (by omega), f1.2.2.1 _ _ (by omega)]
    cases hC : C.2.2 with
    | none =>
      rw [hC] at x5
      exact w204.trans x5.1
    | some d =>
      rw [hC] at x5
      have dl := hd d hC
      refine ⟨w204.trans x5.1, w205.trans x5.2.1, fun i hi => ?_⟩
      rw [f11.2.2.1 _ _ (by omega), f10.2.2.1 _ _ (by omega), v9 i (by omega), F8.2.2.1 _ _ (by omega)]
      exact x5.2.2.2 i hi
  · rw [eg11]
    simp only [kI_sI]
    simp
  · rw [eg11, kI_sI, if_pos ⟨rfl, rfl⟩]
