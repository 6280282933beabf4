/-! loops with an invariant; the acts that can be undone -/
theorem kloop_inv {σ ρ : Type} {body : σ → Option (σ ⊕ ρ)} (P : Nat → σ → Prop) (Q : ρ → Prop) (N : Nat) {s0 : σ} (hN : N < 1000000) (h0 : P 0 s0) (hgo : ∀ k s, k < N → P k s → ∃ s', body s = some (.inl s') ∧ P (k + 1) s') (hend : ∀ s, P N s → ∃ r, body s = some (.inr r) ∧ Q r) : ∃ r, kloop body KF s0 = some r ∧ Q r := by
  refine kloop_KF (fun n s => ∃ k, k + n = N ∧ P k s) Q (fun n s hP => ?_) hN ⟨0, by omega, h0⟩
  obtain ⟨k, hk, hp⟩ := hP
  cases n with
  | zero =>
    have e : k = N := by omega
    subst e
    exact Or.inl (hend s hp)
  | succ n =>
    obtain ⟨s', h1, h2⟩ := hgo k s (by omega) hp
    exact Or.inr ⟨n, s', by omega, h1, k + 1, by omega, h2⟩
/-- a block of the model's and a State, each copied -/
def Bsame (h h' : KH) (v v' l l' o o' : Nat) : Prop := (∀ i, i < 3 → kI h' v' i = kI h v i) ∧ (∀ t, t < 6 → kI h' (v' + 1) t = kI h (v + 1) t ∧ kI h' (v' + 2) t = kI h (v + 2) t) ∧ (∀ i, i < 10 → kI h' (v' + 3) i = kI h (v + 3) i) ∧ (∀ i, i < 185 → kI h' l' (o' + i) = kI h l (o + i)) ∧ kI h' 198 4 = kI h 198 4 ∧ kI h' 198 5 = kI h 198 5
theorem Sst.move {h h' : KH} {v v' l l' o o' : Nat} (s : Sst h v l o) (b : Bsame h h' v v' l l' o o') : Sst h' v' l' o' := by
  obtain ⟨b0, b1, b2, b3, b4, b5⟩ := b
  obtain ⟨s1, s2, s3, s4⟩ := s
  have m4 : kN h' 198 4 = kN h 198 4 := kN_same b4
  have m5 : kN h' 198 5 = kN h 198 5 := kN_same b5
  have c0 : kI h' l' o' = kI h l o := by simpa using b3 0 (by omega)
  refine ⟨⟨s1.1.same c0, by rw [b0 0 (by omega), c0]; exact s1.2⟩, ⟨s2.1.same (b3 1 (by omega)), by rw [b0 1 (by omega), b3 1 (by omega)]; exact s2.2⟩, fun t ht => ?_, fun i hi => ?_⟩
  · obtain ⟨g1, g2, g3⟩ := s3 t ht
    refine ⟨⟨g1.1.same (b3 _ (by omega)), by rw [(b1 t ht).1, b3 _ (by omega)]; exact g1.2⟩, ⟨g2.1.same (b3 _ (by omega)), by rw [(b1 t ht).2, b3 _ (by omega)]; exact g2.2⟩, fun z => ⟨?_, ?_⟩⟩
    · rw [kN_same (b3 _ (by omega))]
      exact (g3 (by omega)).1
    · rw [kN_same (b3 _ (by omega))]
      exact (g3 (by omega)).2
  · obtain ⟨g1, g2, g3⟩ := s4 i hi
    refine ⟨g1.same (b3 _ (by omega)), by rw [b2 i hi, b3 _ (by omega)]; exact g2, fun z => ?_⟩
    rw [kN_same (b3 _ (by omega))]
    exact g3 (by omega)
theorem Kst.move {h h' : KH} {v v' l l' o o' : Nat} (k : Kst h v l o) (b : Bsame h h' v v' l l' o o') (h74 : ∀ j, j < min (kN h v 2) 40 → ∀ i, i < 4 → kI h' 74 (4 * ((kN h v 2 - min (kN h v 2) 40 + j) % 1024) + i) = kI h 74 (4 * ((kN h v 2 - min (kN h v 2) 40 + j) % 1024) + i)) : Kst h' v' l' o' := by
  obtain ⟨b0, b1, b2, b3, b4, b5⟩ := b
  obtain ⟨k1, k2, k3⟩ := k
  have e : kN h' v' 2 = kN h v 2 := kN_same (b0 2 (by omega))
  have c0 : kN h' l' o' = kN h l o := kN_same (by simpa using b3 0 (by omega))
  refine ⟨⟨k1.1.same (b0 2 (by omega)), by rw [e, c0]; exact k1.2⟩, by rw [e, b3 24 (by omega)]; exact k2, fun j hj i hi => ?_⟩
  rw [e] at hj ⊢
  have := Nat.min_le_right (kN h v 2) 40
  rw [h74 j hj i hi, b3 _ (by omega)]
  exact k3 j hj i hi
/-- where the k-th act that can be undone lies -/
def psl (a k : Nat) : Nat := 75 + 4 * ((a + 20 - k) % 20)
def pso (a k : Nat) : Nat := 185 * ((a + 21 - k) % 20)
def ppr (a k : Nat) : Nat := if k = 1 then 64 else psl a (k - 1)
def Rpast (h : KH) : Prop := ∃ n a, n ≤ 20 ∧ a < 20 ∧ kI h 72 3 = Int32.ofNat n ∧ kI h 173 61 = Int32.ofNat n ∧ kI h 72 2 = Int32.ofNat a ∧ kI h 173 62 = Int32.ofNat a ∧
  ∀ k, 1 ≤ k → k ≤ n → Sst h (psl a k) 217 (pso a k) ∧ Kst h (psl a k) 217 (pso a k) ∧ kN h (psl a k) 2 ≤ kN h (ppr a k) 2 ∧ kN h (ppr a k) 2 ≤ kN h (psl a k) 2 + 30
theorem krt_past : ∀ i, i < 20 → (i < (krt.getD 73 []).length ∧ (krt.getD (75 + 4 * i) []).length = 6) ∧ (krt.getD 73 []).getD i 0 = 75 + 4 * i ∧ (krt.getD (75 + 4 * i) []).getD 3 0 = 75 + 4 * i + 1 ∧ (krt.getD (75 + 4 * i) []).getD 4 0 = 75 + 4 * i + 2 ∧ (krt.getD (75 + 4 * i) []).getD 5 0 = 75 + 4 * i + 3 ∧
    kkind (75 + 4 * i) = 8 ∧ (kkind (75 + 4 * i + 1) = 20 ∧ klen (75 + 4 * i + 1) = 6) ∧ (kkind (75 + 4 * i + 2) = 20 ∧ klen (75 + 4 * i + 2) = 6) ∧ (kkind (75 + 4 * i + 3) = 20 ∧ klen (75 + 4 * i + 3) = 10) := by decide +kernel
theorem StQ {h : KH} (hr : kRefs h) {i : Nat} (hi : i < 20) : St h (75 + 4 * i) ∧ kR h 73 i = 75 + 4 * i := by
  obtain ⟨⟨l1, l2⟩, a0, a3, a4, a5, k0, k1, k2, k3⟩ := krt_past i hi
  refine ⟨⟨⟨k0, ?_, ?_, ?_⟩, k1, k2, k3, by omega⟩, ?_⟩
  · rw [hr.2.1 _ (by omega) 3 (by omega) (by omega) (by omega)]; exact a3
  · rw [hr.2.1 _ (by omega) 4 (by omega) (by omega) (by omega)]; exact a4
  · rw [hr.2.1 _ (by omega) 5 (by omega) (by omega) (by omega)]; exact a5
  · rw [hr.2.1 73 (by omega) i l1 (by omega) (by omega)]; exact a0
/-- what a copy of a State leaves -/
theorem xcopy_cells (h : KH) {v w : Nat} (hv : v + 4 ≤ w ∨ w + 4 ≤ v) : (∀ i, i < 3 → kI (xcopy h v w) v i = kI h w i) ∧ (∀ t, t < 6 → kI (xcopy h v w) (v + 1) t = kI h (w + 1) t ∧ kI (xcopy h v w) (v + 2) t = kI h (w + 2) t) ∧ (∀ i, i < 10 → kI (xcopy h v w) (v + 3) i = kI h (w + 3) i) := by
  unfold xcopy
  refine ⟨fun i hi => ?_, fun t ht => ⟨?_, ?_⟩, fun i hi => ?_⟩
  · rw [kcp_I, if_neg (by omega), kcp_I, if_neg (by omega), kcp_I, if_neg (by omega)]
    have e : i = 0 ∨ i = 1 ∨ i = 2 := by omega
    rcases e with rfl | rfl | rfl
    · rw [kI_sI, if_neg (by omega), kI_sI, if_neg (by omega), kI_sI, if_pos ⟨rfl, rfl⟩]
    · rw [kI_sI, if_neg (by omega), kI_sI, if_pos ⟨rfl, rfl⟩, kI_sI, if_neg (by omega)]
    · rw [kI_sI, if_pos ⟨rfl, rfl⟩, kI_sI, if_neg (by omega), kI_sI, if_neg (by omega)]
  · rw [kcp_I, if_neg (by omega), kcp_I, if_neg (by omega), kcp_I, if_pos (by omega)]
    simp only [kI_sI]
    rw [if_neg (by omega), if_neg (by omega), if_neg (by omega), show 0 + (t - 0) = t by omega]
  · rw [kcp_I, if_neg (by omega), kcp_I, if_pos (by omega), kcp_I, if_neg (by omega)]
    simp only [kI_sI]
    rw [if_neg (by omega), if_neg (by omega), if_neg (by omega), show 0 + (t - 0) = t by omega]
  · rw [kcp_I, if_pos (by omega), kcp_I, if_neg (by omega), kcp_I, if_neg (by omega)]
    simp only [kI_sI]
    rw [if_neg (by omega), if_neg (by omega), if_neg (by omega), show 0 + (i - 0) = i by omega]
theorem xcopy_fp (h : KH) (v w : Nat) : kfp (fun a b => (a = v ∧ b < 3) ∨ a = v + 1 ∨ a = v + 2 ∨ a = v + 3) h (xcopy h v w) := by
  unfold xcopy
  refine (((kfp.tr (kfp.sI (kfp.sI (kfp.sI kfp.rf _ ?_) _ ?_) _ ?_) ((kcp_fp _ _ _ _ _ _).wide fun a b z => ?_)).tr ((kcp_fp _ _ _ _ _ _).wide fun a b z => ?_)).tr ((kcp_fp _ _ _ _ _ _).wide fun a b z => ?_))
  · exact Or.inl ⟨rfl, by omega⟩
  · exact Or.inl ⟨rfl, by omega⟩
  · exact Or.inl ⟨rfl, by omega⟩
  · exact Or.inr (Or.inl z)
  · exact Or.inr (Or.inr (Or.inl z))
  · exact Or.inr (Or.inr (Or.inr z))
theorem n32_rem20 {a : Nat} (h : a < 1000) : Int32.ofNat a - Int32.ofNat a / (20 : Int32) * (20 : Int32) = Int32.ofNat (a % 20) := n32_rem (b := 20) (by omega) (by omega)
theorem x_beginAct {h : KH} (hr : kRefs h) {n a : Nat} (hn : kI h 72 3 = Int32.ofNat n) (n20 : n ≤ 20) (ha : kI h 72 2 = Int32.ofNat a) (a20 : a < 20) :
    ∃ h', f_X11_beginAct h 0 = some h' ∧ kfp (fun l i => (l = 75 + 4 * a ∧ i < 3) ∨ l = 75 + 4 * a + 1 ∨ l = 75 + 4 * a + 2 ∨ l = 75 + 4 * a + 3 ∨ (l = 72 ∧ (i = 2 ∨ i = 3)) ∨ (l = 155 ∧ i = 3)) h h' ∧
      kI h' 72 3 = Int32.ofNat (min 20 (n + 1)) ∧ kI h' 72 2 = Int32.ofNat ((a + 1) % 20) ∧ kI h' 155 3 = 0 ∧
      (∀ i, i < 3 → kI h' (75 + 4 * a) i = kI h 64 i) ∧ (∀ t, t < 6 → kI h' (75 + 4 * a + 1) t = kI h 65 t ∧ kI h' (75 + 4 * a + 2) t = kI h 66 t) ∧ (∀ i, i < 10 → kI h' (75 + 4 * a + 3) i = kI h 67 i) := by
  obtain ⟨st, e73⟩ := StQ hr a20
  obtain ⟨c1, c2, c3⟩ := xcopy_cells h (v := 75 + 4 * a) (w := 64) (by omega)
  have f := xcopy_fp h (75 + 4 * a) 64
  have i2 : kI (xcopy h (75 + 4 * a) 64) 72 2 = Int32.ofNat a := (f.2.2.1 _ _ (by omega)).trans ha
  have i3 : kI (xcopy h (75 + 4 * a) 64) 72 3 = Int32.ofNat n := (f.2.2.1 _ _ (by omega)).trans hn
  have i3' : kI (ksI (xcopy h (75 + 4 * a) 64) 72 2 (Int32.ofNat ((a + 1) % 20))) 72 3 = Int32.ofNat n := by rw [kI_sI, if_neg (by omega), i3]
  have r10 : kR (xcopy h (75 + 4 * a) 64) 0 10 = 155 := (f.2.1 0 10).trans (rf0_10 hr)
  refine ⟨ksI (ksI (ksI (xcopy h (75 + 4 * a) 64) 72 2 (Int32.ofNat ((a + 1) % 20))) 72 3 (Int32.ofNat (min 20 (n + 1)))) 155 3 0, ?_, ?_, ?_, ?_, ?_, ?_, ?_, ?_⟩
  · unfold f_X11_beginAct f_X5_keep f_J9_min_7cf53
    simp only [kk0, rf0_9 hr, rf0_7 hr, kk72, rf72_0 hr, kk73, kn73, if_true, Nat.reduceLT, ha]
    rw [if_neg (by rw [n32_cl (by omega)]; exact fun z => z.elim (n32_nn (by omega)) (by omega)), n32_cl (by omega), e73, if_pos (by omega), if_pos st.1.1, x_copyFrom st (St64 hr), kb_s, i2, n32_addl, n32_rem20 (by omega), kl_e, i3', n32_addl]
    by_cases z : n + 1 < 20
    · rw [if_pos (by rw [n32_ltl (by omega) (by omega)]; exact z), kb_s, kl_e, kb_s, kR_sI, kR_sI, r10, if_pos (by omega), if_pos kk155, kl_e, Nat.min_eq_right (by omega)]
    · rw [if_neg (by rw [n32_ltl (by omega) (by omega)]; exact z), kb_s, kl_e, kb_s, kR_sI, kR_sI, r10, if_pos (by omega), if_pos kk155, kl_e, Nat.min_eq_left (by omega)]
      rfl
  · refine (((f.wide fun l i z => ?_).sI _ ?_).sI _ ?_).sI _ ?_
    · omega
    · omega
    · omega
    · omega
  · rw [kI_sI, if_neg (by omega), kI_sI, if_pos ⟨rfl, rfl⟩]
  · rw [kI_sI, if_neg (by omega), kI_sI, if_neg (by omega), kI_sI, if_pos ⟨rfl, rfl⟩]
  · rw [kI_sI, if_pos ⟨rfl, rfl⟩]
  · intro i hi
    rw [kI_sI, if_neg (by omega), kI_sI, if_neg (by omega), kI_sI, if_neg (by omega)]
    exact c1 i hi
  · intro t ht
    rw [kI_sI, if_neg (by omega), kI_sI, if_neg (by omega), kI_sI, if_neg (by omega), kI_sI, if_neg (by omega), kI_sI, if_neg (by omega), kI_sI, if_neg (by omega)]
    exact c2 t ht
  · intro i hi
    rw [kI_sI, if_neg (by omega), kI_sI, if_neg (by omega), kI_sI, if_neg (by omega)]
    exact c3 i hi
theorem m_keeps {h : KH} (hr : kRefs h) {n a : Nat} (hn : kI h 173 61 = Int32.ofNat n) (n20 : n ≤ 20) (ha : kI h 173 62 = Int32.ofNat a) (a20 : a < 20) :
    ∃ h', f_X12_keeps h 173 = some h' ∧ kfp (fun l i => (l = 217 ∧ 185 * ((a + 1) % 20) ≤ i ∧ i < 185 * ((a + 1) % 20) + 185) ∨ (l = 173 ∧ (i = 61 ∨ i = 62))) h h' ∧
      kI h' 173 61 = Int32.ofNat (min 20 (n + 1)) ∧ kI h' 173 62 = Int32.ofNat ((a + 1) % 20) ∧ ∀ i, i < 185 → kI h' 217 (185 * ((a + 1) % 20) + i) = kI h 207 i := by
  obtain ⟨b, hq⟩ : ∃ b, (a + 1) % 20 = b := ⟨_, rfl⟩
  have hb : b < 20 := by omega
  rw [hq]
  have hr2 : kRefs (ksI h 173 62 (Int32.ofNat b)) := hr.sI _ _ _
  obtain ⟨g, e, f, c, g2⟩ := kloop_inv (body := f_X12_keeps_l15 173) (fun k s => s.1 = Int32.ofNat k ∧ kfp (fun l i => l = 217 ∧ 185 * b ≤ i ∧ i < 185 * b + 185) (ksI h 173 62 (Int32.ofNat b)) s.2 ∧ ∀ i, i < k → kI s.2 217 (185 * b + i) = kI h 207 i)
    (fun r => kfp (fun l i => l = 217 ∧ 185 * b ≤ i ∧ i < 185 * b + 185) (ksI h 173 62 (Int32.ofNat b)) r ∧ (∀ i, i < 185 → kI r 217 (185 * b + i) = kI h 207 i) ∧ True) 185 (s0 := ((0 : Int32), ksI h 173 62 (Int32.ofNat b))) (by omega) ⟨rfl, kfp.rf, fun i hi => absurd hi (Nat.not_lt_zero _)⟩ (fun k s hk hP => by
      obtain ⟨s1, s2⟩ := s
      obtain ⟨p1, p2, p3⟩ := hP
      dsimp only at p1 p2 p3
      subst p1
      have r2 := hr2.fp p2
      have i62 : kI s2 173 62 = Int32.ofNat b := by
        rw [p2.2.2.1 _ _ (by omega), kI_sI, if_pos ⟨rfl, rfl⟩]
      have i207 : kI s2 207 k = kI h 207 k := by
        rw [p2.2.2.1 _ _ (by omega), kI_sI, if_neg (by omega)]
      refine ⟨(Int32.ofNat (k + 1), ksI s2 217 (185 * b + k) (kI h 207 k)), ?_, rfl, p2.sI _ ⟨rfl, by omega, by omega⟩, fun i hi => ?_⟩
      · unfold f_X12_keeps_l15
        dsimp only
        rw [ifP (n32_ler (by omega) (by omega)), if_neg (by omega)]
        simp only [kk173, rf173_60 r2, rf173_45 r2, kk207, kn207, kk217, kn217, if_true, Nat.reduceLT, i62, n32_mulr, n32_add]
        rw [if_neg (by rw [n32_cl (by omega)]; exact fun z => z.elim (n32_nn (by omega)) (by omega)), if_neg (by rw [n32_cl (by omega)]; exact fun z => z.elim (n32_nn (by omega)) (by omega)), n32_cl (by omega), n32_cl (by omega), kl_e, kl_e, n32_addl, i207]
      · dsimp only
        rw [kI_sI]
        by_cases z : i = k
        · subst z
          rw [if_pos ⟨rfl, rfl⟩]
        · rw [if_neg (by omega)]
          exact p3 i (by omega)) (fun s hP => by
      obtain ⟨s1, s2⟩ := s
      obtain ⟨p1, p2, p3⟩ := hP
      dsimp only at p1 p2 p3
      subst p1
      refine ⟨s2, ?_, p2, p3, trivial⟩
      unfold f_X12_keeps_l15
      dsimp only
      rw [if_pos (by decide)])
  have i61 : kI g 173 61 = Int32.ofNat n := by
    rw [f.2.2.1 _ _ (by omega), kI_sI, if_neg (by omega), hn]
  have i62 : kI g 173 62 = Int32.ofNat b := by
    rw [f.2.2.1 _ _ (by omega), kI_sI, if_pos ⟨rfl, rfl⟩]
  have f1 : kfp (fun l i => (l = 217 ∧ 185 * b ≤ i ∧ i < 185 * b + 185) ∨ (l = 173 ∧ (i = 61 ∨ i = 62))) h g := (kfp.rf.sI _ (Or.inr ⟨rfl, Or.inr rfl⟩)).tr (f.wide fun l i z => Or.inl z)
  have e0 : f_X12_keeps h 173 = (if (20 : Int32) ≤ Int32.ofNat n then some g else some (ksI g 173 61 (Int32.ofNat (n + 1)))) := by
    unfold f_X12_keeps
    rw [if_pos kk173, ha, n32_addl, n32_rem20 (by omega), hq, kl_e, e, kb_s, i61, n32_addl, kl_e]
  rw [e0, ifP (n32_ler (by omega) (by omega))]
  by_cases z : 20 ≤ n
  · refine ⟨g, by rw [if_pos z], f1, ?_, i62, c⟩
    rw [i61, Nat.min_eq_left (by omega), show n = 20 by omega]
  · refine ⟨ksI g 173 61 (Int32.ofNat (n + 1)), by rw [if_neg z], f1.sI _ (Or.inr ⟨rfl, Or.inl rfl⟩), ?_, ?_, fun i hi => ?_⟩
    · rw [kI_sI, if_pos ⟨rfl, rfl⟩, Nat.min_eq_right (by omega)]
    · rw [kI_sI, if_neg (by omega), i62]
    · rw [kI_sI, if_neg (by omega)]
      exact c i hi
