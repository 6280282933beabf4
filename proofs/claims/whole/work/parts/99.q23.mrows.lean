/-! the model works out what a QUESTION's words tell -/
def MR (h g : KH) (n : Nat) : Prop := ∀ t, t < n → (kL g 211 t).toInt = mqZ h t ∧ kI g 212 t = Int32.ofNat (sqN h t) ∧ ∀ k, k < kN h 198 3 → kI g 210 (6 * t + k) = Int32.ofNat (ybN h k t 0 (tmM h t) + ybN h k t 1 (tmM h t))
def Wrw (l : Nat) : Prop := l = 210 ∨ l = 211 ∨ l = 212 ∨ l = 215
theorem m_ofLoop {h g : KH} {c t : Nat} (rc : RC h c) (rs : RS h) (rr : Rrule h c) (f : kfp Wscr h g) (yl : Yl h g (kN h 198 4)) (ht : t < kN h 198 4) (v : Int32) : ∃ g', kloop (f_X12_ask_l257 173 v (Int32.ofNat t)) KF ((0 : Int32), g) = some g' ∧ kfp (fun l i => l = 210 ∧ 6 * t ≤ i) g g' ∧ ∀ k, k < kN h 198 3 → kI g' 210 (6 * t + k) = Int32.ofNat (ybN h k t 0 (tmM h t) + ybN h k t 1 (tmM h t)) := by
  obtain ⟨hr, hc, h5, hm, -⟩ := id rc
  have n3 := hm.1.1.2
  have n4 := hm.2.1.1.2
  refine kloop_inv (body := f_X12_ask_l257 173 v (Int32.ofNat t)) (fun k s => s.1 = Int32.ofNat k ∧ kfp (fun l i => l = 210 ∧ 6 * t ≤ i) g s.2 ∧ ∀ j, j < k → kI s.2 210 (6 * t + j) = Int32.ofNat (ybN h j t 0 (tmM h t) + ybN h j t 1 (tmM h t)))
    (fun r => kfp (fun l i => l = 210 ∧ 6 * t ≤ i) g r ∧ ∀ k, k < kN h 198 3 → kI r 210 (6 * t + k) = Int32.ofNat (ybN h k t 0 (tmM h t) + ybN h k t 1 (tmM h t))) (kN h 198 3) (s0 := ((0 : Int32), g)) (by omega) ⟨rfl, kfp.rf, fun j hj => absurd hj (Nat.not_lt_zero _)⟩ (fun k s hk hP => ?_) (fun s hP => ?_)
  · obtain ⟨s1, q⟩ := s
    obtain ⟨p1, p2, p3⟩ := hP
    dsimp only at p1 p2 p3
    subst p1
    have rq := (hr.fp f).fp p2
    have e3 : kI q 198 3 = Int32.ofNat (kN h 198 3) := ((p2.2.2.1 _ _ (by omega)).trans (f.2.2.1 _ _ (by unfold Wscr; omega))).trans hm.1.1.1
    have y0 := yl t k 0 ht hk (by omega)
    have y1 := yl t k 1 ht hk (by omega)
    have a0 : kI q 209 (6 * t + k) = Int32.ofNat (ybN h k t 0 (tmM h t)) := (p2.2.2.1 _ _ (by omega)).trans (by rw [show 6 * t + k = 36 * 0 + 6 * t + k by omega]; exact y0)
    have a1 : kI q 209 (36 + 6 * t + k) = Int32.ofNat (ybN h k t 1 (tmM h t)) := (p2.2.2.1 _ _ (by omega)).trans (by rw [show 36 + 6 * t + k = 36 * 1 + 6 * t + k by omega]; exact y1)
    refine ⟨(Int32.ofNat (k + 1), ksI q 210 (6 * t + k) (Int32.ofNat (ybN h k t 1 (tmM h t) + ybN h k t 0 (tmM h t)))), ?_, rfl, p2.sI _ ⟨rfl, by omega⟩, fun j hj => ?_⟩
    · unfold f_X12_ask_l257
      dsimp only
      rw [if_pos kk173, m_kindMany rq, kb_s, e3, if_neg (by rw [n32_le (by omega) (by omega)]; omega), rf173_51 rq, if_pos (show 210 < 999999 by omega), rf173_50 rq, if_pos (show 209 < 999999 by omega), if_pos kk209, kn209, n32_mulr, n32_addr, n32_add, n32_add, if_neg (by rw [n32_cl (by omega)]; exact fun z => z.elim (n32_nn (by omega)) (by omega)), if_neg (by rw [n32_cl (by omega)]; exact fun z => z.elim (n32_nn (by omega)) (by omega)), if_pos kk210, kn210, if_neg (by rw [n32_cl (by omega)]; exact fun z => z.elim (n32_nn (by omega)) (by omega)), n32_cl (show 36 + 6 * t + k < 2147483648 by omega), n32_cl (show 6 * t + k < 2147483648 by omega), kl_e, a0, a1, n32_add, kl_e, n32_addl]
    · show kI (ksI q 210 (6 * t + k) _) 210 (6 * t + j) = _
      by_cases y : j = k
      · subst y
        rw [kI_sI, if_pos ⟨rfl, rfl⟩, Nat.add_comm]
      · rw [kI_sI, if_neg (by omega)]
        exact p3 j (by omega)
  · obtain ⟨s1, q⟩ := s
    obtain ⟨p1, p2, p3⟩ := hP
    dsimp only at p1 p2 p3
    subst p1
    have rq := (hr.fp f).fp p2
    have e3 : kI q 198 3 = Int32.ofNat (kN h 198 3) := ((p2.2.2.1 _ _ (by omega)).trans (f.2.2.1 _ _ (by unfold Wscr; omega))).trans hm.1.1.1
    refine ⟨q, ?_, p2, p3⟩
    unfold f_X12_ask_l257
    dsimp only
    rw [if_pos kk173, m_kindMany rq, kb_s, e3, if_pos (by rw [n32_le (by omega) (by omega)]; omega)]
theorem m_askRows {h g : KH} {c : Nat} (rc : RC h c) (rs : RS h) (rr : Rrule h c) (v : Int32) (f : kfp Wscr h g) (rz : Rzero g) (yl : Yl h g (kN h 198 4)) (ms : Mst h g (WN h) 72) : ∃ g', kloop (f_X12_ask_l172 173 v) KF ((0 : Int32), g) = some g' ∧ kfp (fun l _ => Wrw l) g g' ∧ Rzero g' ∧ MR h g' (kN h 198 4) := by
  obtain ⟨hr, hc, h5, hm, -, htt, -⟩ := id rc
  have n4 := hm.2.1.1.2
  have wb := WN_le rc
  have ab := aT_b rc
  refine kloop_inv (body := f_X12_ask_l172 173 v) (fun t s => s.1 = Int32.ofNat t ∧ kfp (fun l _ => Wrw l) g s.2 ∧ Rzero s.2 ∧ MR h s.2 t)
    (fun r => kfp (fun l _ => Wrw l) g r ∧ Rzero r ∧ MR h r (kN h 198 4)) (kN h 198 4) (s0 := ((0 : Int32), g)) (by omega) ⟨rfl, kfp.rf, rz, fun t ht => absurd ht (Nat.not_lt_zero _)⟩ (fun t s ht hP => ?_) (fun s hP => ?_)
  · obtain ⟨s1, q⟩ := s
    obtain ⟨p1, p2, p3, p4⟩ := hP
    dsimp only at p1 p2 p3 p4
    subst p1
    have t6 : t < 6 := by omega
    have p6 : 2 ^ t < 64 := Nat.lt_of_lt_of_le (Nat.pow_lt_pow_right (by omega) t6) (by omega)
    have pp : 2 ^ t < 2 ^ kN h 198 4 := Nat.pow_lt_pow_right (by omega) ht
    have fq : kfp Wscr h q := f.tr (p2.wide fun l i z => by unfold Wrw at z; unfold Wscr; omega)
    have rq := hr.fp fq
    have e4 : kI q 198 4 = Int32.ofNat (kN h 198 4) := (fq.2.2.1 _ _ (by unfold Wscr; omega)).trans hm.2.1.1.1
    have mq : Mst h q (WN h) 72 := ⟨fun w hw => (p2.2.2.2 _ _ (by unfold Wrw; omega)).trans (ms.1 w hw), (p2.2.2.2 _ _ (by unfold Wrw; omega)).trans ms.2.1, fun w a b d => (p2.2.2.1 _ _ (by unfold Wrw; omega)).trans (ms.2.2 w a b d)⟩
    have eA : kI q 207 (2 + 2 * t + 1) = Int32.ofNat (anN h t) := (fq.2.2.1 _ _ (by unfold Wscr; omega)).trans (rs.a t6).1.1
    have bA : anN h t ≤ 4 := (rs.a t6).1.2
    have sh := n32_shl t (by omega)
    have keys := mst_keys rc rs rr mq pp
    -- written at the end of a turn
    have b253 : ∀ q1 (w2 : Nat), w2 = sqN h t → kfp (fun l _ => Wrw l) q q1 → Rzero q1 → (∀ j, j < t → kL q1 211 j = kL q 211 j) → (kL q1 211 t).toInt = mqZ h t → (∀ i, kI q1 210 i = kI q 210 i) → (∀ i, kI q1 212 i = kI q 212 i) → ∃ q', f_X12_ask_b253 q1 173 v (Int32.ofNat t) 212 (Int32.ofNat t) (Int32.ofNat w2) = some (.inl (Int32.ofNat (t + 1), q')) ∧ kfp (fun l _ => Wrw l) g q' ∧ Rzero q' ∧ MR h q' (t + 1) := fun q1 w2 hw2 f1 z1 l1 l2 l3 l4 => by
      obtain ⟨q2, eq2⟩ : ∃ q2, q2 = ksI q1 212 t (Int32.ofNat w2) := ⟨_, rfl⟩
      have f12 : kfp (fun l i => l = 212 ∧ i = t) q1 q2 := by rw [eq2]; exact kfp.rf.sI _ ⟨rfl, rfl⟩
      have F2 : kfp (fun l _ => Wrw l) q q2 := f1.tr (f12.wide fun l i z => by unfold Wrw; omega)
      have fs2 : kfp Wscr h q2 := fq.tr (F2.wide fun l i z => by unfold Wrw at z; unfold Wscr; omega)
      have yl2 : Yl h q2 (kN h 198 4) := fun a b d x y z => ((F2.2.2.1 _ _ (by unfold Wrw; omega)).trans (p2.2.2.1 _ _ (by unfold Wrw; omega))).trans (yl a b d x y z)
      obtain ⟨q3, e3, f3, k3⟩ := m_ofLoop rc rs rr fs2 yl2 ht v
      unfold f_X12_ask_b253
      rw [if_pos kk212, kn212, if_neg (by rw [n32_cl (by omega)]; exact fun z => z.elim (n32_nn (by omega)) (by omega)), n32_cl (show t < 2147483648 by omega), kl_e, ← eq2, e3, kb_s, kl_e, n32_addl]
      refine ⟨q3, rfl, (p2.tr F2).tr (f3.wide fun l i z => by unfold Wrw; omega), (z1.fp f12 fun l i z w => by omega).fp f3 fun l i z w => by omega, fun j hj => ?_⟩
      by_cases y : j = t
      · subst y
        exact ⟨by rw [f3.2.2.2 _ _ (by omega), f12.2.2.2 _ _ (by omega)]; exact l2, by rw [f3.2.2.1 _ _ (by omega), eq2, kI_sI, if_pos ⟨rfl, rfl⟩, hw2], k3⟩
      · obtain ⟨m1, m2, m3⟩ := p4 j (by omega)
        have n3 := hm.1.1.2
        exact ⟨by rw [f3.2.2.2 _ _ (by omega), f12.2.2.2 _ _ (by omega), l1 j (by omega)]; exact m1, by rw [f3.2.2.1 _ _ (by omega), f12.2.2.1 _ _ (by omega), l4]; exact m2, fun k hk => by rw [f3.2.2.1 _ _ (by omega), f12.2.2.1 _ _ (by omega), l3]; exact m3 k hk⟩
    have goal : ∃ q', f_X12_ask_l172 173 v (Int32.ofNat t, q) = some (.inl (Int32.ofNat (t + 1), q')) ∧ kfp (fun l _ => Wrw l) g q' ∧ Rzero q' ∧ MR h q' (t + 1) := by
      -- MERIT written
      have wr : ∀ q1 (w2 : Int64), kfp (fun l _ => l = 215) q q1 → ∃ q2, q2 = ksL q1 211 t w2 ∧ kfp (fun l _ => Wrw l) q q2 ∧ (∀ j, j < t → kL q2 211 j = kL q 211 j) ∧ kL q2 211 t = w2 ∧ (∀ i, kI q2 210 i = kI q 210 i) ∧ (∀ i, kI q2 212 i = kI q 212 i) ∧ kfp (fun l _ => l = 211) q1 q2 := fun q1 w2 f1 => by
        refine ⟨_, rfl, (f1.wide fun l i z => by unfold Wrw; omega).sL _ (by unfold Wrw; omega), fun j hj => ?_, ?_, fun i => ?_, fun i => ?_, kfp.rf.sL _ rfl⟩
        · rw [kL_sL, if_neg (by omega)]
          exact f1.2.2.2 _ _ (by omega)
        · rw [kL_sL, if_pos ⟨rfl, rfl⟩]
        · rw [kI_sL]
          exact f1.2.2.1 _ _ (by omega)
        · rw [kI_sL]
          exact f1.2.2.1 _ _ (by omega)
      have zero : ¬ (aT (WN h) 72 ≠ 0 ∧ anN h t = 0) → ∃ q', f_X12_ask_b201 q 173 v (Int32.ofNat t) = some (.inl (Int32.ofNat (t + 1), q')) ∧ kfp (fun l _ => Wrw l) g q' ∧ Rzero q' ∧ MR h q' (t + 1) := fun hn => by
        obtain ⟨q2, eq2, F2, l1, l2, l3, l4, f12⟩ := wr q 0 kfp.rf
        have r2 := rq.fp F2
        obtain ⟨q', e', fin⟩ := b253 q2 0 (by unfold sqN; rw [if_neg (fun u => hn ⟨u.2.1, u.1⟩)]) F2 (p3.fp f12 fun l i z w => by omega) l1 (by rw [l2]; unfold mqZ; rw [if_neg hn]; rfl) l3 l4
        have e'' : f_X12_ask_b253 q2 173 v (Int32.ofNat t) 212 (Int32.ofNat t) (0 : Int32) = _ := e'
        unfold f_X12_ask_b201 f_X12_ask_b202 f_X12_ask_b223 f_X12_ask_b252
        rw [if_pos kk173, rf173_52 rq, if_pos (show 211 < 999999 by omega), if_pos rfl, if_pos kk211, kn211, if_neg (by rw [n32_cl (by omega)]; exact fun z => z.elim (n32_nn (by omega)) (by omega)), n32_cl (show t < 2147483648 by omega), kl_e, ← eq2, if_pos kk173, rf173_53 r2, if_pos (show 212 < 999999 by omega), if_pos rfl]
        exact ⟨q', e'', fin⟩
      unfold f_X12_ask_l172
      dsimp only
      rw [if_pos kk173, m_testMany rq, kb_s, e4, if_neg (by rw [n32_le (by omega) (by omega)]; omega)]
      by_cases a0 : aT (WN h) 72 = 0
      · rw [if_pos (by rw [mq.2.1, a0]; decide)]
        exact zero (fun u => u.1 a0)
      · rw [if_neg (by rw [mq.2.1, show (0 : Int64) = Int64.ofNat 0 from rfl, lgn_le0 (by omega) (by omega)]; omega), m_stateOf rq t6, kb_s, eA]
        by_cases y : anN h t = 0
        · rw [if_pos (by rw [y]; rfl)]
          obtain ⟨q1, e1, f1, z1⟩ := m_meritOf rc fq wb mq.1 mq.2.1 p3 a0 p6
          have em : mrZ h (WN h) (mK q (2 ^ t)) (2 ^ t) = mqZ h t := by
            unfold mqZ
            rw [if_pos ⟨a0, y⟩]
            unfold mrZ
            rw [keys]
          rw [em] at e1
          have mb := mqZ_b rc ht
          obtain ⟨q2, eq2, F2, l1, l2, l3, l4, f12⟩ := wr q1 (Int64.ofInt (mqZ h t)) f1
          have r2 := rq.fp F2
          have z2 : Rzero q2 := z1.fp f12 fun l i z w => by omega
          have fs2 : kfp Wscr h q2 := fq.tr (F2.wide fun l i z => by unfold Wrw at z; unfold Wscr; omega)
          have m2 : Mst h q2 (WN h) 72 := ⟨fun w hw => (F2.2.2.2 _ _ (by unfold Wrw; omega)).trans (mq.1 w hw), (F2.2.2.2 _ _ (by unfold Wrw; omega)).trans mq.2.1, fun w a b d => (F2.2.2.1 _ _ (by unfold Wrw; omega)).trans (mq.2.2 w a b d)⟩
          have keys2 := mst_keys rc rs rr m2 pp
          obtain ⟨q3, e3, f3, z3⟩ := m_rightBy r2 wb m2.1 z2 p6
          have r3 := r2.fp f3
          have rl := rN_le (WN h) (mK q2 (2 ^ t)) (mK_lt q2 p6)
          have F3 : kfp (fun l _ => Wrw l) q q3 := F2.tr (f3.wide fun l i z => by unfold Wrw; omega)
          have eq0 : lg_cmp (Int64.ofNat (rN (WN h) (mK q2 (2 ^ t)))) (kL q3 173 56) = 0 ↔ rN (WN h) (kX (paN h (tmM h)) (2 ^ t)) = aT (WN h) 72 := by
            rw [f3.2.2.2 _ _ (by omega), m2.2.1, keys2]
            exact lgn_eq (by omega) (by omega)
          have sq : sqN h t = if rN (WN h) (kX (paN h (tmM h)) (2 ^ t)) = aT (WN h) 72 then 1 else 0 := by
            unfold sqN
            by_cases u : rN (WN h) (kX (paN h (tmM h)) (2 ^ t)) = aT (WN h) 72
            · rw [if_pos ⟨y, a0, u⟩, if_pos u]
            · rw [if_neg (fun z => u z.2.2), if_neg u]
          have fin := fun w2 hw2 => b253 q3 w2 hw2 F3 z3 (fun j hj => by rw [f3.2.2.2 _ _ (by omega)]; exact l1 j hj) (by rw [f3.2.2.2 _ _ (by omega), l2]; exact z64_toInt (by omega)) (fun i => by rw [f3.2.2.1 _ _ (by omega)]; exact l3 i) (fun i => by rw [f3.2.2.1 _ _ (by omega)]; exact l4 i)
          unfold f_X12_ask_b202
          rw [if_pos kk173, rf173_52 rq, if_pos (show 211 < 999999 by omega), if_neg (by decide), sh, e1, kb_s]
          unfold f_X12_ask_b223 f_X12_ask_b252
          dsimp only
          rw [if_pos kk211, kn211, if_neg (by rw [n32_cl (by omega)]; exact fun z => z.elim (n32_nn (by omega)) (by omega)), n32_cl (show t < 2147483648 by omega), kl_e, ← eq2, if_pos kk173, rf173_53 r2, if_pos (show 212 < 999999 by omega), if_neg (by decide), sh, e3, kb_s]
          dsimp only
          by_cases u : rN (WN h) (kX (paN h (tmM h)) (2 ^ t)) = aT (WN h) 72
          · rw [if_pos (eq0.mpr u)]
            rw [if_pos u] at sq
            exact fin 1 sq.symm
          · rw [if_neg (fun z => u (eq0.mp z))]
            rw [if_neg u] at sq
            exact fin 0 sq.symm
        · rw [if_neg (by rw [n32_ne0 (by omega)]; exact y)]
          exact zero (fun u => y u.2)
    obtain ⟨q', e', a1, a2, a3⟩ := goal
    exact ⟨(Int32.ofNat (t + 1), q'), e', rfl, a1, a2, a3⟩
  · obtain ⟨s1, q⟩ := s
    obtain ⟨p1, p2, p3, p4⟩ := hP
    dsimp only at p1 p2 p3 p4
    subst p1
    have fq : kfp Wscr h q := f.tr (p2.wide fun l i z => by unfold Wrw at z; unfold Wscr; omega)
    have rq := hr.fp fq
    have e4 : kI q 198 4 = Int32.ofNat (kN h 198 4) := (fq.2.2.1 _ _ (by unfold Wscr; omega)).trans hm.2.1.1.1
    refine ⟨q, ?_, p2, p3, p4⟩
    unfold f_X12_ask_l172
    dsimp only
    rw [if_pos kk173, m_testMany rq, kb_s, e4, if_pos (by rw [n32_le (by omega) (by omega)]; omega)]
