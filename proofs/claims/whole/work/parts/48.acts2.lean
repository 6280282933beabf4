/-! judge, look, undo: both sides -/
theorem m_refuses {h : KH} (hr : kRefs h) {j : Nat} (hj : j < 6) : f_X12_refuses h 173 (Int32.ofNat j) = some (-1, ksI h 175 j (kI h 175 j + 1)) := by
  unfold f_X12_refuses
  rw [if_pos kk173, rf173_9 hr, if_pos (show 175 < 999999 by omega), if_pos kk175, kn175, if_neg (by rw [n32_cl (by omega)]; exact fun z => z.elim (n32_nn (by omega)) (by omega)), n32_cl (by omega), kl_e]
theorem m_isRefused {h : KH} (hr : kRefs h) : f_X12_isRefused h 173 = some (0, ksI h 175 2 (kI h 175 2 + 1)) := by
  unfold f_X12_isRefused
  rw [if_pos kk173, rf173_9 hr, if_pos (show 175 < 999999 by omega), if_pos kk175, kn175, if_neg (show ¬ 6 ≤ 2 by omega), kl_e]
theorem aft_ref {h : KH} (hf : Rref h) (j : Nat) : Aft h (ksI (ksI h 172 j (kI h 172 j + 1)) 175 j (kI (ksI h 172 j (kI h 172 j + 1)) 175 j + 1)) := Or.inl ⟨fp_more h j, Rref_more hf j⟩
theorem hmN_cg {h h' : KH} {s : Nat} (e : ∀ t, kN h' 201 (6 + t) = kN h 201 (6 + t)) : ∀ n, hmN h' s n = hmN h s n
  | 0 => rfl
  | n + 1 => by
    unfold hmN
    rw [hmN_cg e n, e n]
theorem c_judge {h : KH} {c : Nat} (rc : RC h c) (rs : RS h) (rk : RK h) (rp : Rpast h) (hf : Rref h) (a : Int32) : ∃ r h1 h2, f_X11_judge h 0 a = some (r, h1) ∧ f_X12_judge h1 173 a = some (r, h2) ∧ Aft h h2 := by
  obtain ⟨hr, hc, h5, hm, -⟩ := id rc
  have c39 := hc.lt
  have z1 : (1 : Int64).toInt = 1 := rfl
  have z0 : (0 : Int64).toInt = 0 := rfl
  have xr : f_X11_judge_b20 h 0 = some (-1, ksI h 172 2 (kI h 172 2 + 1)) := by
    unfold f_X11_judge_b20
    rw [if_pos kk0, show (2 : Int32) = Int32.ofNat 2 from rfl, x_refuse hr (by omega), kb_s]
  have mr : ∀ g, kRefs g → f_X12_judge_b22 g 173 = some (-1, ksI g 175 2 (kI g 175 2 + 1)) := fun g rg => by
    unfold f_X12_judge_b22
    rw [if_pos kk173, show (2 : Int32) = Int32.ofNat 2 from rfl, m_refuses rg (by omega), kb_s]
  unfold f_X11_judge
  rw [x_isBit, kb_s]
  rcases n32_arg a (n := 2) (by omega) with ⟨k, hk, rfl⟩ | ha
  · rw [if_pos (rgt hk (by omega)), if_neg (show ¬ ((1 : Int32) = 0) by decide), if_pos kk0, rf0_7 hr, if_pos (show 64 < 999999 by omega), if_pos kk64]
    have cc := rs.c.1
    have cb := cc.2
    have e64 : kI h 64 0 = Int32.ofNat (kN h 207 0) := rs.c.2.trans cc.1
    rw [e64]
    by_cases z : kN h 207 0 < 9999
    · rw [if_pos (by rw [n32_ltl (by omega) (by omega)]; exact z)]
      obtain ⟨n, p, n20, p20, q1, q2, q3, q4, hp⟩ := rp
      obtain ⟨h1, e1, f1, a1, a2, a3, a4, a5, a6⟩ := x_beginAct hr q1 n20 q3 p20
      have rc1 : RC h1 c := rc.fp f1 fun l i y w => by unfold Wct at y; omega
      have xs1 : XS h1 64 := rs.xs.fp f1 fun l i y w => by omega
      have j2 : kI h1 64 2 = kI h 64 2 := f1.2.2.1 _ _ (by omega)
      have n4 : kN h1 198 4 = kN h 198 4 := kN_same (f1.2.2.1 _ _ (by omega))
      have kb1 : cn h1 64 2 9999 := rk.k.1.same j2
      have hH : hbN (anX h1 64) (kN h1 198 4) = hdN h := by
        rw [n4, ← rs.hd rc]
        exact hbN_cg _ fun t ht => kN_same (f1.2.2.1 66 t (by omega))
      obtain ⟨h2, e2, f2, x0, x1, x2, x3, x4, p0, p1, p2, p3⟩ := x_closeCase rc1 xs1 kb1 (Int32.ofNat k) 2 hH
      have jK : kN h1 64 2 = kN h 64 2 := kN_same j2
      have hw : hmN h1 (hdN h) (kN h1 198 4) = hmN h (hdN h) (kN h 198 4) := by
        rw [n4]
        exact (hmN_cg (fun t => kN_same (f1.2.2.1 _ _ (by omega)))) _
      rw [hw] at x1 p1
      rw [jK] at x2 p0 p1 p2 p3 f2
      have i0 : kN h1 64 0 = kN h 64 0 := kN_same (f1.2.2.1 _ _ (by omega))
      have i1 : kN h1 64 1 = kN h 64 1 := kN_same (f1.2.2.1 _ _ (by omega))
      rw [i0] at x0
      rw [i1] at x1
      have r1 := hr.fp f1
      have r2 := r1.fp f2
      -- the model
      have o1 : kI h2 173 61 = Int32.ofNat n := by rw [f2.2.2.1 _ _ (by unfold Wcc; omega), f1.2.2.1 _ _ (by omega), q2]
      have o2 : kI h2 173 62 = Int32.ofNat p := by rw [f2.2.2.1 _ _ (by unfold Wcc; omega), f1.2.2.1 _ _ (by omega), q4]
      obtain ⟨h3, e3, f3, b1, b2, b3⟩ := m_keeps r2 o1 n20 o2 p20
      have f02 : kfp (fun l i => (64 ≤ l ∧ l ≤ 67) ∨ (75 + 4 * p ≤ l ∧ l ≤ 78 + 4 * p) ∨ (l = 72 ∧ (i = 2 ∨ i = 3)) ∨ (l = 155 ∧ i = 3) ∨ (l = 74 ∧ 4 * (kN h 64 2 % 1024) ≤ i ∧ i < 4 * (kN h 64 2 % 1024) + 4)) h h2 := (f1.wide fun l i y => by omega).tr (f2.wide fun l i y => by unfold Wcc at y; omega)
      have f03 : kfp (fun l i => (64 ≤ l ∧ l ≤ 67) ∨ (75 + 4 * p ≤ l ∧ l ≤ 78 + 4 * p) ∨ (l = 72 ∧ (i = 2 ∨ i = 3)) ∨ (l = 155 ∧ i = 3) ∨ (l = 74 ∧ 4 * (kN h 64 2 % 1024) ≤ i ∧ i < 4 * (kN h 64 2 % 1024) + 4) ∨ (l = 217 ∧ 185 * ((p + 1) % 20) ≤ i ∧ i < 185 * ((p + 1) % 20) + 185) ∨ (l = 173 ∧ (i = 61 ∨ i = 62))) h h3 := (f02.wide fun l i y => by omega).tr (f3.wide fun l i y => by omega)
      have rc3 : RC h3 c := rc.fp f03 fun l i y w => by unfold Wct at y; omega
      have ms3 : MS h3 := rs.ms.fp f03 fun l i y w => by omega
      have m207 : ∀ i, kI h3 207 i = kI h 207 i := fun i => f03.2.2.1 _ _ (by omega)
      have n43 : kN h3 198 4 = kN h 198 4 := kN_same (f03.2.2.1 _ _ (by omega))
      have hdl := hdN_lt rc
      have hF : fbN (anN h3) (kN h3 198 4) = 2 ^ kN h 198 4 - 1 - hdN h := by
        have q := fb_hb (anN h3) (kN h3 198 4)
        have q2 : hbN (anN h3) (kN h3 198 4) = hdN h := by
          rw [n43]
          exact hbN_cg _ fun t ht => kN_same (m207 _)
        rw [q2] at q
        rw [n43] at q ⊢
        omega
      have q24 : kI h3 207 24 = Int32.ofNat (min (kN h 64 2) 40) := (m207 24).trans rk.m
      obtain ⟨h4, e4, f4, y0, y1, y3, y4, y5, y6, w0, w1, w2, w3⟩ := m_isJudged rc3 ms3 q24 (Nat.min_le_right _ _) (Int32.ofNat k) 2 (s := hdN h) (by rw [n43]; exact hdl.1)
      have hw3 : hmN h3 (hdN h) (kN h3 198 4) = hmN h (hdN h) (kN h 198 4) := by
        rw [n43]
        exact (hmN_cg (fun t => kN_same (f03.2.2.1 _ _ (by omega)))) _
      rw [hw3] at y1 w1
      have u0 : kN h3 207 0 = kN h 207 0 := kN_same (m207 0)
      have u1 : kN h3 207 1 = kN h 207 1 := kN_same (m207 1)
      rw [u0] at y0
      rw [u1] at y1
      have e00 : kN h 64 0 = kN h 207 0 := kN_same rs.c.2
      have r3 := r2.fp f3
      have r4 := r3.fp f4
      have K4 : ∀ l i, l ≠ 207 → l ≠ 217 → ¬ (l = 173 ∧ (i = 61 ∨ i = 62)) → kI h4 l i = kI h2 l i := fun l i v1 v2 v3 => by rw [f4.2.2.1 _ _ (by omega), f3.2.2.1 _ _ (by omega)]
      refine ⟨Int32.ofNat (kN h 207 0 + 1), h2, h4, ?_, ?_, Or.inr ?_⟩
      · rw [e1, kb_s, e2, kb_s, rf0_7 r2, if_pos (show 64 < 999999 by omega), if_pos kk64, x0, e00]
      · unfold f_X12_judge
        have u2 : kI h2 207 0 = Int32.ofNat (kN h 207 0) := (f02.2.2.1 _ _ (by omega)).trans cc.1
        rw [isIn_y h2 z0 z1 (by rw [n32_toInt (by omega)]; omega), kb_s, if_neg (show ¬ ((1 : Int32) = 0) by decide), if_pos kk173, rf173_45 r2, if_pos (show 207 < 999999 by omega), if_pos kk207, kn207, if_neg (show ¬ 185 ≤ 0 by omega), u2, if_neg (by rw [n32_eql (by omega) (by omega)]; omega), e3, kb_s, m_allTests rc3, kb_s, m_freeTests rc3 ms3, kb_s, hF, n43, n32_heard _ (by have := hm.2.1.1.2; omega) _ hdl.1, e4, kb_s, rf173_45 r4, if_pos (show 207 < 999999 by omega), if_pos kk207, kn207, if_neg (show ¬ 185 ≤ 0 by omega), y0]
      · have c4 : ∀ i, kI h4 198 i = kI h 198 i := fun i => by rw [K4 _ _ (by omega) (by omega) (by omega), f02.2.2.1 _ _ (by omega)]
        obtain ⟨s4, k4⟩ := aft_judged (h := h) (h' := h4) (H := hdN h) (w := hmN h (hdN h) (kN h 198 4)) (cl := Int32.ofNat k) (rt := 2) rs rk z hdl.1 (c4 4) (c4 5)
          ((K4 _ _ (by omega) (by omega) (by omega)).trans x0) ((K4 _ _ (by omega) (by omega) (by omega)).trans x1) ((K4 _ _ (by omega) (by omega) (by omega)).trans x2)
          (fun t ht => ⟨by rw [K4 _ _ (by omega) (by omega) (by omega), (x3 t ht).1, kN_same (f1.2.2.1 65 t (by omega))], (K4 _ _ (by omega) (by omega) (by omega)).trans (x3 t ht).2⟩)
          (fun i hi => (K4 _ _ (by omega) (by omega) (by omega)).trans (x4 i hi))
          ((K4 _ _ (by omega) (by omega) (by omega)).trans p0) ((K4 _ _ (by omega) (by omega) (by omega)).trans p1) ((K4 _ _ (by omega) (by omega) (by omega)).trans p2) ((K4 _ _ (by omega) (by omega) (by omega)).trans p3)
          (fun x hx hx2 i hi => by rw [K4 _ _ (by omega) (by omega) (by omega), f02.2.2.1 _ _ (by omega)])
          y0 y1 (fun t ht => ⟨by rw [(y3 t ht).1, kN_same (m207 _)], (y3 t ht).2⟩) y4 y5 (fun j hj i hi => by rw [y6 j hj i hi, m207]) w0 w1 w2 w3
        have kk : kN h4 64 2 = kN h 64 2 + 1 := kN_of ((K4 _ _ (by omega) (by omega) (by omega)).trans x2) (by have := rk.k.1.2; omega)
        refine ⟨s4, k4, past_push (h := h) (h' := h4) rs rk n20 p20 hp ?_ ?_ ?_ ?_ ?_ ?_ ?_ ?_ ?_ ?_ ?_ ?_ (c4 4) (c4 5), ?_, ?_⟩
        · rw [K4 _ _ (by omega) (by omega) (by omega), f2.2.2.1 _ _ (by unfold Wcc; omega), a1]
        · rw [f4.2.2.1 _ _ (by omega), b1]
        · rw [K4 _ _ (by omega) (by omega) (by omega), f2.2.2.1 _ _ (by unfold Wcc; omega), a2]
        · rw [f4.2.2.1 _ _ (by omega), b2]
        · intro i hi
          rw [K4 _ _ (by omega) (by omega) (by omega), f2.2.2.1 _ _ (by unfold Wcc; omega), a4 i hi]
        · intro t ht
          rw [K4 _ _ (by omega) (by omega) (by omega), f2.2.2.1 _ _ (by unfold Wcc; omega), K4 _ _ (by omega) (by omega) (by omega), f2.2.2.1 _ _ (by unfold Wcc; omega)]
          exact a5 t ht
        · intro i hi
          rw [K4 _ _ (by omega) (by omega) (by omega), f2.2.2.1 _ _ (by unfold Wcc; omega), a6 i hi]
        · intro i hi
          rw [f4.2.2.1 _ _ (by omega), b3 i hi, f02.2.2.1 _ _ (by omega)]
        · intro l i l1 l2 l3
          rw [K4 _ _ (by omega) (by omega) (by omega), f02.2.2.1 _ _ (by omega)]
        · intro i hi
          rw [f4.2.2.1 _ _ (by omega), f03.2.2.1 _ _ (by omega)]
        · rw [kk]
          omega
        · intro x hx hx2 i hi
          rw [kk] at hx2
          rw [K4 _ _ (by omega) (by omega) (by omega), f02.2.2.1 _ _ (by omega)]
        · rw [K4 _ _ (by omega) (by omega) (by omega), f2.2.2.1 _ _ (by unfold Wcc; omega), a3]
        · exact (f03.wide fun l i y => by unfold Wact; omega).tr (f4.wide fun l i y => by unfold Wact; omega)
    · rw [if_neg (by rw [n32_ltl (by omega) (by omega)]; exact z), xr]
      refine ⟨-1, _, _, rfl, ?_, aft_ref hf 2⟩
      have r2 := hr.sI 172 2 (kI h 172 2 + 1)
      unfold f_X12_judge
      have u2 : kI (ksI h 172 2 (kI h 172 2 + 1)) 207 0 = Int32.ofNat (kN h 207 0) := by rw [kI_sI, if_neg (by omega)]; exact cc.1
      rw [isIn_y _ z0 z1 (by rw [n32_toInt (by omega)]; omega), kb_s, if_neg (show ¬ ((1 : Int32) = 0) by decide), if_pos kk173, rf173_45 r2, if_pos (show 207 < 999999 by omega), if_pos kk207, kn207, if_neg (show ¬ 185 ≤ 0 by omega), u2, if_pos (by rw [n32_eql (by omega) (by omega)]; omega), mr _ r2]
  · rw [if_neg ha, if_pos rfl, xr]
    refine ⟨-1, _, _, rfl, ?_, aft_ref hf 2⟩
    unfold f_X12_judge
    rw [isIn_n _ z0 z1 (by omega), kb_s, if_pos rfl, mr _ (hr.sI _ _ _)]
