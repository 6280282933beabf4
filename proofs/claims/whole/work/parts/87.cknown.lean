theorem wtT_in {h : KH} {T A L : Nat → Nat} {w : Nat} (z : wtN h T A L w ≠ 0) : vW h w := by
  refine Classical.byContradiction fun y => z ?_
  unfold wtN
  exact if_neg y
theorem oneT_t (t a : Nat) : oneT t a t = a := if_pos rfl
theorem c_known {h : KH} {c : Nat} (rc : RC h c) (rs : RS h) (rr : Rrule h c) (ry : Ryt h c) (rz : Rzero h) (a b : Int32) : ∃ r h1 h2, f_X11_known h 0 a b = some (r, h1) ∧ f_X12_known h1 173 a b = some (r, h2) ∧ Scr h h2 c := by
  obtain ⟨hr, hc, h5, hm, -⟩ := id rc
  have c39 := hc.lt
  have n4 := hm.2.1.1.2
  have z0 : (0 : Int64).toInt = 0 := rfl
  have z99 : (99 : Int64).toInt = 99 := rfl
  rcases n32_arg a (n := kN h 198 4) (by omega) with ⟨t, ht, rfl⟩ | ha
  · rcases n32_arg b (n := 100) (by omega) with ⟨y, hy, rfl⟩ | hb
    · have tp : 2 ^ t ≤ 2 ^ 5 := Nat.pow_le_pow_right (by omega) (by omega)
      have tq : 2 ^ t < 2 ^ kN h 198 4 := Nat.pow_lt_pow_right (by omega) ht
      obtain ⟨g1, e1, s1, w1⟩ := x_trial rc rr ry rz ht (a := y) (by omega)
      have r1 := hr.fp s1.1
      obtain ⟨W, hW⟩ : ∃ W, wtN h (oneT t y) (fun _ => 0) (fun _ => 0) = W := ⟨_, rfl⟩
      have wb : ∀ w, W w ≤ 27960524111619 := fun w => by rw [← hW]; exact wt_le rc _ _ _ w
      have ab := aT_wb wb
      rw [hW] at w1
      obtain ⟨g2, e0, f2, z2⟩ := x_rightOf r1 wb w1 s1.2.2 (s := 2 ^ t) (by omega)
      have e2 : f_X10_rightOf g1 162 (Int32.ofNat (2 ^ t)) = some (Int64.ofNat (rN W (kX (paN h (oneT t y)) (2 ^ t))), g2) := e0
      have s2 := s1.x hc f2 z2
      have r2 := hr.fp s2.1
      have rl := rN_le W (kX (paN h (oneT t y)) (2 ^ t)) (kX_lt _ (by omega))
      obtain ⟨p0, p1, p2, p3, T, m0, m1, m2, m3, rp0, s3, Tt, Tl, mw, ma, mk⟩ := m_trial rc rs rr s2 ht (a := y) (by omega)
      have eW : wtN h T (fun _ => 0) (fun _ => 0) = W := by
        rw [← hW]
        exact wtN_fresh rc (fun _ _ => rfl) (fun _ _ => rfl) (fun _ _ => rfl)
      rw [eW] at mw ma
      obtain ⟨p4, m4, f4, z4⟩ := m_rightBy (hr.fp s3.1) wb mw s3.2.2 (s := 2 ^ t) (by omega)
      have f4' : kfp W15 p3 p4 := f4.wide fun l i z => z
      have s4 := s3.m hc f4' z4
      have er : rN W (kX (paN h (oneT t y)) (2 ^ t)) = rN W (mK p3 (2 ^ t)) := by
        refine rN_cg (kX_lt _ (by omega)) (mK_lt p3 (by omega)) (fun w v hw hv => ?_) 72
        have vw := wtT_in (h := h) (T := T) (A := fun _ => 0) (L := fun _ => 0) (w := w) (by rw [eW]; exact hw)
        have vv := wtT_in (h := h) (T := T) (A := fun _ => 0) (L := fun _ => 0) (w := v) (by rw [eW]; exact hv)
        have o : oneT t y t ≤ 99 := by rw [oneT_t]; omega
        have oT : oneT t y t = T t := by rw [oneT_t, Tt]
        rw [kX_one rc rr ht o oT vw, kX_one rc rr ht o oT vv]
        exact mk _ tq w v vw vv
      have xk : f_X11_known h 0 (Int32.ofNat t) (Int32.ofNat y) = some (if aT W 72 = 0 then -1 else Int32.ofNat (rN W (kX (paN h (oneT t y)) (2 ^ t)) * 1000000 / aT W 72), g2) := by
        have f0 := xclear_fp h 68
        have r0 := hr.fp f0
        obtain ⟨q, eq⟩ : ∃ q, q = ksI (xclear h 68) 69 t (Int32.ofNat y) := ⟨_, rfl⟩
        rw [← eq] at e1
        have fq : kfp (fun l _ => 68 ≤ l ∧ l ≤ 71) h q := by
          rw [eq]
          exact (f0.wide fun l i z => by omega).sI _ ⟨by omega, by omega⟩
        have rq := hr.fp fq
        unfold f_X11_known
        rw [if_pos kk0, x_isTest_y rc ht, kb_s, if_neg (show ¬ ((1 : Int32) = 0) by decide), if_neg (n32_nn (by omega)), if_pos (by rw [n32_lel (by omega) (by omega)]; omega), rf0_8 hr, if_pos (show 68 < 999999 by omega), if_pos kk68, x_clear (St68 hr), kb_s, rf0_8 r0, if_pos (show 68 < 999999 by omega), if_pos kk68, rf68_3 r0, if_pos (show 69 < 999999 by omega), if_pos kk69, kn69, if_neg (by rw [n32_cl (by omega)]; exact fun z => z.elim (n32_nn (by omega)) (by omega)), n32_cl (by omega), ← eq, kl_e, rf0_11 rq, if_pos (show 162 < 999999 by omega), fq.2.1, h5, if_pos (show c < 999999 by omega), rf0_8 rq, if_pos (show 68 < 999999 by omega), if_pos kk162, e1, kb_s, rf0_11 r1, if_pos (show 162 < 999999 by omega), if_pos kk162, n32_shl _ (by omega), e2, kb_s, x_shareW r2 wb (w1.same f2 fun l i z => by unfold W89; omega) rl, kb_s]
      have zt : (Int32.ofNat y).toInt = y := n32_toInt (by omega)
      have rc2 := rc.sc s2.1
      have n42 := n4_sc s2.1
      by_cases q : aT W 72 = 0
      · refine ⟨-1, g2, p3, by rw [xk, if_pos q], ?_, s3⟩
        unfold f_X12_known
        rw [if_pos kk173, m_isTest_y rc2 (by omega), kb_s, if_neg (show ¬ ((1 : Int32) = 0) by decide), isIn_y _ z0 z99 (by rw [zt]; omega), kb_s, if_neg (show ¬ ((1 : Int32) = 0) by decide), m0, kb_s, rf173_45 rp0, if_pos (show 207 < 999999 by omega), if_pos kk207, kn207, n32_mulr, n32_addr, if_neg (by rw [n32_cl (by omega)]; exact fun z => z.elim (n32_nn (by omega)) (by omega)), n32_cl (by omega), kl_e, m1, kb_s, m2, kb_s, m3, kb_s, if_pos ((m_isAll ma ab).mpr q)]
      · refine ⟨_, g2, p4, by rw [xk, if_neg q], ?_, s4⟩
        unfold f_X12_known
        rw [if_pos kk173, m_isTest_y rc2 (by omega), kb_s, if_neg (show ¬ ((1 : Int32) = 0) by decide), isIn_y _ z0 z99 (by rw [zt]; omega), kb_s, if_neg (show ¬ ((1 : Int32) = 0) by decide), m0, kb_s, rf173_45 rp0, if_pos (show 207 < 999999 by omega), if_pos kk207, kn207, n32_mulr, n32_addr, if_neg (by rw [n32_cl (by omega)]; exact fun z => z.elim (n32_nn (by omega)) (by omega)), n32_cl (by omega), kl_e, m1, kb_s, m2, kb_s, m3, kb_s, if_neg (fun z => q ((m_isAll ma ab).mp z)), n32_shl _ (by omega), m4, kb_s, ← er, m_millionths (by rw [f4.2.2.2 _ _ (by omega)]; exact ma) rl ab q, kb_s]
    · refine ⟨-1, h, h, ?_, ?_, Scr.rf ry rz⟩
      · unfold f_X11_known
        rw [if_pos kk0, x_isTest_y rc ht, kb_s, if_neg (show ¬ ((1 : Int32) = 0) by decide)]
        by_cases b0 : b < 0
        · rw [if_pos b0]
        · have := rng_n (n := 100) (by omega) hb b0
          rw [if_neg b0, if_neg (by rw [Int32.le_iff_toInt_le] at this ⊢; rw [n32_toInt (by omega)] at this; show ¬ b.toInt ≤ 99; omega)]
      · unfold f_X12_known
        rw [if_pos kk173, m_isTest_y rc ht, kb_s, if_neg (show ¬ ((1 : Int32) = 0) by decide), isIn_n _ z0 z99 (by omega), kb_s, if_pos rfl]
  · refine ⟨-1, h, h, ?_, ?_, Scr.rf ry rz⟩
    · unfold f_X11_known
      rw [if_pos kk0, x_isTest_n rc ha, kb_s, if_pos rfl]
    · unfold f_X12_known
      rw [if_pos kk173, m_isTest_n rc ha, kb_s, if_pos rfl]
