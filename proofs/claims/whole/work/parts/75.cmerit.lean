/-! merit on both sides -/
theorem mst_keys {h g : KH} {c : Nat} (rc : RC h c) (rs : RS h) (rr : Rrule h c) (ms : Mst h g (WN h) 72) {s : Nat} (hs : s < 2 ^ kN h 198 4) : rN (WN h) (kX (paN h (tmM h)) s) = rN (WN h) (mK g s) := by
  have s6 : s < 64 := Nat.lt_of_lt_of_le hs (pow6 _ rc.2.2.2.1.2.1.1.2)
  refine rN_cg (kX_lt _ s6) (mK_lt g s6) (fun w v hw hv => ?_) 72
  exact key_eq rc (fun t ht => (rs.t ht).1.2) rr (fun x hx => ms.2.2 x hx.2.2 hx.1 hx.2.1) hs (wt_in hw) (wt_in hv)
theorem mK_same {g g' : KH} {s : Nat} (e : ∀ i, kI g' 214 i = kI g 214 i) : mK g' s = mK g s := by
  funext w
  unfold mK
  rw [e]
theorem pow6s {h : KH} {c : Nat} (rc : RC h c) {s : Nat} (hs : s < 2 ^ kN h 198 4) : s < 64 := Nat.lt_of_lt_of_le hs (pow6 _ rc.2.2.2.1.2.1.1.2)
theorem c_merit {h : KH} {c : Nat} (rc : RC h c) (rs : RS h) (rr : Rrule h c) (ry : Ryt h c) (rz : Rzero h) (a : Int32) : ∃ r h1 h2, f_X11_merit h 0 a = some (r, h1) ∧ f_X12_merit h1 173 a = some (r, h2) ∧ Scr h h2 c := by
  obtain ⟨hr, hc, h5, hm, -⟩ := id rc
  have c39 := hc.lt
  have n4 := hm.2.1.1.2
  have p1 := Nat.pow_le_pow_right (n := 2) (by omega) n4
  have p0 : 0 < 2 ^ kN h 198 4 := Nat.pow_pos (by omega)
  have z0 : (0 : Int64).toInt = 0 := rfl
  have c4 : kI h c 4 = Int32.ofNat (kN h 198 4) := by rw [hm.2.1.2, hm.2.1.1.1]
  have zl : (Int32.ofNat (2 ^ kN h 198 4 - 1)).toInt64.toInt = ((2 ^ kN h 198 4 - 1 : Nat) : Int) := by rw [n32_toI64 (by omega), n64_toInt (by omega)]
  rcases n32_arg a (n := 2 ^ kN h 198 4) (by omega) with ⟨s, hs, rfl⟩ | ha
  · have s6 := pow6s rc hs
    have hd := hdN_lt rc
    have xh : f_X8_heardBits h 64 = some (Int32.ofNat (hdN h)) := by rw [x_heard rc (St64 hr) rs.xs, rs.hd rc]
    unfold f_X11_merit
    rw [if_neg (n32_nn (by omega)), if_pos kk0, h5, if_pos (show c < 999999 by omega), if_pos (ct_kk hc), c4, n32_shl _ (by omega), if_neg (by rw [n32_le (by omega) (by omega)]; omega), rf0_7 hr, if_pos (show 64 < 999999 by omega), if_pos kk64, xh, kb_s, n32_and]
    by_cases y : s &&& hdN h = 0
    · rw [if_pos (by rw [y]; rfl), rf0_11 hr, if_pos (show 162 < 999999 by omega), if_pos kk162]
      obtain ⟨h1, e1, s1, a1, w1⟩ := x_now rc rs rr ry rz
      have r1 := hr.fp s1.1
      have rc1 := rc.sc s1.1
      have m1 : MS h1 := rs.ms.fp s1.1 fun l i z => by unfold Wscr; omega
      have q4 : kN h1 198 4 = kN h 198 4 := kN_same (s1.1.2.2.1 _ _ (by unfold Wscr; omega))
      have ab := aT_b rc
      have wb := WN_le rc
      have fr1 : f_X12_freeTests h1 173 = some (Int32.ofNat (2 ^ kN h 198 4 - 1 - hdN h)) := by
        rw [m_freeTests rc1 m1, q4, (tm_sc s1.1).2.1]
        have := fb_hb (anN h) (kN h 198 4)
        rw [show fbN (anN h) (kN h 198 4) = 2 ^ kN h 198 4 - 1 - hdN h by unfold hdN; omega]
      have al1 : f_X12_allTests h1 173 = some (Int32.ofNat (2 ^ kN h 198 4 - 1)) := by rw [m_allTests rc1, q4]
      obtain ⟨h2, e2, s2, f2, y2, m2⟩ := m_now rc rs rr (s1)
      rw [e1, kb_s, rf0_11 r1, if_pos (show 162 < 999999 by omega), if_pos kk162, x_totalW r1 w1, kb_s]
      by_cases q : aT (WN h) 72 = 0
      · refine ⟨-1000000000000000, h1, h2, ?_, ?_, s2⟩
        · rw [if_pos (by rw [q]; decide)]
        · unfold f_X12_merit
          rw [if_pos kk173, al1, kb_s, isIn_y h1 z0 zl (by rw [n32_toInt (by omega)]; omega), kb_s, if_neg (show ¬ ((1 : Int32) = 0) by decide), fr1, kb_s, if_pos ((n32_free _ (by omega) _ hd.1 _ hs).mpr y), e2, kb_s, if_pos ((m_isAll m2.2.1 ab).mpr q)]
      · obtain ⟨h3, e3, f3, z3⟩ := x_meritOf rc s1.1 wb w1 s1.2.2 q s6
        have s3 : Scr h h3 c := ⟨s1.1.tr (f3.wide fun l i z => z.sc), s1.2.1.fp f3 fun l i z w => by unfold Wlw at z; unfold W89 at w; rcases hc with rfl | rfl <;> omega, z3⟩
        have rc3 := rc.sc s3.1
        have m3 : MS h3 := rs.ms.fp s3.1 fun l i z => by unfold Wscr; omega
        have q43 : kN h3 198 4 = kN h 198 4 := kN_same (s3.1.2.2.1 _ _ (by unfold Wscr; omega))
        have fr3 : f_X12_freeTests h3 173 = some (Int32.ofNat (2 ^ kN h 198 4 - 1 - hdN h)) := by
          rw [m_freeTests rc3 m3, q43, (tm_sc s3.1).2.1]
          have := fb_hb (anN h) (kN h 198 4)
          rw [show fbN (anN h) (kN h 198 4) = 2 ^ kN h 198 4 - 1 - hdN h by unfold hdN; omega]
        have al3 : f_X12_allTests h3 173 = some (Int32.ofNat (2 ^ kN h 198 4 - 1)) := by rw [m_allTests rc3, q43]
        obtain ⟨h4, e4, s4, f4, y4, m4⟩ := m_now rc rs rr s3
        obtain ⟨h5', e5, f5, z5⟩ := m_meritOf rc s4.1 wb m4.1 m4.2.1 s4.2.2 q s6
        refine ⟨Int64.ofInt (mrZ h (WN h) (kX (paN h (tmM h)) s) s), h3, h5', ?_, ?_, ⟨s4.1.tr (f5.wide fun l i z => by unfold Wscr; omega), s4.2.1.fp f5 fun l i z w => by unfold Wlw at z; rcases hc with rfl | rfl <;> omega, z5⟩⟩
        · rw [if_neg (by rw [show (0 : Int64) = Int64.ofNat 0 from rfl, lgn_eq (by omega) (by omega)]; exact q), s1.1.2.1, h5, if_pos (show c < 999999 by omega), e3, kb_s]
        · unfold f_X12_merit
          rw [if_pos kk173, al3, kb_s, isIn_y h3 z0 zl (by rw [n32_toInt (by omega)]; omega), kb_s, if_neg (show ¬ ((1 : Int32) = 0) by decide), fr3, kb_s, if_pos ((n32_free _ (by omega) _ hd.1 _ hs).mpr y), e4, kb_s, if_neg (fun z => q ((m_isAll m4.2.1 ab).mp z)), e5, kb_s]
          unfold mrZ
          rw [mst_keys rc rs rr m4 hs]
    · refine ⟨-1000000000000000, h, h, ?_, ?_, Scr.rf ry rz⟩
      · rw [if_neg (by rw [n32_ne0 (by have : s &&& hdN h ≤ s := Nat.and_le_left; omega)]; exact y)]
      · have fr : f_X12_freeTests h 173 = some (Int32.ofNat (2 ^ kN h 198 4 - 1 - hdN h)) := by
          rw [m_freeTests rc rs.ms]
          have := fb_hb (anN h) (kN h 198 4)
          rw [show fbN (anN h) (kN h 198 4) = 2 ^ kN h 198 4 - 1 - hdN h by unfold hdN; omega]
        unfold f_X12_merit
        rw [if_pos kk173, m_allTests rc, kb_s, isIn_y h z0 zl (by rw [n32_toInt (by omega)]; omega), kb_s, if_neg (show ¬ ((1 : Int32) = 0) by decide), fr, kb_s, if_neg (fun z => y ((n32_free _ (by omega) _ hd.1 _ hs).mp z))]
  · refine ⟨-1000000000000000, h, h, ?_, ?_, Scr.rf ry rz⟩
    · unfold f_X11_merit
      by_cases y : a < 0
      · rw [if_pos y]
      · rw [if_neg y, if_pos kk0, h5, if_pos (show c < 999999 by omega), if_pos (ct_kk hc), c4, n32_shl _ (by omega), if_pos (rng_n (by omega) ha y)]
    · unfold f_X12_merit
      rw [if_pos kk173, m_allTests rc, kb_s, isIn_n h z0 zl (by omega), kb_s, if_pos rfl]
