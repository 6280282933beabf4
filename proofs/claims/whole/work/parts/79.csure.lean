theorem x_sureSet0 {h g : KH} {c : Nat} (rc : RC h c) (fg : kfp Wscr h g) {W P : Nat → Nat} (ws : Wst g W P 72) (a0 : aT W 72 = 0) (hd : Int32) : f_X10_sureSet g 162 c hd = some (-1, g) := by
  obtain ⟨hr, hc, h5, hm, -⟩ := id rc
  have n4 := hm.2.1.1.2
  have p1 := Nat.pow_le_pow_right (n := 2) (by omega) n4
  have p0 : 0 < 2 ^ kN h 198 4 := Nat.pow_pos (by omega)
  have c4 : kI g c 4 = Int32.ofNat (kN h 198 4) := by rw [← n4_sc fg, (rc.sc fg).2.2.2.1.2.1.2, (rc.sc fg).2.2.2.1.2.1.1.1]
  have e : kloop (f_X10_sureSet_l8 162 c hd) KF ((-1 : Int32), (0 : Int32), (0 : Int32), g) = some ((-1 : Int32), g) :=
    kloop_for (body := f_X10_sureSet_l8 162 c hd) (fun _ => ((-1 : Int32), (0 : Int32), (0 : Int32), g)) 0 ((-1 : Int32), g) (by omega) (fun k hk => absurd hk (Nat.not_lt_zero _)) (by
      unfold f_X10_sureSet_l8
      dsimp only
      rw [if_pos (ct_kk hc), c4, n32_shl _ (by omega), if_neg (by rw [show (0 : Int32) = Int32.ofNat 0 from rfl, n32_le (by omega) (by omega)]; omega), if_pos kk162, x_totalW (hr.fp fg) ws, kb_s, if_pos (by rw [a0]; decide)])
  unfold f_X10_sureSet
  rw [e, kb_s]
theorem c_sure {h : KH} {c : Nat} (rc : RC h c) (rs : RS h) (rr : Rrule h c) (ry : Ryt h c) (rz : Rzero h) (a : Int32) : ∃ r h1 h2, f_X11_sure h 0 a = some (r, h1) ∧ f_X12_sure h1 173 a = some (r, h2) ∧ Scr h h2 c := by
  obtain ⟨hr, hc, h5, hm, -⟩ := id rc
  have c39 := hc.lt
  have n4 := hm.2.1.1.2
  have p1 := Nat.pow_le_pow_right (n := 2) (by omega) n4
  have hd := hdN_lt rc
  have wb := WN_le rc
  have ab := aT_b rc
  have z0 : (0 : Int64).toInt = 0 := rfl
  have z1 : (1 : Int64).toInt = 1 := rfl
  rcases n32_arg a (n := 2) (by omega) with ⟨b, hb, rfl⟩ | ha
  · obtain ⟨h1, e1, s1, a1, w1⟩ := x_now rc rs rr ry rz
    have r1 := hr.fp s1.1
    have isx := x_isBit h (Int32.ofNat b)
    rw [if_pos (rgt hb (by omega))] at isx
    by_cases q : aT (WN h) 72 = 0
    · have ss := x_sureSet0 rc s1.1 w1 q (Int32.ofNat (hdN h))
      obtain ⟨h3, e3, s3, f3, y3, m3⟩ := m_now rc rs rr s1
      refine ⟨-1, h1, h3, ?_, ?_, s3⟩
      · unfold f_X11_sure f_X11_sure_b52
        rw [isx, kb_s, if_neg (show ¬ ((1 : Int32) = 0) by decide), if_pos kk0, rf0_11 hr, if_pos (show 162 < 999999 by omega), h5, if_pos (show c < 999999 by omega), rf0_7 hr, if_pos (show 64 < 999999 by omega), if_pos kk162, e1, kb_s, rf0_11 r1, if_pos (show 162 < 999999 by omega), s1.1.2.1, h5, if_pos (show c < 999999 by omega), rf0_7 r1, if_pos (show 64 < 999999 by omega), if_pos kk64, x_hd rc rs s1.1, kb_s, if_pos kk162, ss, kb_s, if_pos rfl]
      · unfold f_X12_sure
        rw [isIn_y _ z0 z1 (by rw [n32_toInt (by omega)]; omega), kb_s, if_neg (show ¬ ((1 : Int32) = 0) by decide), if_pos kk173, e3, kb_s, if_pos ((m_isAll m3.2.1 ab).mpr q)]
    · obtain ⟨h2, e2, f2, z2⟩ := x_sureLoop rc s1.1 wb w1 s1.2.2 q hd.2
      have s2 := s1.x hc f2 z2
      have rc2 := rc.sc s2.1
      obtain ⟨h3, e3, s3, f3, y3, m3⟩ := m_now rc rs rr s2
      obtain ⟨h4, e4, f4, z4⟩ := m_sureLoop rc s3.1 wb m3.1 m3.2.1 s3.2.2 hd.1 (Int32.ofNat b)
      have s4 := s3.m hc f4 z4
      have rc4 := rc.sc s4.1
      have es := suN_cg (r := fun s => rN (WN h) (kX (paN h (tmM h)) s) = aT (WN h) 72) (r' := fun s => rN (WN h) (mK h3 s) = aT (WN h) 72) (hmF h) (hdN h) (2 ^ kN h 198 4) (fun s hs => by rw [mst_keys rc rs rr m3 hs])
      rw [← es] at e4
      obtain ⟨B, hB⟩ : ∃ B, suN (fun s => rN (WN h) (kX (paN h (tmM h)) s) = aT (WN h) 72) (hmF h) (hdN h) (2 ^ kN h 198 4) = B := ⟨_, rfl⟩
      have sb := suN_b (fun s => rN (WN h) (kX (paN h (tmM h)) s) = aT (WN h) 72) (hmF h) (hdN h) (2 ^ kN h 198 4)
      rw [hB] at e2 e4 sb
      have hk : ∀ {g : KH}, kfp Wscr h g → ∀ s, hmN g s (kN g 198 4) = hmF h s := fun F s => by rw [n4_sc F, hmN_cg (h := h) (fun t => kN_same (F.2.2.1 _ _ (by unfold Wscr; omega)))]; rfl
      have mb : ∃ r, (if cI B = (-1 : Int32) then some ((-1 : Int32), h4) else if Int32.ofNat b = 0 then some (cI B, h4) else kb (f_X12_harmOf h4 173 (cI B)) fun r19 => some (r19, h4)) = some (r, h4) ∧
          (if cI B = (-1 : Int32) then some (cI B, h2) else if Int32.ofNat b = 0 then some (cI B, h2) else if kR h2 0 5 < 999999 then if kkind (kR h2 0 5) = 2 then kb (f_X2_harmOf h2 (kR h2 0 5) (cI B)) fun r30 => some (r30, h2) else none else none) = some (r, h2) := by
        by_cases u : B = 64
        · have um := (cI_m (b := B) (by omega)).mpr u
          exact ⟨-1, by rw [if_pos um], by rw [if_pos um, um]⟩
        · have un : ¬ cI B = -1 := fun z => u ((cI_m (by omega)).mp z)
          have B6 : B < 64 := by omega
          by_cases v : Int32.ofNat b = 0
          · exact ⟨cI B, by rw [if_neg un, if_pos v], by rw [if_neg un, if_pos v]⟩
          · refine ⟨Int32.ofNat (hmF h B), ?_, ?_⟩
            · rw [if_neg un, if_neg v, cI_n B6, m_harmOf rc4 (by omega), kb_s, hk s4.1]
            · rw [if_neg un, if_neg v, s2.1.2.1, h5, if_pos (show c < 999999 by omega), if_pos (ct_kk hc), cI_n B6, x_harmOf rc2 (by omega), kb_s, hk s2.1]
      obtain ⟨r, mm, xx⟩ := mb
      refine ⟨r, h2, h4, ?_, ?_, s4⟩
      · unfold f_X11_sure f_X11_sure_b52
        rw [isx, kb_s, if_neg (show ¬ ((1 : Int32) = 0) by decide), if_pos kk0, rf0_11 hr, if_pos (show 162 < 999999 by omega), h5, if_pos (show c < 999999 by omega), rf0_7 hr, if_pos (show 64 < 999999 by omega), if_pos kk162, e1, kb_s, rf0_11 r1, if_pos (show 162 < 999999 by omega), s1.1.2.1, h5, if_pos (show c < 999999 by omega), rf0_7 r1, if_pos (show 64 < 999999 by omega), if_pos kk64, x_hd rc rs s1.1, kb_s, if_pos kk162, e2, kb_s]
        exact xx
      · unfold f_X12_sure
        rw [isIn_y _ z0 z1 (by rw [n32_toInt (by omega)]; omega), kb_s, if_neg (show ¬ ((1 : Int32) = 0) by decide), if_pos kk173, e3, kb_s, if_neg (fun z => q ((m_isAll m3.2.1 ab).mp z)), m_free rc rs s3.1, kb_s, e4, kb_s]
        exact mm
  · refine ⟨-1, h, h, ?_, ?_, Scr.rf ry rz⟩
    · unfold f_X11_sure
      rw [x_isBit, kb_s, if_neg ha, if_pos rfl]
    · unfold f_X12_sure
      rw [isIn_n _ z0 z1 (by omega), kb_s, if_pos rfl]
