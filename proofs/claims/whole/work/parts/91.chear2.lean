theorem c_hear {h : KH} {c : Nat} (rc : RC h c) (rs : RS h) (rk : RK h) (rp : Rpast h) (rr : Rrule h c) (ry : Ryt h c) (rz : Rzero h) (hf : Rref h) (a b d : Int32) : ∃ r h1 h2, f_X11_hear h 0 a b d = some (r, h1) ∧ f_X12_hear h1 173 a b d = some (r, h2) ∧ AftH h h2 c := by
  obtain ⟨hr, hc, h5, hm, -⟩ := id rc
  have c39 := hc.lt
  have n4 := hm.2.1.1.2
  have z0 : (0 : Int64).toInt = 0 := rfl
  have z1 : (1 : Int64).toInt = 1 := rfl
  have refX : ∀ q, kRefs q → f_X11_refuse q 0 (2 : Int32) = some (-1, ksI q 172 2 (kI q 172 2 + 1)) := fun q rq => x_refuse rq (j := 2) (by omega)
  have f172 : ∀ q, kfp (fun l _ => l = 172) q (ksI q 172 2 (kI q 172 2 + 1)) := fun q => kfp.rf.sI _ rfl
  have rcG : ∀ {q}, RC q c → RC (ksI q 172 2 (kI q 172 2 + 1)) c := fun {q} r => r.fp (f172 q) fun l i z y => by unfold Wct at z; omega
  have ryG : ∀ {q}, Ryt q c → Ryt (ksI q 172 2 (kI q 172 2 + 1)) c := fun {q} r => r.fp (f172 q) fun l i z w => by unfold Wlw at z; omega
  have rzG : ∀ {q}, Rzero q → Rzero (ksI q 172 2 (kI q 172 2 + 1)) := fun {q} r => r.fp (f172 q) fun l i z w => by omega
  have mr : ∀ g, kRefs g → f_X12_hear_b36 g 173 = some (0, ksI g 175 2 (kI g 175 2 + 1)) := fun g rg => by
    unfold f_X12_hear_b36
    rw [if_pos kk173, m_isRefused rg, kb_s]
    exact if_pos (Or.inl rfl)
  have early : f_X11_canHear h 0 a b d = some (0, h) → f_X12_hear (ksI h 172 2 (kI h 172 2 + 1)) 173 a b d = f_X12_hear_b36 (ksI h 172 2 (kI h 172 2 + 1)) 173 → ∃ r h1 h2, f_X11_hear h 0 a b d = some (r, h1) ∧ f_X12_hear h1 173 a b d = some (r, h2) ∧ AftH h h2 c := fun e1 e2 => by
    refine ⟨0, ksI h 172 2 (kI h 172 2 + 1), _, ?_, by rw [e2, mr _ (hr.sI _ _ _)], aftH_ref hc hf (Scr.rf ry rz) (Scr.rf (ryG ry) (rzG rz))⟩
    unfold f_X11_hear
    rw [if_pos kk0, e1, kb_s, if_pos rfl, refX h hr, kb_s]
  rcases n32_arg a (n := kN h 198 4) (by omega) with ⟨t, ht, rfl⟩ | ha
  · obtain ⟨a1, a2⟩ := rs.a (t := t) (by omega)
    have al := a1.2
    have nG : kN (ksI h 172 2 (kI h 172 2 + 1)) 198 4 = kN h 198 4 := kN_same (by rw [kI_sI, if_neg (by omega)])
    have cG : kI (ksI h 172 2 (kI h 172 2 + 1)) 207 (2 + 2 * t + 1) = Int32.ofNat (kN h 207 (2 + 2 * t + 1)) := by rw [kI_sI, if_neg (by omega)]; exact a1.1
    have xs : ∀ (A B : Option (Int32 × KH)), (if kI h 66 t = 0 then A else B) = if kN h 207 (2 + 2 * t + 1) = 0 then A else B := fun A B => by
      rw [a2, a1.1]
      exact ifP (n32_ne0 (by omega))
    have ms0 : ∀ (A B : Option (Int32 × KH)), (if Int32.ofNat (kN h 207 (2 + 2 * t + 1)) = 0 then A else B) = if kN h 207 (2 + 2 * t + 1) = 0 then A else B := fun A B => ifP (n32_ne0 (by omega))
    have mG : f_X12_isTest (ksI h 172 2 (kI h 172 2 + 1)) 173 (Int32.ofNat t) = some 1 := m_isTest_y (rcG rc) (by omega)
    have sG : f_X12_stateOf (ksI h 172 2 (kI h 172 2 + 1)) 173 (Int32.ofNat t) = some (Int32.ofNat (kN h 207 (2 + 2 * t + 1))) := by rw [m_stateOf (hr.sI _ _ _) (by omega), cG]
    by_cases y : kN h 207 (2 + 2 * t + 1) = 0
    · rcases n32_arg b (n := 2) (by omega) with ⟨z, hz, rfl⟩ | hb
      · rcases n32_arg d (n := 2) (by omega) with ⟨o, ho, rfl⟩ | hd
        · obtain ⟨g1, e1, s1⟩ := x_canHear rc rs rr ry rz ht hz ho y
          have ab := aT_wb (W := wtN h (tmM h) (upA (anN h) t (1 + z + 2 * o)) (lkM h)) (fun w => wt_le rc _ _ _ w)
          have r1 := hr.fp s1.1
          by_cases q : aT (wtN h (tmM h) (upA (anN h) t (1 + z + 2 * o)) (lkM h)) 72 = 0
          · rw [if_pos q] at e1
            obtain ⟨G, hG⟩ : ∃ G, G = ksI g1 172 2 (kI g1 172 2 + 1) := ⟨_, rfl⟩
            have rcG1 : RC G c := by rw [hG]; exact rcG (rc.sc s1.1)
            have F : kfp (fun l i => Wscr l i ∨ l = 172) h G := by rw [hG]; exact (s1.1.wide fun l i z => Or.inl z).sI _ (Or.inr rfl)
            have e207 : ∀ i, kI G 207 i = kI h 207 i := fun i => F.2.2.1 _ _ (by unfold Wscr; omega)
            have law : Law h G := fun l i a b => F.2.2.1 _ _ (by unfold Wscr; omega)
            have rrG : Rrule G c := by rw [hG]; exact (rr.sc hc s1.1).fp (f172 g1) fun l i z w => by omega
            have n4G : kN G 198 4 = kN h 198 4 := law.n (by omega) (by omega)
            obtain ⟨p, e2, rp', s2, t2⟩ := m_trialHear rcG1 (hearMS e207 law rs.ms) rrG (by rw [hG]; exact ryG s1.2.1) (by rw [hG]; exact rzG s1.2.2) (t := t) (v := 1 + z + 2 * o) (by omega) (by omega) (by rw [e207, a1.1, y]; rfl)
            rw [hearW e207 law] at t2
            have rG := rcG1.1
            have mG1 : f_X12_isTest G 173 (Int32.ofNat t) = some 1 := m_isTest_y rcG1 (by omega)
            have sG1 : f_X12_stateOf G 173 (Int32.ofNat t) = some (Int32.ofNat (kN h 207 (2 + 2 * t + 1))) := by rw [m_stateOf rG (by omega), e207, a1.1]
            have rP : kRefs (ksI p 207 (2 + 2 * t + 1) 0) := rp'.sI _ _ _
            refine ⟨0, G, ksI (ksI p 207 (2 + 2 * t + 1) 0) 175 2 (kI (ksI p 207 (2 + 2 * t + 1) 0) 175 2 + 1), ?_, ?_, aftH_ref hc hf s1 (by rw [← hG]; exact s2)⟩
            · unfold f_X11_hear
              rw [if_pos kk0, e1, kb_s, if_pos rfl, refX g1 r1, kb_s, hG]
            · unfold f_X12_hear
              rw [if_pos kk173, mG1, kb_s, if_neg (show ¬ ((1 : Int32) = 0) by decide), sG1, kb_s, ms0, if_pos y, isIn_y _ z0 z1 (by rw [n32_toInt (by omega)]; omega), kb_s, if_neg (show ¬ ((1 : Int32) = 0) by decide), isIn_y _ z0 z1 (by rw [n32_toInt (by omega)]; omega), kb_s, if_neg (show ¬ ((1 : Int32) = 0) by decide), n32_mulr, n32_addr, n32_addl, kl_e, rf173_45 rG, if_pos (show 207 < 999999 by omega), if_pos kk207, kn207, if_neg (by rw [n32_cl (by omega)]; exact fun z => z.elim (n32_nn (by omega)) (by omega)), n32_cl (show 2 + 2 * t + 1 < 2147483648 by omega), n32_addr, n32_mulr, n32_add, kl_e, e2, kb_s, rf173_45 rp', if_pos (show 207 < 999999 by omega), if_pos kk207, kn207, if_neg (fun z => z.elim (n32_nn (by omega)) (by omega)), kl_e, if_pos ((m_isAll (g := ksI p 207 (2 + 2 * t + 1) 0) t2 ab).mpr q), m_isRefused rP, kb_s]
              exact if_pos (Or.inl rfl)
          · rw [if_neg q] at e1
            obtain ⟨h1, b1, rh1, -, -, -, g3, g4⟩ := act_set (rc.sc s1.1) (rs.sc s1.1) (rk.sc s1.1) (rp.sc s1.1) (l := 66) (i := t) (j := 2 + 2 * t + 1) (v := 1 + z + 2 * o) (Or.inl ⟨rfl, by rw [n4_sc s1.1]; exact ht, rfl, by omega⟩)
            obtain ⟨X, hX⟩ : ∃ X, X = ksI h1 66 t (Int32.ofNat (1 + z + 2 * o)) := ⟨_, rfl⟩
            rw [← hX] at g4
            obtain ⟨-, -, -, -, -, -, -, -, fX⟩ := g4 X kfp.rf
            have rcX : RC X c := (rc.sc s1.1).fp fX fun l i z w => by unfold Wct at z; unfold Wact at w; omega
            have rX := rcX.1
            have e207 : ∀ i, kI X 207 i = kI h 207 i := fun i => by rw [hX, kI_sI, if_neg (by omega), g3]; exact s1.1.2.2.1 _ _ (by unfold Wscr; omega)
            have law : Law h X := fun l i a b => by rw [fX.2.2.1 _ _ (by unfold Wact; omega)]; exact s1.1.2.2.1 _ _ (by unfold Wscr; omega)
            have rrX : Rrule X c := (rr.sc hc s1.1).fp fX fun l i z w => by unfold Wact at w; omega
            have ryX : Ryt X c := s1.2.1.fp fX fun l i z w => by unfold Wlw at z; unfold Wact at w; omega
            have rzX : Rzero X := s1.2.2.fp fX fun l i z w => by unfold Wact at w; omega
            have n4X : kN X 198 4 = kN h 198 4 := law.n (by omega) (by omega)
            obtain ⟨p, e2, rp', s2, t2⟩ := m_trialHear rcX (hearMS e207 law rs.ms) rrX ryX rzX (t := t) (v := 1 + z + 2 * o) (by omega) (by omega) (by rw [e207, a1.1, y]; rfl)
            rw [hearW e207 law] at t2
            have mX : f_X12_isTest X 173 (Int32.ofNat t) = some 1 := m_isTest_y rcX (by omega)
            have sX : f_X12_stateOf X 173 (Int32.ofNat t) = some (Int32.ofNat (kN h 207 (2 + 2 * t + 1))) := by rw [m_stateOf rX (by omega), e207, a1.1]
            obtain ⟨h2, k2, rh2, u1, u2, u3, u4, u5, -⟩ := g4 _ s2.1
            refine ⟨1, X, ksI h2 207 (2 + 2 * t + 1) (Int32.ofNat (1 + z + 2 * o)), ?_, ?_, s2.2.1.fp u5 fun l i z w => by unfold Wlw at z; unfold Wact at w; omega, s2.2.2.fp u5 fun l i z w => by unfold Wact at w; omega, Or.inr ⟨u1, u2, u3, u4, (((s1.1.wide fun l i z => Or.inl z).tr (fX.wide fun l i z => Or.inr z)).tr (s2.1.wide fun l i z => Or.inl z)).tr (u5.wide fun l i z => Or.inr z)⟩⟩
            · unfold f_X11_hear
              rw [if_pos kk0, e1, kb_s, if_neg (show ¬ ((1 : Int32) = 0) by decide), b1, kb_s, rf0_7 rh1, if_pos (show 64 < 999999 by omega), if_pos kk64, rf64_4 rh1, if_pos (show 66 < 999999 by omega), if_pos kk66, kn66, if_neg (by rw [n32_cl (by omega)]; exact fun z => z.elim (n32_nn (by omega)) (by omega)), n32_cl (show t < 2147483648 by omega), n32_addr, n32_mulr, n32_add, ← hX, kl_e]
            · unfold f_X12_hear
              rw [if_pos kk173, mX, kb_s, if_neg (show ¬ ((1 : Int32) = 0) by decide), sX, kb_s, ms0, if_pos y, isIn_y _ z0 z1 (by rw [n32_toInt (by omega)]; omega), kb_s, if_neg (show ¬ ((1 : Int32) = 0) by decide), isIn_y _ z0 z1 (by rw [n32_toInt (by omega)]; omega), kb_s, if_neg (show ¬ ((1 : Int32) = 0) by decide), n32_mulr, n32_addr, n32_addl, kl_e, rf173_45 rX, if_pos (show 207 < 999999 by omega), if_pos kk207, kn207, if_neg (by rw [n32_cl (by omega)]; exact fun z => z.elim (n32_nn (by omega)) (by omega)), n32_cl (show 2 + 2 * t + 1 < 2147483648 by omega), n32_addr, n32_mulr, n32_add, kl_e, e2, kb_s, rf173_45 rp', if_pos (show 207 < 999999 by omega), if_pos kk207, kn207, if_neg (fun z => z.elim (n32_nn (by omega)) (by omega)), kl_e, if_neg (fun w => q ((m_isAll (g := ksI p 207 (2 + 2 * t + 1) 0) t2 ab).mp w)), k2, kb_s, rf173_45 rh2, if_pos (show 207 < 999999 by omega), if_pos kk207, kn207, if_neg (fun z => z.elim (n32_nn (by omega)) (by omega)), kl_e]
        · refine early ?_ ?_
          · unfold f_X11_canHear
            rw [if_pos kk0, x_isTest_y rc ht, kb_s, if_neg (show ¬ ((1 : Int32) = 0) by decide), x_isBit, kb_s, if_pos (rgt hz (by omega)), if_neg (show ¬ ((1 : Int32) = 0) by decide), x_isBit, kb_s, if_neg hd, if_pos rfl]
          · unfold f_X12_hear
            rw [if_pos kk173, mG, kb_s, if_neg (show ¬ ((1 : Int32) = 0) by decide), sG, kb_s, ms0, if_pos y, isIn_y _ z0 z1 (by rw [n32_toInt (by omega)]; omega), kb_s, if_neg (show ¬ ((1 : Int32) = 0) by decide), isIn_n _ z0 z1 (by omega), kb_s, if_pos rfl]
      · refine early ?_ ?_
        · unfold f_X11_canHear
          rw [if_pos kk0, x_isTest_y rc ht, kb_s, if_neg (show ¬ ((1 : Int32) = 0) by decide), x_isBit, kb_s, if_neg hb, if_pos rfl]
        · unfold f_X12_hear
          rw [if_pos kk173, mG, kb_s, if_neg (show ¬ ((1 : Int32) = 0) by decide), sG, kb_s, ms0, if_pos y, isIn_n _ z0 z1 (by omega), kb_s, if_pos rfl]
    · refine early ?_ ?_
      · unfold f_X11_canHear
        rw [if_pos kk0, x_isTest_y rc ht, kb_s, if_neg (show ¬ ((1 : Int32) = 0) by decide), x_isBit, kb_s]
        by_cases u : 0 ≤ b.toInt ∧ b.toInt < (2 : Nat)
        · rw [if_pos u, if_neg (show ¬ ((1 : Int32) = 0) by decide), x_isBit, kb_s]
          by_cases w : 0 ≤ d.toInt ∧ d.toInt < (2 : Nat)
          · rw [if_pos w, if_neg (show ¬ ((1 : Int32) = 0) by decide), rf0_7 hr, if_pos (show 64 < 999999 by omega), if_pos kk64, rf64_4 hr, if_pos (show 66 < 999999 by omega), if_pos kk66, kn66, if_neg (by rw [n32_cl (by omega)]; exact fun z => z.elim (n32_nn (by omega)) (by omega)), n32_cl (show t < 2147483648 by omega), xs, if_neg y]
          · rw [if_neg w, if_pos rfl]
        · rw [if_neg u, if_pos rfl]
      · unfold f_X12_hear
        rw [if_pos kk173, mG, kb_s, if_neg (show ¬ ((1 : Int32) = 0) by decide), sG, kb_s, ms0, if_neg y]
  · refine early ?_ ?_
    · unfold f_X11_canHear
      rw [if_pos kk0, x_isTest_n rc ha, kb_s, if_pos rfl]
    · have nG : kN (ksI h 172 2 (kI h 172 2 + 1)) 198 4 = kN h 198 4 := kN_same (by rw [kI_sI, if_neg (by omega)])
      unfold f_X12_hear
      rw [if_pos kk173, m_isTest_n (rcG rc) (by rw [nG]; exact ha), kb_s, if_pos rfl]
