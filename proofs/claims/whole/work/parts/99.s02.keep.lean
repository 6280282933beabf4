/-! what each call keeps of the relation -/
theorem c_yieldsZ {h : KH} {c : Nat} (rc : RC h c) (rs : RS h) (rr : Rrule h c) (ry : Ryt h c) (rz : Rzero h) (a b d : Int32) : ∃ r h1 h2, f_X11_yields h 0 a b d = some (r, h1) ∧ f_X12_yields h1 173 a b d = some (r, h2) ∧ Scr h h2 c := by
  obtain ⟨hr, hc, h5, hm, -⟩ := id rc
  have c39 := hc.lt
  have n3 := hm.1.1.2
  have n4 := hm.2.1.1.2
  have z0 : (0 : Int64).toInt = 0 := rfl
  have z1 : (1 : Int64).toInt = 1 := rfl
  unfold f_X11_yields
  rw [if_pos kk0]
  rcases n32_arg a (n := kN h 198 3) (by omega) with ⟨k, hk, rfl⟩ | ha
  · rw [x_isKind_y rc hk, kb_s, if_neg (show ¬ ((1 : Int32) = 0) by decide)]
    rcases n32_arg b (n := kN h 198 4) (by omega) with ⟨t, ht, rfl⟩ | hb
    · rw [x_isTest_y rc ht, kb_s, if_neg (show ¬ ((1 : Int32) = 0) by decide), x_isBit, kb_s]
      rcases n32_arg d (n := 2) (by omega) with ⟨tr, htr, rfl⟩ | hd
      · obtain ⟨⟨t1, t2⟩, t3⟩ := rs.t (t := t) (by omega)
        obtain ⟨h1, e1, f1, y1⟩ := x_yieldBits rc rr ry ht t2
        have f1' : kfp Wscr h h1 := f1.wide fun l i z => Wyb.sc hc z
        have rc1 := rc.sc f1'
        have m3 : kN h1 198 3 = kN h 198 3 := kN_same (f1'.2.2.1 _ _ (by unfold Wscr; omega))
        have m4 : kN h1 198 4 = kN h 198 4 := kN_same (f1'.2.2.1 _ _ (by unfold Wscr; omega))
        obtain ⟨h2, e2, f2⟩ := m_yieldsAt rc1 (rr.sc hc f1') (k := k) (t := t) (tr := tr) (x := kN h 207 (2 + 2 * t)) (by omega) (by omega) htr t2
        have bl := bits_lt rc rr ht t2
        have bb := bits_bit rc rr hk ht htr t2
        refine ⟨Int32.ofNat (ybN h k t tr (kN h 207 (2 + 2 * t))), h1, h2, ?_, ?_, f1'.tr (f2.wide fun l i z => Wy.sc z), y1.fp f2 (fun l i z w => by unfold Wlw at z; unfold Wy at w; rcases hc with rfl | rfl <;> omega), (rz.fp f1 fun l i z w => by unfold Wyb at w; rcases hc with rfl | rfl <;> omega).fp f2 fun l i z w => by unfold Wy at w; omega⟩
        · rw [if_pos (rgt htr (by omega)), if_neg (show ¬ ((1 : Int32) = 0) by decide), h5, if_pos (show c < 999999 by omega), rf0_7 hr, if_pos (show 64 < 999999 by omega), if_pos kk64, rf64_3 hr, if_pos (show 65 < 999999 by omega), if_pos kk65, kn65, if_neg (by rw [n32_cl (by omega)]; exact fun z => z.elim (n32_nn (by omega)) (by omega)), n32_cl (by omega), if_pos (ct_kk hc), t3, t1, e1, kb_s]
          dsimp only
          rw [n32_mull, n32_add, n32_bit (by omega) (by omega), show k * 2 + tr = 2 * k + tr by omega, bb]
        · have r1 := hr.fp f1
          unfold f_X12_yields
          rw [if_pos kk173, m_isKind_y rc1 (by omega), kb_s, if_neg (show ¬ ((1 : Int32) = 0) by decide), m_isTest_y rc1 (by omega), kb_s, if_neg (show ¬ ((1 : Int32) = 0) by decide), isIn_y _ z0 z1 (by rw [n32_toInt (by omega)]; omega), kb_s, if_neg (show ¬ ((1 : Int32) = 0) by decide), m_heardOf r1 (by omega), kb_s, f1'.2.2.1 207 _ (by unfold Wscr; omega), t1, e2, kb_s, ybN_sc f1']
      · refine ⟨-1, h, h, by rw [if_neg hd, if_pos rfl], ?_, kfp.rf, ry, rz⟩
        unfold f_X12_yields
        rw [if_pos kk173, m_isKind_y rc hk, kb_s, if_neg (show ¬ ((1 : Int32) = 0) by decide), m_isTest_y rc ht, kb_s, if_neg (show ¬ ((1 : Int32) = 0) by decide), isIn_n _ z0 z1 (by omega), kb_s, if_pos rfl]
    · refine ⟨-1, h, h, by rw [x_isTest_n rc hb, kb_s, if_pos rfl], ?_, kfp.rf, ry, rz⟩
      unfold f_X12_yields
      rw [if_pos kk173, m_isKind_y rc hk, kb_s, if_neg (show ¬ ((1 : Int32) = 0) by decide), m_isTest_n rc hb, kb_s, if_pos rfl]
  · refine ⟨-1, h, h, by rw [x_isKind_n rc ha, kb_s, if_pos rfl], ?_, kfp.rf, ry, rz⟩
    unfold f_X12_yields
    rw [if_pos kk173, m_isKind_n rc ha, kb_s, if_pos rfl]
def Wsta (c l i : Nat) : Prop := Wct c l i ∨ (l = c ∧ i = 8) ∨ (c + 2 ≤ l ∧ l ≤ c + 20) ∨ (l = c + 21 ∧ i = 2) ∨ l = c + 22 ∨ Wup l i ∨ (l = 199 ∧ 18 ≤ i) ∨ l = 9 ∨ (176 ≤ l ∧ l ≤ 197) ∨ (218 ≤ l ∧ l ≤ 238)
/-- the court that stands, its names and its rule, the words -/
theorem RP.sta {W : Nat → Nat → Prop} {h h' : KH} {c : Nat} (rp : RP c h) (f : kfp W h h') (hd : ∀ l i, Wsta c l i → ¬ W l i) : RC h' c ∧ Rnames h' c ∧ Rrule h' c ∧ Rwords h' := by
  obtain ⟨rc, rn, rr, -, -, -, -, -, -, -, rwd, -⟩ := rp
  have b1 : ∀ l i, (l = 198 ∧ 3 ≤ i) ∨ (l = 199 ∧ 18 ≤ i) ∨ (c + 2 ≤ l ∧ l ≤ c + 20) → Wsta c l i := fun l i z => by
    rcases z with z | z | z
    · exact Or.inr (Or.inr (Or.inr (Or.inr (Or.inr (Or.inl (Or.inl z))))))
    · exact Or.inr (Or.inr (Or.inr (Or.inr (Or.inr (Or.inr (Or.inl z))))))
    · exact Or.inr (Or.inr (Or.inl z))
  have b2 : ∀ l i, (l = c ∧ i = 8) ∨ (l = c + 21 ∧ i = 2) ∨ l = c + 22 ∨ (l = 204 ∧ i = 1) ∨ (l = 205 ∧ i = 1) ∨ (l = 206 ∧ 1600 ≤ i) → Wsta c l i := fun l i z => by
    rcases z with z | z | z | z | z | z
    · exact Or.inr (Or.inl z)
    · exact Or.inr (Or.inr (Or.inr (Or.inl z)))
    · exact Or.inr (Or.inr (Or.inr (Or.inr (Or.inl z))))
    · exact Or.inr (Or.inr (Or.inr (Or.inr (Or.inr (Or.inl (Or.inr (Or.inr (Or.inr (Or.inr (Or.inr (Or.inl z)))))))))))
    · exact Or.inr (Or.inr (Or.inr (Or.inr (Or.inr (Or.inl (Or.inr (Or.inr (Or.inr (Or.inr (Or.inr (Or.inr (Or.inl z))))))))))))
    · exact Or.inr (Or.inr (Or.inr (Or.inr (Or.inr (Or.inl (Or.inr (Or.inr (Or.inr (Or.inr (Or.inr (Or.inr (Or.inr (z)))))))))))))
  have b3 : ∀ l i, l = 9 ∨ (176 ≤ l ∧ l ≤ 197) ∨ (218 ≤ l ∧ l ≤ 238) → Wsta c l i := fun l i z => by
    rcases z with z | z | z
    · exact Or.inr (Or.inr (Or.inr (Or.inr (Or.inr (Or.inr (Or.inr (Or.inl z)))))))
    · exact Or.inr (Or.inr (Or.inr (Or.inr (Or.inr (Or.inr (Or.inr (Or.inr (Or.inl z))))))))
    · exact Or.inr (Or.inr (Or.inr (Or.inr (Or.inr (Or.inr (Or.inr (Or.inr (Or.inr (z)))))))))
  exact ⟨rc.fp f fun l i z => hd l i (Or.inl z), rn.fp f rc.2.2.2.1 fun l i z => hd l i (b1 l i z), rr.fp f fun l i z => hd l i (b2 l i z), rwd.fp f fun l i z => hd l i (b3 l i z)⟩
theorem Wsta.e {c l i : Nat} (hc : ctc c) (z : Wsta c l i) : (c ≤ l ∧ l ≤ c + 22 ∧ (l ≠ c + 21 ∨ i = 2)) ∨ (198 ≤ l ∧ l ≤ 206) ∨ l = 9 ∨ (176 ≤ l ∧ l ≤ 197) ∨ (218 ≤ l ∧ l ≤ 238) := by
  unfold Wsta Wct Wup at z
  omega
theorem RP.scr {h h' : KH} {c : Nat} (rp : RP c h) (s : Scr h h' c) : RP c h' := by
  obtain ⟨f, ry', rz'⟩ := s
  have hc := rp.1.2.1
  obtain ⟨a1, a2, a3, a4⟩ := rp.sta f fun l i z w => by
    have e := Wsta.e hc z
    unfold Wscr at w
    unfold ctc at hc
    omega
  obtain ⟨rc, rn, rr, ry, rs, rk, rpa, rcm, rz, ra, rwd, rt, rre, rsd, rfa, rim⟩ := rp
  refine ⟨a1, a2, a3, ry', rs.fp f fun l i z w => ?_, rk.fp f fun l i z w => ?_, rpa.fp f fun l i z w => ?_, rcm.sc f, rz', ra.fp f fun l i z w => ?_, a4, rt.fp f fun l i z w => ?_, rre.fp f fun l i z w => ?_, rsd.fp f fun l i z w => ?_, rfa.fp f fun l i z w => ?_, rim.fp f fun l i z w => ?_⟩
  all_goals unfold Wscr at w
  · omega
  · omega
  · omega
  · omega
  · unfold Wtape at z; omega
  · unfold Wref at z; omega
  · unfold Wseed at z; omega
  · omega
  · omega
/-- tape, counts of refusals, the latest image, the seed, the rows ANSWERED may change -/
def Wlit (l i : Nat) : Prop := Wtape l i ∨ Wref l i ∨ Wseed l i ∨ (l = 0 ∧ (i = 13 ∨ i = 16)) ∨ (l = 173 ∧ (i = 58 ∨ i = 96)) ∨ (170 ≤ l ∧ l ≤ 171) ∨ l = 216 ∨ l = 242
theorem RP.lit {W : Nat → Nat → Prop} {h h' : KH} {c : Nat} (rp : RP c h) (f : kfp W h h') (hw : ∀ l i, W l i → Wlit l i) : RC h' c ∧ Rnames h' c ∧ Rrule h' c ∧ Ryt h' c ∧ RS h' ∧ RK h' ∧ Rpast h' ∧ Rcoming h' ∧ Rzero h' ∧ Rwords h' ∧ Rfault h' := by
  have hc := rp.1.2.1
  have F : kfp Wlit h h' := f.wide hw
  obtain ⟨a1, a2, a3, a4⟩ := rp.sta F fun l i z w => by
    have e := Wsta.e hc z
    unfold Wlit Wtape Wref Wseed at w
    unfold ctc at hc
    omega
  obtain ⟨rc, rn, rr, ry, rs, rk, rpa, rcm, rz, ra, rwd, rt, rre, rsd, rfa, rim⟩ := rp
  refine ⟨a1, a2, a3, ry.fp F fun l i z w => ?_, rs.fp F fun l i z w => ?_, rk.fp F fun l i z w => ?_, rpa.fp F fun l i z w => ?_, rcm.fp F fun l i z w => ?_, rz.fp F fun l i z w => ?_, a4, rfa.fp F fun l i z w => ?_⟩
  all_goals unfold Wlit Wtape Wref Wseed at w
  · unfold Wlw at z; unfold ctc at hc; omega
  · omega
  · omega
  · omega
  · omega
  · omega
  · omega
theorem RP.tape {h h' : KH} {c : Nat} (rp : RP c h) (t : Rtape h') (r : Rref h') (f : kfp (fun l i => Wtape l i ∨ Wref l i) h h') : RP c h' := by
  obtain ⟨a1, a2, a3, a4, a5, a6, a7, a8, a9, a10, a11⟩ := rp.lit f fun l i z => by unfold Wlit; exact z.elim Or.inl fun z => Or.inr (Or.inl z)
  obtain ⟨rc, rn, rr, ry, rs, rk, rpa, rcm, rz, ra, rwd, rt, rre, rsd, rfa, rim⟩ := rp
  refine ⟨a1, a2, a3, a4, a5, a6, a7, a8, a9, ra.fp f fun l i z w => ?_, a10, t, r, rsd.fp f fun l i z w => ?_, a11, rim.fp f fun l i z w => ?_⟩
  all_goals unfold Wtape Wref at w
  · omega
  · unfold Wseed at z; omega
  · omega
theorem RP.seed {h h' : KH} {c : Nat} (rp : RP c h) (r : Rref h') (s : Rseed h') (f : kfp (fun l i => Wref l i ∨ Wseed l i) h h') : RP c h' := by
  obtain ⟨a1, a2, a3, a4, a5, a6, a7, a8, a9, a10, a11⟩ := rp.lit f fun l i z => by unfold Wlit; exact Or.inr (z.elim Or.inl fun z => Or.inr (Or.inl z))
  obtain ⟨rc, rn, rr, ry, rs, rk, rpa, rcm, rz, ra, rwd, rt, rre, rsd, rfa, rim⟩ := rp
  refine ⟨a1, a2, a3, a4, a5, a6, a7, a8, a9, ra.fp f fun l i z w => ?_, a10, rt.fp f fun l i z w => ?_, r, s, a11, rim.fp f fun l i z w => ?_⟩
  all_goals unfold Wseed Wref at w
  · omega
  · unfold Wtape at z; omega
  · omega
theorem RP.tell {h h' : KH} {c : Nat} (rp : RP c h) (t : Rtape h') (r : Rref h') (a : Rans h') (f : kfp (fun l i => Wtl l i ∨ Wref l i ∨ Wans l i) h h') : RP c h' := by
  obtain ⟨a1, a2, a3, a4, a5, a6, a7, a8, a9, a10, a11⟩ := rp.lit f fun l i z => by unfold Wtl Wref Wans at z; unfold Wlit Wtape Wref Wseed; rcases z with (z | z) | (z | z) | z | z | z | z <;> omega
  obtain ⟨rc, rn, rr, ry, rs, rk, rpa, rcm, rz, ra, rwd, rt, rre, rsd, rfa, rim⟩ := rp
  refine ⟨a1, a2, a3, a4, a5, a6, a7, a8, a9, a, a10, t, r, rsd.fp f fun l i z w => ?_, a11, rim.fp f fun l i z w => ?_⟩
  all_goals unfold Wtl Wref Wans at w
  · unfold Wseed at z; omega
  · omega
theorem RP.img {h h' : KH} {c : Nat} (rp : RP c h) (g : Rimg h') (f : kfp (fun l i => l = 171 ∨ (l = 0 ∧ i = 16) ∨ l = 242 ∨ (l = 173 ∧ i = 96)) h h') : RP c h' := by
  obtain ⟨a1, a2, a3, a4, a5, a6, a7, a8, a9, a10, a11⟩ := rp.lit f fun l i z => by unfold Wlit Wtape Wref Wseed; rcases z with z | z | z | z <;> omega
  obtain ⟨rc, rn, rr, ry, rs, rk, rpa, rcm, rz, ra, rwd, rt, rre, rsd, rfa, rim⟩ := rp
  refine ⟨a1, a2, a3, a4, a5, a6, a7, a8, a9, ra.fp f fun l i z w => ?_, a10, rt.fp f fun l i z w => ?_, rre.fp f fun l i z w => ?_, rsd.fp f fun l i z w => ?_, a11, g⟩
  · omega
  · unfold Wtape at z; omega
  · unfold Wref at z; omega
  · unfold Wseed at z; omega
/-- an act: the state, the acts behind, what was worked out ahead -/
def Wdo (l i : Nat) : Prop := Wscr l i ∨ Wact l i ∨ Wseed l i ∨ Wtl l i
theorem RP.act {W : Nat → Nat → Prop} {h h' : KH} {c : Nat} (rp : RP c h) (f : kfp W h h') (hw : ∀ l i, W l i → Wdo l i) (ry' : Ryt h' c) (rs' : RS h') (rk' : RK h') (rp' : Rpast h') (rcm' : Rcoming h') (rz' : Rzero h') (rt' : Rtape h') (rd' : Rseed h') : RP c h' := by
  have hc := rp.1.2.1
  have F : kfp Wdo h h' := f.wide hw
  obtain ⟨a1, a2, a3, a4⟩ := rp.sta F fun l i z w => by
    have e := Wsta.e hc z
    unfold Wdo Wscr Wact Wseed Wtl at w
    unfold ctc at hc
    omega
  obtain ⟨rc, rn, rr, ry, rs, rk, rpa, rcm, rz, ra, rwd, rt, rre, rsd, rfa, rim⟩ := rp
  refine ⟨a1, a2, a3, ry', rs', rk', rp', rcm', rz', ra.fp F fun l i z w => ?_, a4, rt', rre.fp F fun l i z w => ?_, rd', rfa.fp F fun l i z w => ?_, rim.fp F fun l i z w => ?_⟩
  all_goals unfold Wdo Wscr Wact Wseed Wtl at w
  · omega
  · unfold Wref at z; omega
  · omega
  · omega
theorem RP.aft {h h' : KH} {c : Nat} (rp : RP c h) (a : Aft h h') : RP c h' := by
  have hc := rp.1.2.1
  rcases a with ⟨f, r⟩ | ⟨b1, b2, b3, b4, f⟩
  · exact rp.tape (rp.2.2.2.2.2.2.2.2.2.2.2.1.fp f fun l i z w => by unfold Wtape at z; unfold Wref at w; omega) r (f.wide fun l i z => Or.inr z)
  · refine rp.act f (fun l i z => Or.inr (Or.inl z)) ?_ b1 b2 b3 (Rcoming.zero b4) ?_ ?_ ?_
    · exact rp.2.2.2.1.fp f fun l i z w => by unfold Wlw at z; unfold Wact at w; unfold ctc at hc; omega
    · exact rp.2.2.2.2.2.2.2.2.1.fp f fun l i z w => by unfold Wact at w; omega
    · exact rp.2.2.2.2.2.2.2.2.2.2.2.1.fp f fun l i z w => by unfold Wtape at z; unfold Wact at w; omega
    · exact rp.2.2.2.2.2.2.2.2.2.2.2.2.2.1.fp f fun l i z w => by unfold Wseed at z; unfold Wact at w; omega
theorem RP.aftW {h h' : KH} {c : Nat} (rp : RP c h) (t : Rtape h') (a : AftW Wtl h h') : RP c h' := by
  have hc := rp.1.2.1
  rcases a with ⟨f, r⟩ | ⟨b1, b2, b3, b4, f⟩
  · exact rp.tape t r (f.wide fun l i z => z.elim Or.inr fun z => Or.inl (by unfold Wtl at z; unfold Wtape; omega))
  · refine rp.act f (fun l i z => z.elim (fun z => Or.inr (Or.inl z)) fun z => Or.inr (Or.inr (Or.inr z))) ?_ b1 b2 b3 (Rcoming.zero b4) ?_ t ?_
    · exact rp.2.2.2.1.fp f fun l i z w => by unfold Wlw at z; unfold Wact Wtl at w; unfold ctc at hc; omega
    · exact rp.2.2.2.2.2.2.2.2.1.fp f fun l i z w => by unfold Wact Wtl at w; omega
    · exact rp.2.2.2.2.2.2.2.2.2.2.2.2.2.1.fp f fun l i z w => by unfold Wseed at z; unfold Wact Wtl at w; omega
/-- refused behind scratch work -/
theorem RP.scref {h h' : KH} {c : Nat} (rp : RP c h) (f : kfp (fun l i => Wscr l i ∨ Wref l i) h h') (r : Rref h') (ry' : Ryt h' c) (rz' : Rzero h') : RP c h' := by
  have hc := rp.1.2.1
  obtain ⟨a1, a2, a3, a4⟩ := rp.sta f fun l i z w => by
    have e := Wsta.e hc z
    unfold Wscr Wref at w
    unfold ctc at hc
    omega
  obtain ⟨rc, rn, rr, ry, rs, rk, rpa, rcm, rz, ra, rwd, rt, rre, rsd, rfa, rim⟩ := rp
  refine ⟨a1, a2, a3, ry', rs.fp f fun l i z w => ?_, rk.fp f fun l i z w => ?_, rpa.fp f fun l i z w => ?_, rcm.fp f fun l i z w => ?_, rz', ra.fp f fun l i z w => ?_, a4, rt.fp f fun l i z w => ?_, r, rsd.fp f fun l i z w => ?_, rfa.fp f fun l i z w => ?_, rim.fp f fun l i z w => ?_⟩
  all_goals unfold Wscr Wref at w
  · omega
  · omega
  · omega
  · omega
  · omega
  · unfold Wtape at z; omega
  · unfold Wseed at z; omega
  · omega
  · omega
theorem RP.aftH {h h' : KH} {c : Nat} (rp : RP c h) (a : AftH h h' c) : RP c h' := by
  obtain ⟨ry', rz', a⟩ := a
  rcases a with ⟨f, r⟩ | ⟨b1, b2, b3, b4, f⟩
  · exact rp.scref f r ry' rz'
  · refine rp.act f (fun l i z => z.elim Or.inl fun z => Or.inr (Or.inl z)) ry' b1 b2 b3 (Rcoming.zero b4) rz' ?_ ?_
    · exact rp.2.2.2.2.2.2.2.2.2.2.2.1.fp f fun l i z w => by unfold Wtape at z; unfold Wscr Wact at w; omega
    · exact rp.2.2.2.2.2.2.2.2.2.2.2.2.2.1.fp f fun l i z w => by unfold Wseed at z; unfold Wscr Wact at w; omega
theorem RP.aftC {h h' : KH} {c : Nat} (rp : RP c h) (a : AftC h h' c) : RP c h' := by
  obtain ⟨ry', rz', rd', a⟩ := a
  rcases a with ⟨f, r⟩ | ⟨b1, b2, b3, b4, f⟩
  · exact rp.scref f r ry' rz'
  · refine rp.act f (fun l i z => z.elim Or.inl fun z => Or.inr (z.elim Or.inl fun z => Or.inr (Or.inl z))) ry' b1 b2 b3 (Rcoming.zero b4) rz' ?_ rd'
    exact rp.2.2.2.2.2.2.2.2.2.2.2.1.fp f fun l i z w => by unfold Wtape at z; unfold Wscr Wact Wseed at w; omega
theorem RP.aftA {h h' : KH} {c : Nat} (rp : RP c h) (a : AftA h h' c) : RP c h' := by
  obtain ⟨f, ry', rz', rcm'⟩ := a
  have hc := rp.1.2.1
  obtain ⟨a1, a2, a3, a4⟩ := rp.sta f fun l i z w => by
    have e := Wsta.e hc z
    unfold Wah Wscr at w
    unfold ctc at hc
    omega
  obtain ⟨rc, rn, rr, ry, rs, rk, rpa, rcm, rz, ra, rwd, rt, rre, rsd, rfa, rim⟩ := rp
  refine ⟨a1, a2, a3, ry', rs.fp f fun l i z w => ?_, rk.fp f fun l i z w => ?_, rpa.fp f fun l i z w => ?_, rcm', rz', ra.fp f fun l i z w => ?_, a4, rt.fp f fun l i z w => ?_, rre.fp f fun l i z w => ?_, rsd.fp f fun l i z w => ?_, rfa.fp f fun l i z w => ?_, rim.fp f fun l i z w => ?_⟩
  all_goals unfold Wah Wscr at w
  · omega
  · omega
  · omega
  · omega
  · unfold Wtape at z; omega
  · unfold Wref at z; omega
  · unfold Wseed at z; omega
  · omega
  · omega
def Wq9 (l i : Nat) : Prop := (1 ≤ l ∧ l ≤ 8 ∧ (l ≠ 1 ∨ i = 1)) ∨ (l = 10 ∧ i = 2) ∨ (35 ≤ l ∧ l ≤ 37) ∨ (61 ≤ l ∧ l ≤ 63) ∨ (68 ≤ l ∧ l ≤ 71) ∨ (l = 162 ∧ i = 3) ∨ (163 ≤ l ∧ l ≤ 169) ∨ (l = 173 ∧ ((1 ≤ i ∧ i ≤ 8) ∨ (44 ≤ i ∧ i ≤ 56) ∨ (86 ≤ i ∧ i ≤ 94))) ∨ (208 ≤ l ∧ l ≤ 215) ∨ (239 ≤ l ∧ l ≤ 241)
theorem Wscr.q9 {l i : Nat} (z : Wscr l i) : Wq9 l i := by
  unfold Wscr at z
  unfold Wq9
  rcases z with z | z | z | z | z | z | z | z | z | z | z | z <;> omega
theorem Wq2.q9 {l i : Nat} (z : Wq2 l i) : Wq9 l i := by
  unfold Wq2 Wmp at z
  unfold Wq9
  rcases z with z | z | z | z <;> omega
theorem Wask.q9 {l i : Nat} (z : Wask l i) : Wq9 l i := by
  rcases z with (z | z | z | z) | (z | z | z) | z | z | (z | z) | (z | z) | z
  · exact z.q9
  · unfold Wq9; omega
  · unfold Wq9; omega
  · unfold Wq9; omega
  · unfold Wq9; omega
  · unfold Wq9; omega
  · unfold Wq9; omega
  · unfold Wq9; omega
  · unfold Wq9; omega
  · exact z.q9
  · unfold Wq9; omega
  · exact z.q9
  · unfold Wtk at z; unfold Wq9; omega
  · unfold Wq9; omega
theorem RP.aftQ {h h' : KH} {c : Nat} (rp : RP c h) (a : AftQ h h' c) : RP c h' := by
  obtain ⟨f, rt', rf', ry', rz'⟩ := a
  obtain ⟨rc, rn, rr, ry, rs, rk, rpa, rcm, rz, ra, rwd, rt, rre, rsd, rfa, rim⟩ := rp
  have hc := rc.2.1
  have r0 := rc.1.r10 (v := 4) (Or.inl rfl)
  have rc0 := rc.r10 r0
  have rn0 : Rnames (ksR h 10 1 4) c := rn
  have rr0 : Rrule (ksR h 10 1 4) c := rr
  have rs0 : RS (ksR h 10 1 4) := rs
  have rk0 : RK (ksR h 10 1 4) := rk
  have rp0 : Rpast (ksR h 10 1 4) := rpa
  have ra0 : Rans (ksR h 10 1 4) := ra
  have rw0 : Rwords (ksR h 10 1 4) := rwd
  have rre0 : Rref (ksR h 10 1 4) := rre
  have rd0 : Rseed (ksR h 10 1 4) := rsd
  have ri0 : Rimg (ksR h 10 1 4) := rim
  have E : ∀ l i, Wask l i → Wq9 l i := fun l i z => Wask.q9 z
  have F := f.wide E
  have law : LawU h h' := fun l i z => F.2.2.1 _ _ (by unfold Wup at z; unfold Wq9; omega)
  refine ⟨rc0.fp F fun l i z w => ?_, rn0.fp F rc0.2.2.2.1 fun l i z w => ?_, rr0.fp F fun l i z w => ?_, ry', rs0.fp F fun l i z w => ?_, rk0.fp F fun l i z w => ?_, rp0.fp F fun l i z w => ?_, rcm.up law fun l i z => F.2.2.1 _ _ fun w => ?_, rz', ra0.fp F fun l i z w => ?_, rw0.fp F fun l i z w => ?_, rt', rre0.fp F fun l i z w => ?_, rd0.fp F fun l i z w => ?_, rf', ri0.fp F fun l i z w => ?_⟩
  all_goals unfold ctc at hc
  all_goals unfold Wq9 at w
  · unfold Wct at z; omega
  · omega
  · omega
  · omega
  · omega
  · omega
  · omega
  · omega
  · omega
  · unfold Wref at z; omega
  · unfold Wseed at z; omega
  · omega
