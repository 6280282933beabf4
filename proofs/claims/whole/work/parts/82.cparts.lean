theorem m_isAlike {h g : KH} {c : Nat} (rc : RC h c) (rs : RS h) (rr : Rrule h c) (rg : kRefs g) (ms : Mst h g (WN h) 72) {w t : Nat} (hw : w < 36) (zw : WN h w ≠ 0) (ht : t < kN h 198 4) :
    ∃ r, f_X12_isAlike g 173 (Int32.ofNat w) (Int32.ofNat t) = some r ∧ ((r = 1 ∧ alk (WN h) (kX (paN h (tmM h)) (2 ^ t)) w) ∨ (r = 0 ∧ ¬ alk (WN h) (kX (paN h (tmM h)) (2 ^ t)) w)) := by
  have n4 := rc.2.2.2.1.2.1.1.2
  have tl : ∀ t, t < 6 → tmM h t ≤ 99 := fun t ht => (rs.t ht).1.2
  have tp : 2 ^ t < 2 ^ kN h 198 4 := Nat.pow_lt_pow_right (by omega) ht
  have p6 := pow6 _ n4
  have ab := WN_le rc
  have eq : ∀ v, WN h v ≠ 0 → (((maN h v (kN h 198 4) ^^^ maN h w (kN h 198 4)) >>> (2 * t)) &&& 3 = 0 ↔ kX (paN h (tmM h)) (2 ^ t) v = kX (paN h (tmM h)) (2 ^ t) w) := fun v hv => by
    have k := key_eq rc tl rr (g := g) (fun x hx => ms.2.2 x hx.2.2 hx.1 hx.2.1) tp (wt_in hv) (wt_in zw)
    have eM : ∀ x, WN h x ≠ 0 → mK g (2 ^ t) x = maN h x (kN h 198 4) &&& mk4 (2 ^ t) 6 := fun x hx => by
      have vx := wt_in hx
      have l : maN h x (kN h 198 4) &&& mk4 (2 ^ t) 6 ≤ mk4 (2 ^ t) 6 := Nat.and_le_right
      have mk := mk4_lt (2 ^ t) (by omega)
      unfold mK
      rw [ms.2.2 x vx.2.2 vx.1 vx.2.1, n32_and, n32_cl (by omega)]
    rw [eM v hv, eM w zw, mk4_one t (by omega)] at k
    rw [shr_land, xor_land]
    exact k.symm
  obtain ⟨r, e, q⟩ := kloop_up (body := f_X12_isAlike_l3 g 173 (Int32.ofNat w) (Int32.ofNat t)) (fun i => Int32.ofNat i) (fun i => ∀ v, 36 ≤ v → v < i → WN h v ≠ 0 → kX (paN h (tmM h)) (2 ^ t) v ≠ kX (paN h (tmM h)) (2 ^ t) w) (fun r => (r = .inr 1 ∧ alk (WN h) (kX (paN h (tmM h)) (2 ^ t)) w) ∨ (r = .inl () ∧ ¬ alk (WN h) (kX (paN h (tmM h)) (2 ^ t)) w)) (a := 36) (N := 72) (by omega) (by omega) (fun v h1 h2 => by omega) (fun v _ hv J => by
      have av := ab v
      unfold f_X12_isAlike_l3 f_X12_isAlike_b44
      rw [if_neg (by rw [n32_ler (by omega) (by omega)]; omega), if_pos kk173, rf173_54 rg, if_pos (show 213 < 999999 by omega), if_pos kk213, kn213, if_neg (by rw [n32_cl (by omega)]; exact fun z => z.elim (n32_nn (by omega)) (by omega)), n32_cl (show v < 2147483648 by omega), ms.1 v hv, show (0 : Int64) = Int64.ofNat 0 from rfl]
      by_cases z : WN h v = 0
      · refine Or.inr ⟨?_, fun u h1 h2 h3 => ?_⟩
        · rw [if_pos (by rw [lgn_le0 (by omega) (by omega)]; omega), kl_e, n32_addl]
        · by_cases y : u = v
          · rw [y] at h3
            exact absurd z h3
          · exact J u h1 (by omega) h3
      · have vv := wt_in z
        have vw := wt_in zw
        have lv' := ma_lt rc tl rr vv
        have lw' := ma_lt rc tl rr vw
        have xl : maN h v (kN h 198 4) ^^^ maN h w (kN h 198 4) < 2 ^ 12 := Nat.xor_lt_two_pow (by omega) (by omega)
        have sl : (maN h v (kN h 198 4) ^^^ maN h w (kN h 198 4)) >>> (2 * t) &&& 3 ≤ 3 := Nat.and_le_right
        rw [if_neg (by rw [lgn_le0 (by omega) (by omega)]; omega), rf173_55 rg, if_pos (show 214 < 999999 by omega), if_pos kk214, kn214, if_neg (fun z => z.elim (n32_nn (by omega)) (by omega)), if_neg (by rw [n32_cl (by omega)]; exact fun z => z.elim (n32_nn (by omega)) (by omega)), n32_cl (show w < 2147483648 by omega), ms.2.2 v hv vv.1 vv.2.1, ms.2.2 w (by omega) vw.1 vw.2.1, n32_xor, n32_mulr, n32_shr (by omega) (by omega), n32_andl]
        by_cases d : kX (paN h (tmM h)) (2 ^ t) v = kX (paN h (tmM h)) (2 ^ t) w
        · refine Or.inl ⟨.inr 1, ?_, Or.inl ⟨rfl, v, by omega, hv, z, d⟩⟩
          rw [if_pos (by rw [(eq v z).mpr d]; rfl)]
          rfl
        · refine Or.inr ⟨?_, fun u h1 h2 h3 => ?_⟩
          · rw [if_neg (by rw [n32_ne0 (by omega)]; exact fun y => d ((eq v z).mp y)), kl_e, n32_addl]
          · by_cases y : u = v
            · rw [y]; exact d
            · exact J u h1 (by omega) h3) (fun J => by
      refine ⟨.inl (), ?_, Or.inr ⟨rfl, ?_⟩⟩
      · unfold f_X12_isAlike_l3
        rw [if_pos (by decide)]
      · rintro ⟨v, h1, h2, h3, h4⟩
        exact J v h1 h2 h3 h4)
  unfold f_X12_isAlike
  rw [show (36 : Int32) = Int32.ofNat 36 from rfl, e, kb_s]
  rcases q with ⟨q1, q2⟩ | ⟨q1, q2⟩
  · exact ⟨1, by rw [q1, ksum_r], Or.inl ⟨rfl, q2⟩⟩
  · exact ⟨0, by rw [q1, ksum_l], Or.inr ⟨rfl, q2⟩⟩
theorem m_failing {h g : KH} {c : Nat} (rc : RC h c) (rs : RS h) (rr : Rrule h c) (rg : kRefs g) (ms : Mst h g (WN h) 72) {t : Nat} (ht : t < kN h 198 4) (v2 : Int32) :
    ∃ r, kloop (f_X12_parts_l40 g 173 (Int32.ofNat t) v2) KF ((-1 : Int32), (0 : Int32)) = some r ∧ FW (WN h) (kX (paN h (tmM h)) (2 ^ t)) r := by
  have ab := WN_le rc
  -- the state of a turn: what was found
  refine kloop_KF (body := f_X12_parts_l40 g 173 (Int32.ofNat t) v2) (fun n s => (∃ i, i + n = 38 ∧ i ≤ 36 ∧ s = ((-1 : Int32), Int32.ofNat i) ∧ ∀ u, u < i → WN h u ≠ 0 → ¬ alk (WN h) (kX (paN h (tmM h)) (2 ^ t)) u) ∨ ∃ w, w < 36 ∧ s = (Int32.ofNat w, Int32.ofNat (w + 1)) ∧ n = 0 ∧ WN h w ≠ 0 ∧ alk (WN h) (kX (paN h (tmM h)) (2 ^ t)) w ∧ ∀ u, u < w → WN h u ≠ 0 → ¬ alk (WN h) (kX (paN h (tmM h)) (2 ^ t)) u) _ (fun n s hP => ?_) (n := 38) (by omega) (Or.inl ⟨0, by omega, by omega, rfl, fun u hu => absurd hu (Nat.not_lt_zero _)⟩)
  rcases hP with ⟨i, i1, i2, rfl, J⟩ | ⟨w, w1, rfl, w2, w3, w4, w5⟩
  · unfold f_X12_parts_l40 f_X12_parts_b77
    dsimp only
    by_cases a : 36 ≤ i
    · refine Or.inl ⟨-1, ?_, Or.inl ⟨rfl, fun w h1 h2 => J w (by omega) h2⟩⟩
      rw [if_pos (by rw [n32_ler (by omega) (by omega)]; exact a)]
    · have av := ab i
      rw [if_neg (by rw [n32_ler (by omega) (by omega)]; exact a), if_pos rfl, if_pos kk173, rf173_54 rg, if_pos (show 213 < 999999 by omega), if_pos kk213, kn213, if_neg (by rw [n32_cl (by omega)]; exact fun z => z.elim (n32_nn (by omega)) (by omega)), n32_cl (show i < 2147483648 by omega), ms.1 i (by omega), show (0 : Int64) = Int64.ofNat 0 from rfl]
      by_cases z : WN h i = 0
      · refine Or.inr ⟨n - 1, ((-1 : Int32), Int32.ofNat (i + 1)), by omega, ?_, Or.inl ⟨i + 1, by omega, by omega, rfl, fun u h1 h2 => ?_⟩⟩
        · rw [if_pos (by rw [lgn_le0 (by omega) (by omega)]; omega), kl_e, n32_addl]
        · by_cases y : u = i
          · rw [y] at h2
            exact absurd z h2
          · exact J u (by omega) h2
      · obtain ⟨r, e, q⟩ := m_isAlike rc rs rr rg ms (by omega) z ht
        rw [if_neg (by rw [lgn_le0 (by omega) (by omega)]; omega), e, kb_s]
        rcases q with ⟨q1, q2⟩ | ⟨q1, q2⟩
        · refine Or.inr ⟨0, (Int32.ofNat i, Int32.ofNat (i + 1)), by omega, ?_, Or.inr ⟨i, by omega, rfl, rfl, z, q2, J⟩⟩
          rw [q1, if_neg (show ¬ ((1 : Int32) = 0) by decide), kl_e, n32_addl]
        · refine Or.inr ⟨n - 1, ((-1 : Int32), Int32.ofNat (i + 1)), by omega, ?_, Or.inl ⟨i + 1, by omega, by omega, rfl, fun u h1 h2 => ?_⟩⟩
          · rw [q1, if_pos rfl, kl_e, n32_addl]
          · by_cases y : u = i
            · rw [y]; exact q2
            · exact J u (by omega) h2
  · refine Or.inl ⟨Int32.ofNat w, ?_, Or.inr ⟨w, w1, rfl, w3, w4, w5⟩⟩
    unfold f_X12_parts_l40
    dsimp only
    by_cases a : 36 ≤ w + 1
    · rw [if_pos (by rw [n32_ler (by omega) (by omega)]; exact a)]
    · rw [if_neg (by rw [n32_ler (by omega) (by omega)]; exact a), if_neg (fun z => (n32_eqm (show w < 2147483648 by omega)).mp z)]
theorem c_parts {h : KH} {c : Nat} (rc : RC h c) (rs : RS h) (rr : Rrule h c) (ry : Ryt h c) (rz : Rzero h) (a b : Int32) : ∃ r h1 h2, f_X11_parts h 0 a b = some (r, h1) ∧ f_X12_parts h1 173 a b = some (r, h2) ∧ Scr h h2 c := by
  obtain ⟨hr, hc, h5, hm, -⟩ := id rc
  have c39 := hc.lt
  have n4 := hm.2.1.1.2
  have z0 : (0 : Int64).toInt = 0 := rfl
  have z2 : (2 : Int64).toInt = 2 := rfl
  rcases n32_arg a (n := kN h 198 4) (by omega) with ⟨t, ht, rfl⟩ | ha
  · have at' := rs.a (t := t) (by omega)
    have x0 : ∀ (A B : Option (Int32 × KH)), (if kI h 66 t = 0 then A else B) = if anN h t = 0 then A else B := fun A B => by
      have e : kI h 66 t = Int32.ofNat (anN h t) := at'.2.trans at'.1.1
      have l : anN h t ≤ 4 := at'.1.2
      rw [e]
      exact ifP (n32_ne0 (by omega))
    have m0 : ∀ (A B : Option (Int32 × KH)), (if kI h 207 (2 + 2 * t + 1) = 0 then A else B) = if anN h t = 0 then A else B := fun A B => by
      rw [← at'.2]
      exact x0 A B
    by_cases y : anN h t = 0
    · rcases n32_arg b (n := 3) (by omega) with ⟨w, hw, rfl⟩ | hb
      · obtain ⟨h1, e1, s1, a1, w1⟩ := x_now rc rs rr ry rz
        have r1 := hr.fp s1.1
        have rc1 := rc.sc s1.1
        have q4 := n4_sc s1.1
        have rs1 := rs.sc s1.1
        have at1 := rs1.a (t := t) (by omega)
        have m1 : kI h1 207 (2 + 2 * t + 1) = 0 := by
          rw [s1.1.2.2.1 _ _ (by unfold Wscr; omega), at'.1.1]
          show Int32.ofNat (anN h t) = 0
          rw [y]
          rfl
        obtain ⟨h2, e2, s2, f2, y2, m2⟩ := m_now rc rs rr s1
        have r2 := r1.fp f2
        obtain ⟨r, er, qr⟩ := x_failing r1 (fun w => pa_lt rc w) w1 (t := t) (by omega)
        obtain ⟨r', er', qr'⟩ := m_failing rc rs rr r2 m2 ht (Int32.ofNat w)
        have same := FW_uniq qr' qr
        rw [same] at er'
        have kd : ∀ cl, cl < 2 → r ≠ -1 → f_X10_kindIn h1 162 r (Int32.ofNat cl) = f_X12_kindIn h2 r (Int32.ofNat cl) ∧ ∃ x, f_X10_kindIn h1 162 r (Int32.ofNat cl) = some x := fun cl hcl z => by
          rcases qr with ⟨q1, -⟩ | ⟨u, u1, u2, -⟩
          · exact absurd q1 z
          · rw [u2, x_kindIn10 h1 (by omega) hcl, m_kindInC h2 (by omega) hcl]
            exact ⟨rfl, _, rfl⟩
        have xe : ∀ q, f_X11_parts h 0 (Int32.ofNat t) (Int32.ofNat w) = q ↔ (if Int32.ofNat w = 0 then if r = (-1 : Int32) then some ((1 : Int32), h1) else some ((0 : Int32), h1) else if r = (-1 : Int32) then some ((-1 : Int32), h1) else kb (f_X10_kindIn h1 162 r (Int32.ofNat w - (1 : Int32))) fun r28 => some (r28, h1)) = q := fun q => by
          unfold f_X11_parts
          rw [if_pos kk0, x_isTest_y rc ht, kb_s, if_neg (show ¬ ((1 : Int32) = 0) by decide), rf0_7 hr, if_pos (show 64 < 999999 by omega), if_pos kk64, rf64_4 hr, if_pos (show 66 < 999999 by omega), if_pos kk66, kn66, if_neg (by rw [n32_cl (by omega)]; exact fun z => z.elim (n32_nn (by omega)) (by omega)), n32_cl (by omega), x0, if_pos y, if_neg (n32_nn (by omega)), if_pos (by rw [n32_lel (by omega) (by omega)]; omega), rf0_11 hr, if_pos (show 162 < 999999 by omega), h5, if_pos (show c < 999999 by omega), if_pos kk162, e1, kb_s, rf0_11 r1, if_pos (show 162 < 999999 by omega), if_pos kk162, er, kb_s]
        have me : ∀ q, f_X12_parts h1 173 (Int32.ofNat t) (Int32.ofNat w) = q ↔ (if Int32.ofNat w = 0 then if r = (-1 : Int32) then some ((1 : Int32), h2) else some ((0 : Int32), h2) else if r = (-1 : Int32) then some ((-1 : Int32), h2) else kb (f_X12_kindIn h2 r (Int32.ofNat w - (1 : Int32))) fun r28 => some (r28, h2)) = q := fun q => by
          unfold f_X12_parts f_X12_parts_b83
          rw [if_pos kk173, m_isTest_y rc1 (by omega), kb_s, if_neg (show ¬ ((1 : Int32) = 0) by decide), m_stateOf r1 (by omega), kb_s, m1, if_pos rfl, isIn_y _ z0 z2 (by rw [n32_toInt (by omega)]; omega), kb_s, if_neg (show ¬ ((1 : Int32) = 0) by decide), e2, kb_s, er', kb_s]
        by_cases w0 : Int32.ofNat w = 0
        · by_cases u : r = -1
          · exact ⟨1, h1, h2, (xe _).mpr (by rw [if_pos w0, if_pos u]), (me _).mpr (by rw [if_pos w0, if_pos u]), s2⟩
          · exact ⟨0, h1, h2, (xe _).mpr (by rw [if_pos w0, if_neg u]), (me _).mpr (by rw [if_pos w0, if_neg u]), s2⟩
        · by_cases u : r = -1
          · exact ⟨-1, h1, h2, (xe _).mpr (by rw [if_neg w0, if_pos u]), (me _).mpr (by rw [if_neg w0, if_pos u]), s2⟩
          · have w1' : 1 ≤ w := by
              refine Classical.byContradiction fun z => w0 ?_
              rw [show w = 0 by omega]
              rfl
            obtain ⟨k1, x, k2⟩ := kd (w - 1) (by omega) u
            refine ⟨x, h1, h2, (xe _).mpr ?_, (me _).mpr ?_, s2⟩
            · rw [if_neg w0, if_neg u, n32_subl w1', k2, kb_s]
            · rw [if_neg w0, if_neg u, n32_subl w1', ← k1, k2, kb_s]
      · refine ⟨-1, h, h, ?_, ?_, Scr.rf ry rz⟩
        · unfold f_X11_parts
          rw [if_pos kk0, x_isTest_y rc ht, kb_s, if_neg (show ¬ ((1 : Int32) = 0) by decide), rf0_7 hr, if_pos (show 64 < 999999 by omega), if_pos kk64, rf64_4 hr, if_pos (show 66 < 999999 by omega), if_pos kk66, kn66, if_neg (by rw [n32_cl (by omega)]; exact fun z => z.elim (n32_nn (by omega)) (by omega)), n32_cl (by omega), x0, if_pos y]
          by_cases b0 : b < 0
          · rw [if_pos b0]
          · have := rng_n (n := 3) (by omega) hb b0
            rw [if_neg b0, if_neg (by rw [Int32.le_iff_toInt_le] at this ⊢; rw [n32_toInt (by omega)] at this; show ¬ b.toInt ≤ 2; omega)]
        · unfold f_X12_parts
          rw [if_pos kk173, m_isTest_y rc ht, kb_s, if_neg (show ¬ ((1 : Int32) = 0) by decide), m_stateOf hr (by omega), kb_s, m0, if_pos y, isIn_n _ z0 z2 (by omega), kb_s, if_pos rfl]
    · refine ⟨-1, h, h, ?_, ?_, Scr.rf ry rz⟩
      · unfold f_X11_parts
        rw [if_pos kk0, x_isTest_y rc ht, kb_s, if_neg (show ¬ ((1 : Int32) = 0) by decide), rf0_7 hr, if_pos (show 64 < 999999 by omega), if_pos kk64, rf64_4 hr, if_pos (show 66 < 999999 by omega), if_pos kk66, kn66, if_neg (by rw [n32_cl (by omega)]; exact fun z => z.elim (n32_nn (by omega)) (by omega)), n32_cl (by omega), x0, if_neg y]
      · unfold f_X12_parts
        rw [if_pos kk173, m_isTest_y rc ht, kb_s, if_neg (show ¬ ((1 : Int32) = 0) by decide), m_stateOf hr (by omega), kb_s, m0, if_neg y]
  · refine ⟨-1, h, h, ?_, ?_, Scr.rf ry rz⟩
    · unfold f_X11_parts
      rw [if_pos kk0, x_isTest_n rc ha, kb_s, if_pos rfl]
    · unfold f_X12_parts
      rw [if_pos kk173, m_isTest_n rc ha, kb_s, if_pos rfl]
