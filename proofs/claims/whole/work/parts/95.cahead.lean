/-! ahead -/
theorem hb_bit (f : Nat → Nat) : ∀ n k, k < n → hbN f n / 2 ^ k % 2 = if f k = 0 then 0 else 1
  | 0, k, hk => absurd hk (Nat.not_lt_zero _)
  | n + 1, k, hk => by
    have l := hbN_lt f n
    rw [hbN]
    by_cases y : k = n
    · rw [y]
      by_cases z : f n = 0
      · rw [if_pos z, if_pos z, Nat.div_eq_of_lt l]
      · rw [if_neg z, if_neg z, Nat.add_div_right _ (Nat.pow_pos (by omega)), Nat.div_eq_of_lt l]
    · have p : 2 ^ n = 2 ^ (n - k - 1) * 2 * 2 ^ k := by
        rw [← Nat.pow_succ, ← Nat.pow_add, show n - k - 1 + 1 + k = n by omega]
      have i := hb_bit f n k (by omega)
      by_cases z : f n = 0
      · rw [if_pos z]
        exact i
      · rw [if_neg z, p, Nat.add_mul_div_right _ _ (Nat.pow_pos (by omega)), Nat.add_mul_mod_self_right]
        exact i
theorem m_ahFirst {h p : KH} {c : Nat} (rc : RC h c) (rs : RS h) (f0 : kfp (fun l i => l = 208 ∧ i < 24) h p) (L0 : ∀ l i, kL p l i = kL h l i) (v1 v2 : Int32) :
    ∃ g, kloop (f_X12_ahead_l32 173 v1 v2) KF ((0 : Int32), p) = some g ∧ kfp (fun l i => l = 207 ∧ 2 ≤ i ∧ i < 14 ∧ i % 2 = 0) p g ∧ (∀ t, t < 6 → kI g 207 (2 + 2 * t) = Int32.ofNat (tma h 0 t)) ∧ ∀ l i, kL g l i = kL h l i := by
  obtain ⟨hr, hc, h5, hmm, -⟩ := id rc
  have n4 := hmm.2.1.1.2
  have rp := hr.fp f0
  obtain ⟨g, e, q1, q2, q3⟩ := kloop_inv (body := f_X12_ahead_l32 173 v1 v2) (fun k s => s.1 = Int32.ofNat k ∧ kfp (fun l i => l = 207 ∧ 2 ≤ i ∧ i < 14 ∧ i % 2 = 0) p s.2 ∧ (∀ t, t < 6 → kI s.2 207 (2 + 2 * t) = Int32.ofNat (if t < k then tma h 0 t else tmM h t)) ∧ ∀ l i, kL s.2 l i = kL h l i) (fun r => kfp (fun l i => l = 207 ∧ 2 ≤ i ∧ i < 14 ∧ i % 2 = 0) p r ∧ (∀ t, t < 6 → kI r 207 (2 + 2 * t) = Int32.ofNat (if t < kN h 198 4 then tma h 0 t else tmM h t)) ∧ ∀ l i, kL r l i = kL h l i) (kN h 198 4) (s0 := ((0 : Int32), p)) (by omega)
    ⟨rfl, kfp.rf, fun t ht => by rw [if_neg (by omega), f0.2.2.1 _ _ (by omega)]; exact (rs.t ht).1.1, L0⟩ (fun k s hk hP => by
      obtain ⟨s1, q⟩ := s
      obtain ⟨p1, p2, p3, p4⟩ := hP
      dsimp only at p1 p2 p3 p4
      subst p1
      have rq := rp.fp p2
      have e4 : kI q 198 4 = Int32.ofNat (kN h 198 4) := by rw [p2.2.2.1 _ _ (by omega), f0.2.2.1 _ _ (by omega)]; exact hmm.2.1.1.1
      have es : kI q 207 (2 + 2 * k + 1) = Int32.ofNat (anN h k) := by rw [p2.2.2.1 _ _ (by omega), f0.2.2.1 _ _ (by omega)]; exact (rs.a (t := k) (by omega)).1.1
      have al := (rs.a (t := k) (by omega)).1.2
      have al' : anN h k ≤ 4 := al
      have et := p3 k (by omega)
      rw [if_neg (by omega)] at et
      have tl : tmM h k ≤ 99 := (rs.t (t := k) (by omega)).1.2
      have b := hb_bit (anN h) (kN h 198 4) k hk
      have hd : hdN h / 2 ^ k % 2 = if anN h k = 0 then 0 else 1 := b
      have tk : tma h 0 k = if anN h k = 0 then tmM h k else min 99 (tmM h k + 1) := by
        rw [tma_0]
        unfold moreN
        rw [hd]
        by_cases z : anN h k = 0
        · rw [if_pos z, if_pos z, if_pos rfl]
        · rw [if_neg z, if_neg z, if_neg (by omega)]
      unfold f_X12_ahead_l32 f_X12_ahead_b53
      dsimp only
      simp only [kl_e]
      rw [if_pos kk173, m_testMany rq, kb_s, e4, if_neg (by rw [n32_le (by omega) (by omega)]; omega), m_stateOf rq (by omega), kb_s, es, n32_addl]
      by_cases z : anN h k = 0
      · refine ⟨(Int32.ofNat (k + 1), q), by rw [if_pos (by rw [z]; rfl)], rfl, p2, fun t ht => ?_, p4⟩
        dsimp only
        rw [p3 t ht]
        rw [if_pos z] at tk
        by_cases y : t = k
        · rw [y, if_neg (by omega), if_pos (by omega), tk]
        · by_cases x : t < k
          · rw [if_pos x, if_pos (by omega)]
          · rw [if_neg x, if_neg (by omega)]
      · rw [if_neg z] at tk
        rw [if_neg (by rw [n32_ne0 (by omega)]; exact z), m_isHeardMore rq (by omega) et tl, kb_s]
        by_cases y9 : 99 ≤ tmM h k
        · refine ⟨(Int32.ofNat (k + 1), q), by rw [if_pos y9], rfl, p2, fun t ht => ?_, p4⟩
          dsimp only
          rw [p3 t ht]
          by_cases y : t = k
          · rw [y, if_neg (by omega), if_pos (by omega), tk, show min 99 (tmM h k + 1) = tmM h k by omega]
          · by_cases x : t < k
            · rw [if_pos x, if_pos (by omega)]
            · rw [if_neg x, if_neg (by omega)]
        · refine ⟨(Int32.ofNat (k + 1), ksI q 207 (2 + 2 * k) (Int32.ofNat (tmM h k + 1))), by rw [if_neg y9], rfl, p2.sI _ (by omega), fun t ht => ?_, fun l i => (kL_sI).trans (p4 l i)⟩
          dsimp only
          rw [kI_sI]
          by_cases y : t = k
          · rw [y, if_pos ⟨rfl, rfl⟩, if_pos (by omega), tk, show min 99 (tmM h k + 1) = tmM h k + 1 by omega]
          · rw [if_neg (by omega), p3 t ht]
            by_cases x : t < k
            · rw [if_pos x, if_pos (by omega)]
            · rw [if_neg x, if_neg (by omega)]) (fun s hP => by
      obtain ⟨s1, q⟩ := s
      obtain ⟨p1, p2, p3, p4⟩ := hP
      dsimp only at p1 p2 p3 p4
      subst p1
      have rq := rp.fp p2
      have e4 : kI q 198 4 = Int32.ofNat (kN h 198 4) := by rw [p2.2.2.1 _ _ (by omega), f0.2.2.1 _ _ (by omega)]; exact hmm.2.1.1.1
      refine ⟨q, ?_, p2, p3, p4⟩
      unfold f_X12_ahead_l32
      dsimp only
      rw [if_pos kk173, m_testMany rq, kb_s, e4, if_pos (by rw [n32_le (by omega) (by omega)]; omega)])
  refine ⟨g, e, q1, fun t ht => ?_, q3⟩
  rw [q2 t ht]
  by_cases y : t < kN h 198 4
  · rw [if_pos y]
  · rw [if_neg y, tma_0]
    unfold moreN
    rw [if_pos (bit_hi (hdN_lt rc).1 (by omega))]
theorem m_ahead {h : KH} {c : Nat} (rc : RC h c) (rs : RS h) (rr : Rrule h c) (ry : Ryt h c) (rz : Rzero h) {v w : Nat} (hv : v < 30) (hw : w < 3) :
    ∃ g, f_X12_ahead h 173 (Int32.ofNat v) (Int32.ofNat w) = some (if aT (fW h) 72 = 0 then -1 else ahI h w v, g) ∧ Scr h g c := by
  obtain ⟨hr, hc, h5, hmm, -⟩ := id rc
  have c39 := hc.lt
  have z0 : (0 : Int64).toInt = 0 := rfl
  have z29 : (29 : Int64).toInt = 29 := rfl
  have z2 : (2 : Int64).toInt = 2 := rfl
  have wb : ∀ w, fW h w ≤ 27960524111619 := fun w => wt_le rc _ _ _ w
  have ab := aT_wb wb
  obtain ⟨p0, e0, f0, s0, L0⟩ := m_putsAside hr
  obtain ⟨g1, e1, f1, t1, L1⟩ := m_ahFirst rc rs f0 L0 (Int32.ofNat v) (Int32.ofNat w)
  have r1 := (hr.fp f0).fp f1
  obtain ⟨g2, e2, f2, u1, u2⟩ := m_begins r1
  have L2 : ∀ l i, kL g2 l i = kL h l i := by
    obtain ⟨g2', e2', L⟩ := m_beginsL r1
    rw [e2] at e2'
    cases e2'
    exact fun l i => (L l i).trans (L1 l i)
  have F2 : kfp (fun l i => (l = 208 ∨ l = 207) ∧ i < 24) h g2 := ((f0.wide fun l i z => by omega).tr (f1.wide fun l i z => by omega)).tr (f2.wide fun l i z => by omega)
  have m0 : Ma h g2 c 0 := by
    refine ⟨F2.wide fun l i z => by unfold Wsn Wscr; omega, ry.fp F2 fun l i z w => ?_, rz.fp F2 fun l i z w => by omega, fun i hi => ?_, fun t ht => ⟨?_, u1 t ht⟩, u2, ?_, ?_, fun i => L2 _ _⟩
    · unfold Wlw at z
      rcases hc with rfl | rfl <;> omega
    · rw [f2.2.2.1 _ _ (by omega), f1.2.2.1 _ _ (by omega)]
      exact s0 i hi
    · rw [f2.2.2.1 _ _ (by omega)]
      exact t1 t ht
    · rw [f2.2.2.1 _ _ (by omega), f1.2.2.1 _ _ (by omega), f0.2.2.1 _ _ (by omega)]
    · rw [f2.2.2.1 _ _ (by omega), f1.2.2.1 _ _ (by omega), f0.2.2.1 _ _ (by omega)]
  obtain ⟨p, e3, mp, -, pa, -⟩ := m_ahWorlds rc rs rr m0
  have lp : ∃ q k, kloop (f_X12_ahead_l73 173 (Int32.ofNat v) (Int32.ofNat w)) KF ((-1 : Int32), (0 : Int32), p) = some (if aT (fW h) 72 = 0 then -1 else ahI h w v, q) ∧ Ma h q c k := by
    by_cases y : aT (fW h) 72 = 0
    · obtain ⟨r, e, er⟩ := kloop_inv (body := f_X12_ahead_l73 173 (Int32.ofNat v) (Int32.ofNat w)) (fun _ s => s = ((-1 : Int32), (0 : Int32), p)) (fun r => r = ((-1 : Int32), p)) 0 (s0 := ((-1 : Int32), (0 : Int32), p)) (by omega) rfl (fun k s hk => absurd hk (Nat.not_lt_zero _)) (fun s hP => by
        subst hP
        refine ⟨_, ?_, rfl⟩
        unfold f_X12_ahead_l73
        dsimp only
        rw [if_neg (n32_nn (by omega)), if_pos kk173, pa, if_pos (by rw [y]; decide)])
      exact ⟨p, 0, by rw [if_pos y, e, er], mp⟩
    · obtain ⟨r, e, er⟩ := kloop_inv (body := f_X12_ahead_l73 173 (Int32.ofNat v) (Int32.ofNat w)) (fun k s => s.2.1 = Int32.ofNat k ∧ Ma h s.2.2 c k ∧ kL s.2.2 173 56 = Int64.ofNat (aT (fW h) 72) ∧ (k = 0 ∨ s.1 = ahI h w (k - 1))) (fun r => r.1 = ahI h w v ∧ Ma h r.2 c (v + 1)) (v + 1) (s0 := ((-1 : Int32), (0 : Int32), p)) (by omega) ⟨rfl, mp, pa, Or.inl rfl⟩ (fun k s hk hP => by
        obtain ⟨s1, s2, q⟩ := s
        obtain ⟨p1, p2, p3, -⟩ := hP
        dsimp only at p1 p2 p3
        subst p1
        obtain ⟨g', k1, k2, k3⟩ := m_ahStep rc rs rr p2 p3 y hv hw (by omega) s1
        exact ⟨_, k1, rfl, k2, k3, Or.inr rfl⟩) (fun s hP => by
        obtain ⟨s1, s2, q⟩ := s
        obtain ⟨p1, p2, p3, p4⟩ := hP
        dsimp only at p1 p2 p3 p4
        subst p1
        refine ⟨(s1, q), ?_, p4.elim (fun z => absurd z (by omega)) (fun z => z), p2⟩
        unfold f_X12_ahead_l73
        dsimp only
        rw [if_pos (by rw [n32_lt (by omega) (by omega)]; omega)])
      obtain ⟨r1, r2⟩ := r
      obtain ⟨er1, er2⟩ := er
      dsimp only at er1 er2
      exact ⟨r2, v + 1, by rw [if_neg y, e, er1], er2⟩
  obtain ⟨q, k, e4, mq⟩ := lp
  obtain ⟨m1, m2, m3, m4, m5, m6, m7, m8, m9⟩ := id mq
  have rq := (rc.sn m1).1
  obtain ⟨p3, e5, f3, b3, L3⟩ := m_takesBack rq
  have back : ∀ i, i < 24 → kI p3 207 i = kI h 207 i := fun i hi => (b3 i hi).trans (m4 i hi)
  have N3 : kfp Wsn h p3 := m1.tr (f3.wide fun l i z => Or.inr z)
  have F3 : kfp Wscr h p3 := ⟨N3.1, N3.2.1, fun l i z => by
    by_cases y : l = 207 ∧ i < 24
    · rw [y.1]; exact back i y.2
    · exact N3.2.2.1 l i (fun w => w.elim z y), fun l i z => by
    by_cases y : l = 207 ∧ i < 24
    · rw [L3, y.1, m9]
    · exact N3.2.2.2 l i (fun w => w.elim z y)⟩
  refine ⟨p3, ?_, F3, m2.fp f3 fun l i z w => ?_, m3.fp f3 fun l i z w => by omega⟩
  · unfold f_X12_ahead
    rw [isIn_y _ z0 z29 (by rw [n32_toInt (by omega)]; omega), kb_s, if_neg (show ¬ ((1 : Int32) = 0) by decide), isIn_y _ z0 z2 (by rw [n32_toInt (by omega)]; omega), kb_s, if_neg (show ¬ ((1 : Int32) = 0) by decide), if_pos kk173, e0, kb_s, e1, kb_s, e2, kb_s, e3, kb_s, e4, kb_s]
    unfold f_X12_ahead_b178
    rw [if_pos kk173, e5, kb_s]
  · unfold Wlw at z
    rcases hc with rfl | rfl <;> omega
/-- how ahead ends -/
def AftA (h h' : KH) (c : Nat) : Prop := kfp Wah h h' ∧ Ryt h' c ∧ Rzero h' ∧ Rcoming h'
theorem c_ahead {h : KH} {c : Nat} (rc : RC h c) (rs : RS h) (rr : Rrule h c) (ry : Ryt h c) (rz : Rzero h) (rcm : Rcoming h) (a b : Int32) : ∃ r h1 h2, f_X11_ahead h 0 a b = some (r, h1) ∧ f_X12_ahead h1 173 a b = some (r, h2) ∧ AftA h h2 c := by
  obtain ⟨hr, hc, h5, hmm, -⟩ := id rc
  have c39 := hc.lt
  have z0 : (0 : Int64).toInt = 0 := rfl
  have z29 : (29 : Int64).toInt = 29 := rfl
  have z2 : (2 : Int64).toInt = 2 := rfl
  rcases n32_arg a (n := 30) (by omega) with ⟨v, hv, rfl⟩ | ha
  · rcases n32_arg b (n := 3) (by omega) with ⟨w, hw, rfl⟩ | hb
    · obtain ⟨g, m, e1, vm, m30, x⟩ := x_lookAhead rc rs rr ry rz rcm (v := v + 1) (by omega)
      obtain ⟨x1, x2, x3, x4, x5, x6⟩ := id x
      have rcg := rc.ah x1
      have rg := rcg.1
      have law : Law h g := fun l i a b => x1.2.2.1 l i (by unfold Wah Wscr; omega)
      have e7 : ∀ i, kI g 207 i = kI h 207 i := fun i => x1.2.2.1 _ _ (by unfold Wah Wscr; omega)
      have rsg : RS g := rs.fp x1 fun l i z => by unfold Wah Wscr; omega
      obtain ⟨h2, e2, s2⟩ := m_ahead rcg rsg (rr.ah hc x1) x2 x3 hv hw
      have et := tma_eq law e7
      have eb : bsa g = bsa h := by
        funext n
        unfold bsa
        rw [law.fw, law.bs, law.pa, et]
      have ea : ahI g w v = ahI h w v := by
        unfold ahI raN
        rw [law.fw, law.pa, et, eb, law.hm, law.n (l := 198) (i := 4) (by omega) (by omega)]
      rw [law.fw, ea] at e2
      have rcmg : Rcoming g := ⟨m, m30, x4, Or.inr ⟨by rw [et]; exact x5, fun n hn => by rw [(seI_eq law e7).1, (seI_eq law e7).2]; exact x6 n hn⟩⟩
      have bl := bsa_lt rc v
      refine ⟨_, g, h2, ?_, e2, x1.tr (s2.1.wide fun l i z => Or.inl z), s2.2.1, s2.2.2, rcmg.sc s2.1⟩
      unfold f_X11_ahead
      rw [if_neg (n32_nn (by omega)), if_neg (by rw [n32_ler (by omega) (by omega)]; omega), if_neg (n32_nn (by omega)), if_pos (by rw [n32_lel (by omega) (by omega)]; omega), if_pos kk0, n32_addl, e1, kb_s, rf0_10 rg, if_pos (show 155 < 999999 by omega), if_pos kk155, rf155_0 rg, if_pos (show 156 < 999999 by omega), if_pos kk156, kn156, if_neg (by rw [n32_cl (by omega)]; exact fun z => z.elim (n32_nn (by omega)) (by omega)), n32_cl (show v < 2147483648 by omega), kl_e, (x6 v (by omega)).1]
      unfold seI
      by_cases y : aT (fW h) 72 = 0
      · rw [if_pos y, if_pos rfl, if_pos y]
      · rw [if_neg y, if_neg (by rw [n32_eqm (by omega)]; exact fun z => z), if_neg y]
        unfold ahI
        by_cases y0 : w = 0
        · rw [if_pos (by rw [y0]; rfl), if_pos y0]
        · rw [if_neg (by rw [n32_ne0 (by omega)]; exact y0), if_neg y0]
          by_cases y1 : w = 1
          · rw [if_pos (by rw [y1]; rfl), if_pos y1, rf155_1 rg, if_pos (show 157 < 999999 by omega), if_pos kk157, kn157, if_neg (fun z => z.elim (n32_nn (by omega)) (by omega)), (x6 v (by omega)).2]
            unfold riI
            rw [if_neg y]
          · have eh := x_harmOf rcg (s := bsa h v) (by omega)
            rw [law.hm, law.n (l := 198) (i := 4) (by omega) (by omega)] at eh
            rw [if_neg (by rw [n32_eql (by omega) (by omega)]; exact y1), if_neg y1, (x1.2.1 _ _).trans h5, if_pos (show c < 999999 by omega), if_pos (ct_kk hc), eh, kb_s]
    · refine ⟨-1, h, h, ?_, ?_, kfp.rf, ry, rz, rcm⟩
      · unfold f_X11_ahead
        rw [if_neg (n32_nn (by omega)), if_neg (by rw [n32_ler (by omega) (by omega)]; omega)]
        by_cases b0 : b < 0
        · rw [if_pos b0]
        · have := rng_n (n := 3) (by omega) hb b0
          rw [if_neg b0, if_neg (by rw [Int32.le_iff_toInt_le] at this ⊢; rw [n32_toInt (by omega)] at this; show ¬ b.toInt ≤ 2; omega)]
      · unfold f_X12_ahead
        rw [isIn_y _ z0 z29 (by rw [n32_toInt (by omega)]; omega), kb_s, if_neg (show ¬ ((1 : Int32) = 0) by decide), isIn_n _ z0 z2 (by omega), kb_s, if_pos rfl]
  · refine ⟨-1, h, h, ?_, ?_, kfp.rf, ry, rz, rcm⟩
    · unfold f_X11_ahead
      by_cases a0 : a < 0
      · rw [if_pos a0]
      · have := rng_n (n := 30) (by omega) ha a0
        rw [if_neg a0, if_pos (by rw [Int32.le_iff_toInt_le] at this ⊢; rw [n32_toInt (by omega)] at this; show (30 : Int) ≤ a.toInt; omega)]
    · unfold f_X12_ahead
      rw [isIn_n _ z0 z29 (by omega), kb_s, if_pos rfl]
