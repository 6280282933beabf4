/-! cases AHEAD: the class's whole look, and the model -/
theorem x_lookAhead {h : KH} {c : Nat} (rc : RC h c) (rs : RS h) (rr : Rrule h c) (ry : Ryt h c) (rz : Rzero h) (rcm : Rcoming h) {v : Nat} (v30 : v ≤ 30) :
    ∃ g m, f_X11_lookAhead h 0 (Int32.ofNat v) = some g ∧ v ≤ m ∧ m ≤ 30 ∧ Xa h g c m := by
  obtain ⟨hr, hc, h5, hmm, -⟩ := id rc
  have c39 := hc.lt
  have ini : ∃ q m, m ≤ 30 ∧ Xa h q c m ∧ f_X11_lookAhead h 0 (Int32.ofNat v) = f_X11_lookAhead_b51 q 0 (Int32.ofNat v) := by
    obtain ⟨m, m30, em, y⟩ := rcm
    by_cases m0 : m = 0
    · rw [m0] at em
      have f1 := xcopy_fp h 158 64
      obtain ⟨x1, x2, x3⟩ := xcopy_cells h (v := 158) (w := 64) (by omega)
      have r1 := hr.fp f1
      have F1 : kfp Wah h (xcopy h 158 64) := f1.wide fun l i z => by unfold Wah; omega
      have rc1 := rc.ah F1
      have xs1 : XS (xcopy h 158 64) 64 := rs.xs.fp f1 fun l i z w => by omega
      have e2 := x_heard rc1 (St64 r1) xs1
      have ea : hbN (anX (xcopy h 158 64) 64) (kN (xcopy h 158 64) 198 4) = hdN h := by
        rw [← RS.hd rc rs]
        have : anX (xcopy h 158 64) 64 = anX h 64 := by
          funext t
          exact kN_same (f1.2.2.1 _ _ (by omega))
        rw [this, show kN (xcopy h 158 64) 198 4 = kN h 198 4 from kN_same (f1.2.2.1 _ _ (by omega))]
      rw [ea] at e2
      have hd := hdN_lt rc
      obtain ⟨g2, u1, u2, u3⟩ := x_moreT (St158 r1) hd.2 (T := tmM h) fun t ht => by
        rw [(x2 t ht).1, (rs.t ht).2]
        exact (rs.t ht).1
      have r2 := r1.fp u2
      have fz := xforget_fp g2 158
      obtain ⟨z1, z2⟩ := xforget_I g2 158
      have fa : kfp (fun l _ => 158 ≤ l ∧ l ≤ 161) h (xforget g2 158) := ((f1.wide fun l i z => by omega).tr (u2.wide fun l i z => by omega)).tr (fz.wide fun l i z => by omega)
      refine ⟨xforget g2 158, 0, by omega, ⟨fa.wide fun l i z => by unfold Wah; omega, ry.fp fa fun l i z w => ?_, rz.fp fa fun l i z w => by omega, by rw [fa.2.2.1 _ _ (by omega)]; exact em, ⟨fun t ht => ⟨⟨?_, tma_le rs 0 t ht⟩, z1 t ht, Nat.zero_le _⟩, fun i hi => ⟨z2 i hi, Nat.zero_le _⟩⟩, fun n hn => absurd hn (Nat.not_lt_zero _)⟩, ?_⟩
      · unfold Wlw at z
        rcases hc with rfl | rfl <;> omega
      · rw [fz.2.2.1 _ _ (by omega), u3 t ht, more_N (x := tmM h t) (rs.t ht).1.2, tma_0]
      · have e0 : kI h 155 3 = (0 : Int32) := em
        unfold f_X11_lookAhead
        rw [if_pos kk0, rf0_10 hr, if_pos (show 155 < 999999 by omega), if_pos kk155, if_pos e0, rf155_2 hr, if_pos (show 158 < 999999 by omega), rf0_7 hr, if_pos (show 64 < 999999 by omega), if_pos kk158, x_copyFrom (St158 hr) (St64 hr), kb_s, rf0_10 r1, if_pos (show 155 < 999999 by omega), if_pos kk155, rf155_2 r1, if_pos (show 158 < 999999 by omega), rf0_7 r1, if_pos (show 64 < 999999 by omega), if_pos kk64, e2, kb_s, if_pos kk158, u1, kb_s, rf0_10 r2, if_pos (show 155 < 999999 by omega), if_pos kk155, rf155_2 r2, if_pos (show 158 < 999999 by omega), if_pos kk158, x_forgetCase (St158 r2), kb_s]
    · rcases y with y | y
      · exact absurd y m0
      · refine ⟨h, m, m30, ⟨kfp.rf, ry, rz, em, y.1, y.2⟩, ?_⟩
        unfold f_X11_lookAhead
        rw [if_pos kk0, rf0_10 hr, if_pos (show 155 < 999999 by omega), if_pos kk155, if_neg (by rw [em, n32_ne0 (by omega)]; exact m0)]
  obtain ⟨q, m, m30, xq, eq⟩ := ini
  have rq := (rc.ah xq.1).1
  obtain ⟨g, e, m', a1, a2, a3⟩ := kloop_inv (body := f_X11_lookAhead_l59 0 (Int32.ofNat v)) (fun k s => s.1 = Int32.ofNat (m + k) ∧ Xa h s.2 c (m + k)) (fun r => ∃ m', v ≤ m' ∧ m' ≤ 30 ∧ Xa h r c m') (v - m) (s0 := (Int32.ofNat m, q)) (by omega) ⟨rfl, xq⟩ (fun k s hk hP => by
      obtain ⟨s1, g⟩ := s
      obtain ⟨p1, p2⟩ := hP
      dsimp only at p1 p2
      subst p1
      obtain ⟨g', b1, b2⟩ := x_ahStep rc rs rr p2 (by omega) v30 (by omega)
      exact ⟨_, b1, rfl, b2⟩) (fun s hP => by
      obtain ⟨s1, g⟩ := s
      obtain ⟨p1, p2⟩ := hP
      dsimp only at p1 p2
      subst p1
      refine ⟨g, ?_, m + (v - m), by omega, by omega, p2⟩
      unfold f_X11_lookAhead_l59
      dsimp only
      rw [if_pos (by rw [n32_le (by omega) (by omega)]; omega)])
  refine ⟨g, m', ?_, a1, a2, a3⟩
  rw [eq]
  unfold f_X11_lookAhead_b51
  rw [if_pos kk0, rf0_10 rq, if_pos (show 155 < 999999 by omega), if_pos kk155, kl_e, xq.2.2.2.1, e, kb_s]
theorem awN_cgT (h : KH) {T T' : Nat → Nat} (who : Nat) : ∀ n, (∀ t, t < n → T t = T' t) → awN h T who n = awN h T' who n
  | 0, _ => rfl
  | n + 1, e => by rw [awN, awN, awN_cgT h who n (fun t ht => e t (by omega)), e n (by omega)]
theorem paN_cgT {h : KH} {c : Nat} (rc : RC h c) {T T' : Nat → Nat} (e : ∀ t, t < 6 → T t = T' t) : paN h T = paN h T' := by
  have n4 := rc.2.2.2.1.2.1.1.2
  funext w
  unfold paN
  rw [awN_cgT h _ _ fun t ht => e t (by omega), awN_cgT h (2 * (w % 6) + w / 36) _ fun t ht => e t (by omega)]
/-- the model at the n-th case ahead -/
def Ma (h g : KH) (c n : Nat) : Prop := kfp Wsn h g ∧ Ryt g c ∧ Rzero g ∧ (∀ i, i < 24 → kI g 208 i = kI h 207 i) ∧ (∀ t, t < 6 → kI g 207 (2 + 2 * t) = Int32.ofNat (tma h n t) ∧ kI g 207 (2 + 2 * t + 1) = 0) ∧ (∀ i, i < 10 → kI g 207 (14 + i) = 0) ∧ kI g 207 0 = kI h 207 0 ∧ kI g 207 1 = kI h 207 1 ∧ ∀ i, kL g 207 i = kL h 207 i
theorem Ma.sc {h g g' : KH} {c n : Nat} (m : Ma h g c n) {W : Nat → Nat → Prop} (f : kfp W g g') (y : Ryt g' c) (z : Rzero g') (hW : ∀ l i, W l i → Wscr l i ∧ l ≠ 208) : Ma h g' c n := by
  obtain ⟨m1, m2, m3, m4, m5, m6, m7, m8, m9⟩ := m
  have I : ∀ l i, (l = 207 ∨ l = 208) → kI g' l i = kI g l i := fun l i e => f.2.2.1 l i fun w => by
    have := hW l i w
    unfold Wscr at this
    omega
  refine ⟨m1.tr (f.wide fun l i w => Or.inl (hW l i w).1), y, z, fun i hi => (I _ _ (by omega)).trans (m4 i hi), fun t ht => ?_, fun i hi => (I _ _ (by omega)).trans (m6 i hi), (I _ _ (by omega)).trans m7, (I _ _ (by omega)).trans m8, fun i => (f.2.2.2 _ _ fun w => by have := hW _ _ w; unfold Wscr at this; omega).trans (m9 i)⟩
  rw [I _ _ (by omega), I _ _ (by omega)]
  exact m5 t ht
theorem m_ahWorlds {h g : KH} {c n : Nat} (rc : RC h c) (rs : RS h) (rr : Rrule h c) (m : Ma h g c n) :
    ∃ p, f_X12_laysWorlds g 173 (1 : Int32) = some p ∧ Ma h p c n ∧ (∀ w, w < 72 → kL p 213 w = Int64.ofNat (fW h w)) ∧ kL p 173 56 = Int64.ofNat (aT (fW h) 72) ∧ ∀ s, s < 2 ^ kN h 198 4 → rN (fW h) (kX (paN h (tma h n)) s) = rN (fW h) (mK p s) := by
  obtain ⟨m1, m2, m3, m4, m5, m6, m7, m8, m9⟩ := id m
  obtain ⟨hr, hc, h5, hmm, -⟩ := id rc
  have c39 := hc.lt
  have n4 := hmm.2.1.1.2
  have rcg := rc.sn m1
  have law := Law.of m1
  have tl := tma_le rs n
  have tm : ∀ x, x < 6 → tmM g x = tma h n x := fun x hx => by
    have := tl x hx
    exact kN_of (m5 x hx).1 (by omega)
  have an : ∀ x, x < 6 → anN g x = 0 := fun x hx => kN_of (n := 0) (m5 x hx).2 (by omega)
  have lk : ∀ i, i < 10 → lkM g i = 0 := fun i hi => kN_of (n := 0) (m6 i hi) (by omega)
  have ms : MS g := by
    refine ⟨cn_of (n := kN h 207 0) (m7.trans rs.c.1.1) rs.c.1.2 (by omega), cn_of (n := kN h 207 1) (m8.trans rs.h.1.1) rs.h.1.2 (by omega), fun x hx => ⟨cn_of (m5 x hx).1 (tl x hx) (by omega), cn_of (n := 0) (m5 x hx).2 (by omega) (by omega), fun _ => an x hx⟩, fun i hi => ⟨cn_of (n := 0) (m6 i hi) (by omega) (by omega), fun _ => lk i hi⟩⟩
  obtain ⟨p, e, f, -, w⟩ := m_laysWorlds rcg (rr.sn hc m1) ms (fr := 1) (by omega) (fun _ => ⟨an, lk⟩)
  have eW : wtN g (tmM g) (anN g) (lkM g) = fW h := by
    rw [law.wt]
    exact wtN_fresh rc an (fun _ _ => rfl) lk
  rw [eW] at w
  have n41 : kN g 198 4 = kN h 198 4 := law.n (by omega) (by omega)
  refine ⟨p, e, m.sc f (m2.fp f fun l i z w => by unfold Wlw at z; unfold Wmw at w; rcases hc with rfl | rfl <;> omega) (m3.fp f fun l i z w => by unfold Wmw at w; omega) (fun l i z => ⟨Wmw.sc z, by unfold Wmw at z; omega⟩), w.1, w.2.1, fun s hs => ?_⟩
  have s6 : s < 64 := Nat.lt_of_lt_of_le hs (pow6 _ n4)
  refine rN_cg (kX_lt _ s6) (mK_lt p s6) (fun u v hu hv => ?_) 72
  have vu : vW h u := wtT_in hu
  have vv : vW h v := wtT_in hv
  have n31 : kN g 198 3 = kN h 198 3 := law.n (by omega) (by omega)
  have k := key_eq rcg (fun x hx => by rw [tm x hx]; exact tl x hx) (rr.sn hc m1) (g := p) (fun x hx => w.2.2 x hx.2.2 hx.1 hx.2.1) (s := s) (by rw [n41]; exact hs) (w := u) (v := v) (by unfold vW at vu ⊢; rw [n31]; exact vu) (by unfold vW at vv ⊢; rw [n31]; exact vv)
  rw [law.pa, paN_cgT rc tm] at k
  exact k
noncomputable def ahI (h : KH) (w n : Nat) : Int32 := if w = 0 then Int32.ofNat (bsa h n) else if w = 1 then Int32.ofNat (raN h n * 1000000 / aT (fW h) 72) else Int32.ofNat (hmN h (bsa h n) (kN h 198 4))
theorem m_ahMore {h g : KH} {c n : Nat} (rc : RC h c) (rs : RS h) (m : Ma h g c n) (v1 v2 w0 v4 : Int32) :
    ∃ g', kloop (f_X12_ahead_l140 173 v1 v2 w0 v4 (Int32.ofNat (bsa h n))) KF ((0 : Int32), g) = some g' ∧ Ma h g' c (n + 1) ∧ ∀ l i, kL g' l i = kL g l i := by
  obtain ⟨m1, m2, m3, m4, m5, m6, m7, m8, m9⟩ := id m
  obtain ⟨hr, hc, h5, hmm, -⟩ := id rc
  have c39 := hc.lt
  have n4 := hmm.2.1.1.2
  have rg := (rc.sn m1).1
  have law := Law.of m1
  have tl := tma_le rs n
  have bl := bsa_lt rc n
  have k4 : kI g 198 4 = Int32.ofNat (kN h 198 4) := by rw [law _ _ (by omega) (by omega)]; exact hmm.2.1.1.1
  have gen : ∀ (k : Nat) (q : KH), k < kN h 198 4 → kRefs q → kI q 198 4 = Int32.ofNat (kN h 198 4) → kI q 207 (2 + 2 * k) = Int32.ofNat (tma h n k) → f_X12_ahead_l140 173 v1 v2 w0 v4 (Int32.ofNat (bsa h n)) (Int32.ofNat k, q) = some (.inl (Int32.ofNat (k + 1), if bsa h n / 2 ^ k % 2 = 0 then q else if 99 ≤ tma h n k then q else ksI q 207 (2 + 2 * k) (Int32.ofNat (tma h n k + 1)))) := fun k q hk rq h198 htm => by
    unfold f_X12_ahead_l140 f_X12_ahead_b166
    dsimp only
    simp only [kl_e]
    rw [if_pos kk173, m_testMany rq, kb_s, h198, if_neg (by rw [n32_le (by omega) (by omega)]; omega), n32_bit (by omega) (by omega), ifP (n32_eql (by omega) (by omega)), n32_addl, m_isHeardMore rq (by omega) htm (tl k (by omega)), kb_s]
    by_cases b : bsa h n / 2 ^ k % 2 = 0
    · rw [if_neg (by omega), if_pos b]
    · rw [if_pos (by omega), if_neg b]
  obtain ⟨g1, e1, f1, t1⟩ := m_moreLoop rg k4 n4 bl.1 (tma h n) (fun t ht => ⟨(m5 t ht).1, tl t ht⟩) (f_X12_ahead_l140 173 v1 v2 w0 v4 (Int32.ofNat (bsa h n))) gen (fun q rq h198 => by
    unfold f_X12_ahead_l140
    dsimp only
    rw [if_pos kk173, m_testMany rq, kb_s, h198, if_pos (by rw [n32_le (by omega) (by omega)]; omega)])
  obtain ⟨g1', e1', P1, P2⟩ := kloop_inv (body := f_X12_ahead_l140 173 v1 v2 w0 v4 (Int32.ofNat (bsa h n))) (fun k s => s.1 = Int32.ofNat k ∧ kRefs s.2 ∧ kI s.2 198 4 = Int32.ofNat (kN h 198 4) ∧ (∀ t, k ≤ t → t < 6 → kI s.2 207 (2 + 2 * t) = Int32.ofNat (tma h n t)) ∧ ∀ l i, kL s.2 l i = kL g l i) (fun r => kRefs r ∧ ∀ l i, kL r l i = kL g l i) (kN h 198 4) (s0 := ((0 : Int32), g)) (by omega) ⟨rfl, rg, k4, fun t _ ht => (m5 t ht).1, fun _ _ => rfl⟩ (fun k s hk hP => by
      obtain ⟨s1, q⟩ := s
      obtain ⟨p1, p2, p3, p4, p5⟩ := hP
      dsimp only at p1 p2 p3 p4 p5
      subst p1
      refine ⟨_, gen k q hk p2 p3 (p4 k (Nat.le_refl _) (by omega)), rfl, ?_⟩
      dsimp only
      by_cases b : bsa h n / 2 ^ k % 2 = 0
      · rw [if_pos b]
        exact ⟨p2, p3, fun t a b => p4 t (by omega) b, p5⟩
      · rw [if_neg b]
        by_cases d : 99 ≤ tma h n k
        · rw [if_pos d]
          exact ⟨p2, p3, fun t a b => p4 t (by omega) b, p5⟩
        · rw [if_neg d]
          exact ⟨p2.sI _ _ _, by rw [kI_sI, if_neg (by omega)]; exact p3, fun t a b => by rw [kI_sI, if_neg (by omega)]; exact p4 t (by omega) b, fun l i => (kL_sI).trans (p5 l i)⟩) (fun s hP => by
      obtain ⟨s1, q⟩ := s
      obtain ⟨p1, p2, p3, p4, p5⟩ := hP
      dsimp only at p1 p2 p3 p4 p5
      subst p1
      refine ⟨q, ?_, p2, p5⟩
      unfold f_X12_ahead_l140
      dsimp only
      rw [if_pos kk173, m_testMany p2, kb_s, p3, if_pos (by rw [n32_le (by omega) (by omega)]; omega)])
  rw [e1] at e1'
  cases e1'
  refine ⟨g1, e1, ⟨m1.tr (f1.wide fun l i z => Or.inr ⟨z.1, by omega⟩), m2.fp f1 fun l i z w => ?_, m3.fp f1 fun l i z w => by omega, fun i hi => by rw [f1.2.2.1 _ _ (by omega)]; exact m4 i hi, fun t ht => ⟨?_, ?_⟩, fun i hi => by rw [f1.2.2.1 _ _ (by omega)]; exact m6 i hi, by rw [f1.2.2.1 _ _ (by omega)]; exact m7, by rw [f1.2.2.1 _ _ (by omega)]; exact m8, fun i => (P2 _ _).trans (m9 i)⟩, P2⟩
  · unfold Wlw at z
    rcases hc with rfl | rfl <;> omega
  · rw [t1 t ht, tma_s]
  · rw [f1.2.2.1 _ _ (by omega)]
    exact (m5 t ht).2
/-- one turn of the model -/
theorem m_ahStep {h g : KH} {c n : Nat} (rc : RC h c) (rs : RS h) (rr : Rrule h c) (m : Ma h g c n) (ga : kL g 173 56 = Int64.ofNat (aT (fW h) 72)) (a0 : aT (fW h) 72 ≠ 0) {v w : Nat} (hv : v < 30) (hw : w < 3) (hn : n ≤ v) (x : Int32) :
    ∃ g', f_X12_ahead_l73 173 (Int32.ofNat v) (Int32.ofNat w) (x, Int32.ofNat n, g) = some (.inl (ahI h w n, Int32.ofNat (n + 1), g')) ∧ Ma h g' c (n + 1) ∧ kL g' 173 56 = Int64.ofNat (aT (fW h) 72) := by
  obtain ⟨hr, hc, h5, hmm, -⟩ := id rc
  have c39 := hc.lt
  have n4 := hmm.2.1.1.2
  have wb : ∀ w, fW h w ≤ 27960524111619 := fun w => wt_le rc _ _ _ w
  have ab := aT_wb wb
  obtain ⟨p, e1, mp, pw, pa, pk⟩ := m_ahWorlds rc rs rr m
  have rcp := rc.sn mp.1
  have rp := rcp.1
  have law := Law.of mp.1
  have n41 : kN p 198 4 = kN h 198 4 := law.n (by omega) (by omega)
  have bl := bsa_lt rc n
  obtain ⟨p2, e2, f2, z2⟩ := m_bestSet rcp kfp.rf wb pw pa mp.2.2.1 a0 (hd := 0) (Nat.pow_pos (by omega)) (P := paN h (tma h n)) (by rw [n41]; exact pk)
  rw [law.bs, n41, Nat.sub_zero] at e2
  have eb : bsN h (fW h) (paN h (tma h n)) 0 = bsa h n := by unfold bsa; rw [if_neg a0]
  rw [eb] at e2
  have e0 := m_allTests rcp
  rw [n41] at e0
  have mp2 : Ma h p2 c n := mp.sc f2 (mp.2.1.fp f2 fun l i z w => by unfold Wlw at z; unfold W15 at w; rcases hc with rfl | rfl <;> omega) z2 (fun l i z => ⟨z.sc, by unfold W15 at z; omega⟩)
  have rp2 := (rc.sn mp2.1).1
  have a2 : kL p2 173 56 = Int64.ofNat (aT (fW h) 72) := by rw [f2.2.2.2 _ _ (by unfold W15; omega)]; exact pa
  have fin : ∀ q (y : Int32), Ma h q c n → kL q 173 56 = Int64.ofNat (aT (fW h) 72) → ∃ g', f_X12_ahead_b136 q 173 (Int32.ofNat v) (Int32.ofNat w) (Int32.ofNat n) (Int32.ofNat (bsa h n)) y = some (.inl (y, Int32.ofNat (n + 1), g')) ∧ Ma h g' c (n + 1) ∧ kL g' 173 56 = Int64.ofNat (aT (fW h) 72) := fun q y mq aq => by
    obtain ⟨g', k1, k2, k3⟩ := m_ahMore rc rs mq (Int32.ofNat v) (Int32.ofNat w) y (Int32.ofNat n)
    refine ⟨g', ?_, k2, by rw [k3]; exact aq⟩
    unfold f_X12_ahead_b136
    rw [k1, kb_s, n32_addl, kl_e]
  unfold f_X12_ahead_l73
  dsimp only
  rw [if_neg (by rw [n32_lt (by omega) (by omega)]; omega), if_pos kk173, ga, if_neg (by rw [show (0 : Int64) = Int64.ofNat 0 from rfl, lgn_le0 (by omega) (by omega)]; omega), e1, kb_s, e0, kb_s, e2, kb_s]
  dsimp only
  by_cases y0 : w = 0
  · obtain ⟨g', k1, k2, k3⟩ := fin p2 (Int32.ofNat (bsa h n)) mp2 a2
    refine ⟨g', ?_, k2, k3⟩
    rw [if_pos (by rw [y0]; rfl), k1]
    unfold ahI
    rw [if_pos y0]
  · rw [if_neg (by rw [n32_ne0 (by omega)]; exact y0)]
    by_cases y1 : w = 1
    · obtain ⟨p3, e3, f3, z3⟩ := m_rightBy rp2 wb (fun w hw => by rw [f2.2.2.2 _ _ (by unfold W15; omega)]; exact pw w hw) z2 bl.2
      have f3' : kfp W15 p2 p3 := f3.wide fun l i z => z
      have er : rN (fW h) (mK p2 (bsa h n)) = raN h n := by
        rw [mK_same (g := p) (g' := p2) fun i => f2.2.2.1 _ _ (by unfold W15; omega)]
        exact (pk _ bl.1).symm
      rw [er] at e3
      have mp3 : Ma h p3 c n := mp2.sc f3' (mp2.2.1.fp f3' fun l i z w => by unfold Wlw at z; unfold W15 at w; rcases hc with rfl | rfl <;> omega) z3 (fun l i z => ⟨z.sc, by unfold W15 at z; omega⟩)
      have a3 : kL p3 173 56 = Int64.ofNat (aT (fW h) 72) := by rw [f3'.2.2.2 _ _ (by unfold W15; omega)]; exact a2
      obtain ⟨g', k1, k2, k3⟩ := fin p3 (Int32.ofNat (raN h n * 1000000 / aT (fW h) 72)) mp3 a3
      refine ⟨g', ?_, k2, k3⟩
      rw [if_pos (by rw [y1]; rfl), e3, kb_s]
      dsimp only
      have rl : raN h n ≤ aT (fW h) 72 := rN_le _ _ (kX_lt _ bl.2)
      rw [m_millionths a3 rl ab a0, kb_s, k1]
      unfold ahI
      rw [if_neg y0, if_pos y1]
    · have eh := m_harmOf (rc.sn mp2.1) (s := bsa h n) (by omega)
      have law2 := Law.of mp2.1
      rw [law2.hm, law2.n (l := 198) (i := 4) (by omega) (by omega)] at eh
      obtain ⟨g', k1, k2, k3⟩ := fin p2 (Int32.ofNat (hmN h (bsa h n) (kN h 198 4))) mp2 a2
      refine ⟨g', ?_, k2, k3⟩
      rw [if_neg (by rw [n32_eql (by omega) (by omega)]; exact y1), eh, kb_s, k1]
      unfold ahI
      rw [if_neg y0, if_neg y1]
