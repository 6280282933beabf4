/-! one case by draws: the model -/
theorem m_fresh {h g : KH} {c : Nat} (rc : RC h c) (rcg : RC g c) (rrg : Rrule g c) (law : Law h g) (ms : MS g) {T : Nat → Nat} (tm : ∀ t, t < 6 → tmM g t = T t) (tl : ∀ t, t < 6 → T t ≤ 99) (an : ∀ t, t < 6 → anN g t = 0) (lk : ∀ i, i < 10 → lkM g i = 0) :
    ∃ p, f_X12_laysWorlds g 173 (1 : Int32) = some p ∧ kfp Wmw g p ∧ (∀ w, w < 72 → kL p 213 w = Int64.ofNat (fW h w)) ∧ kL p 173 56 = Int64.ofNat (aT (fW h) 72) ∧ (∀ v, vW h v → ∃ a, a < 4096 ∧ kI p 214 v = Int32.ofNat a) ∧ ∀ s, s < 2 ^ kN h 198 4 → ∀ u v, vW h u → vW h v → (kX (paN h T) s u = kX (paN h T) s v ↔ mK p s u = mK p s v) := by
  have n41 : kN g 198 4 = kN h 198 4 := law.n (by omega) (by omega)
  have n31 : kN g 198 3 = kN h 198 3 := law.n (by omega) (by omega)
  obtain ⟨p, e, f, -, w⟩ := m_laysWorlds rcg rrg ms (fr := 1) (by omega) (fun _ => ⟨an, lk⟩)
  have eW : wtN g (tmM g) (anN g) (lkM g) = fW h := by
    rw [law.wt]
    exact wtN_fresh rc an (fun _ _ => rfl) lk
  rw [eW] at w
  have tg : ∀ t, t < 6 → tmM g t ≤ 99 := fun t ht => by rw [tm t ht]; exact tl t ht
  have vg : ∀ v, vW h v → vW g v := fun v z => by unfold vW at z ⊢; rw [n31]; exact z
  refine ⟨p, e, f, w.1, w.2.1, fun v z => ⟨maN g v (kN g 198 4), ma_lt rcg tg rrg (vg v z), w.2.2 v z.2.2 (vg v z).1 (vg v z).2.1⟩, fun s hs u v hu hv => ?_⟩
  have k := key_eq rcg tg rrg (g := p) (fun x hx => w.2.2 x hx.2.2 hx.1 hx.2.1) (s := s) (by rw [n41]; exact hs) (w := u) (v := v) (vg u hu) (vg v hv)
  rw [law.pa, paN_cgT rc tm] at k
  exact k
theorem fW_out {h : KH} {v : Nat} (z : ¬ vW h v) : fW h v = 0 := by
  unfold fW wtN
  exact if_neg z
theorem m_likelier {h p : KH} {c : Nat} (rc : RC h c) (rp : kRefs p) {T : Nat → Nat} (pw : ∀ w, w < 72 → kL p 213 w = Int64.ofNat (fW h w)) (pa : ∀ v, vW h v → ∃ a, a < 4096 ∧ kI p 214 v = Int32.ofNat a) (pk : ∀ s, s < 2 ^ kN h 198 4 → ∀ u v, vW h u → vW h v → (kX (paN h T) s u = kX (paN h T) s v ↔ mK p s u = mK p s v)) {s w : Nat} (hs : s < 2 ^ kN h 198 4) (vw : vW h w) :
    f_X12_likelier p 173 (Int32.ofNat s) (Int32.ofNat w) = some (Int32.ofNat (whN h T s w)) := by
  have n4 := rc.2.2.2.1.2.1.1.2
  have s6 : s < 64 := Nat.lt_of_lt_of_le hs (pow6 _ n4)
  have w72 := vw.2.2
  have mk := mk4_lt s s6
  have wb : ∀ w, fW h w ≤ 27960524111619 := fun w => wt_le rc _ _ _ w
  have ab := aT_wb wb
  obtain ⟨K, hK⟩ : ∃ K, kX (paN h T) s = K := ⟨_, rfl⟩
  have gl : ∀ tr n, n ≤ 72 → gS (fW h) K tr (K w) n ≤ 27960524111619 * 72 := fun tr n hn => by
    have a : gS (fW h) K tr (K w) n ≤ aT (fW h) n := pS_le _ _ n
    have b := aT_le wb n
    have : n * 27960524111619 ≤ 72 * 27960524111619 := Nat.mul_le_mul_right _ hn
    omega
  obtain ⟨aw, aw1, aw2⟩ := pa w vw
  have e := kloop_for (body := f_X12_likelier_l14 p 173 (Int32.ofNat w) (Int32.ofNat (mk4 s 6))) (fun n => (Int64.ofNat (gS (fW h) K 0 (K w) n), Int64.ofNat (gS (fW h) K 1 (K w) n), Int32.ofNat n)) 72 (Int64.ofNat (gS (fW h) K 0 (K w) 72), Int64.ofNat (gS (fW h) K 1 (K w) 72)) (by omega) (fun n hn => by
    unfold f_X12_likelier_l14 f_X12_likelier_b78
    dsimp only
    simp only [kl_e]
    rw [if_neg (by rw [n32_ler (by omega) (by omega)]; omega), if_pos kk173, rf173_55 rp, if_pos (show 214 < 999999 by omega), if_pos kk214, kn214, if_neg (by rw [n32_cl (by omega)]; exact fun z => z.elim (n32_nn (by omega)) (by omega)), if_neg (by rw [n32_cl (by omega)]; exact fun z => z.elim (n32_nn (by omega)) (by omega)), n32_cl (show n < 2147483648 by omega), n32_cl (show w < 2147483648 by omega), m_truthOf p hn, kb_s, rf173_54 rp, n32_addl, pw n hn, n64_add, n64_add, gS_s, gS_s]
    have gd : (Int32.ofNat n < 0 ∨ 72 ≤ n) = False := eq_false fun z => z.elim (n32_nn (by omega)) (by omega)
    simp only [kk213, kn213, gd, if_true, if_false, Nat.reduceLT]
    by_cases vv : vW h n
    · obtain ⟨an, an1, an2⟩ := pa n vv
      have ek : ((kI p 214 n ^^^ kI p 214 w) &&& Int32.ofNat (mk4 s 6) = 0) ↔ K n = K w := by
        rw [an2, aw2, n32_xor, n32_and]
        have l : (an ^^^ aw) &&& mk4 s 6 ≤ mk4 s 6 := Nat.and_le_right
        have la : an &&& mk4 s 6 ≤ mk4 s 6 := Nat.and_le_right
        have lb : aw &&& mk4 s 6 ≤ mk4 s 6 := Nat.and_le_right
        rw [n32_ne0 (by omega), xor_land, ← hK, pk s hs n w vv vw]
        unfold mK
        rw [an2, aw2, n32_and, n32_and, n32_cl (by omega), n32_cl (by omega)]
      by_cases y : K n = K w
      · rw [if_pos (ek.mpr y)]
        by_cases z : n / 36 = 0
        · rw [if_pos (by rw [z]; rfl), if_pos ⟨z, y⟩, if_neg (fun u => by omega)]
          rfl
        · rw [if_neg (by rw [n32_ne0 (by omega)]; exact z), if_neg (fun u => z u.1), if_pos ⟨by omega, y⟩]
          rfl
      · rw [if_neg (fun z => y (ek.mp z)), if_neg (fun z => y z.2), if_neg (fun z => y z.2)]
        rfl
    · have z0 := fW_out vv
      have i0 : ∀ (q : Prop) [Decidable q], (if q then fW h n else 0) = 0 := fun q _ => by rw [z0]; split <;> rfl
      rw [i0, i0, z0, Nat.add_zero, Nat.add_zero]
      split
      · split <;> rfl
      · rfl) (by
    unfold f_X12_likelier_l14
    dsimp only
    rw [if_pos (by decide)])
  have e' : kloop (f_X12_likelier_l14 p 173 (Int32.ofNat w) (Int32.ofNat (mk4 s 6))) KF ((0 : Int64), (0 : Int64), (0 : Int32)) = some (Int64.ofNat (gS (fW h) K 0 (K w) 72), Int64.ofNat (gS (fW h) K 1 (K w) 72)) := e
  unfold f_X12_likelier
  rw [m_maskOf p s6, kb_s, e', kb_s]
  dsimp only
  have g0 := gl 0 72 (Nat.le_refl _)
  have g1 := gl 1 72 (Nat.le_refl _)
  unfold whN
  rw [hK]
  by_cases y : gS (fW h) K 0 (K w) 72 < gS (fW h) K 1 (K w) 72
  · rw [if_pos (by rw [lgn_lt (by omega) (by omega)]; exact y), if_pos y]
    rfl
  · rw [if_neg (by rw [lgn_lt (by omega) (by omega)]; exact y), if_neg y]
    rfl
def Wmx (l i : Nat) : Prop := Wscr l i ∨ (l = 207 ∧ i < 185) ∨ (l = 173 ∧ i = 63)
/-- the model's cells as they are so far -/
def Mc (h0 g : KH) (c C0 K0 : Nat) (s : CS) : Prop := kfp Wmx h0 g ∧ Ryt g c ∧ Rzero g ∧ kL g 173 63 = Int64.ofNat s.1 ∧ kI g 207 0 = Int32.ofNat (C0 + s.2.2.1) ∧ kI g 207 1 = Int32.ofNat s.2.2.2.1 ∧ kI g 207 24 = Int32.ofNat (min (K0 + s.2.2.1) 40) ∧ (∀ t, t < 6 → kI g 207 (2 + 2 * t) = Int32.ofNat (s.2.1 t) ∧ kI g 207 (2 + 2 * t + 1) = 0) ∧ (∀ i, i < 10 → kI g 207 (14 + i) = 0) ∧ ∀ j, j < min (K0 + s.2.2.1) 40 → ∀ i, i < 4 → kI g 207 (25 + 4 * j + i) = s.2.2.2.2 (K0 + s.2.2.1 - min (K0 + s.2.2.1) 40 + j) i
theorem RC.mx {h h' : KH} {c : Nat} (rc : RC h c) (x : kfp Wmx h h') : RC h' c := rc.fp x fun l i z y => by
  rcases y with y | y
  · exact Wct.sc rc.2.1 z y
  · have := rc.2.1.lt
    unfold Wct at z
    rcases rc.2.1 with r | r <;> omega
theorem Rrule.mx {h h' : KH} {c : Nat} (hc : ctc c) (rr : Rrule h c) (x : kfp Wmx h h') : Rrule h' c := rr.fp x fun l i z => by
  unfold Wmx Wscr
  rcases hc with rfl | rfl <;> omega
theorem Law.tr {a b d : KH} (x : Law a b) (y : Law b d) : Law a d := fun l i p q => (y l i p q).trans (x l i p q)
theorem Law.mx {h h' : KH} (x : kfp Wmx h h') : Law h h' := fun l i a b => x.2.2.1 l i (by unfold Wmx Wscr; omega)
theorem Mc.seed {h0 g : KH} {c C0 K0 : Nat} {s : CS} (x : Mc h0 g c C0 K0 s) (hc : ctc c) (d : Nat) : Mc h0 (ksL g 173 63 (Int64.ofNat d)) c C0 K0 (d, s.2) := by
  obtain ⟨x1, x2, x3, x4, x5, x6, x7, x8, x9, x10⟩ := x
  have f : kfp (fun l i => l = 173 ∧ i = 63) g (ksL g 173 63 (Int64.ofNat d)) := kfp.rf.sL _ ⟨rfl, rfl⟩
  have I : ∀ l i, l ≠ 173 → kI (ksL g 173 63 (Int64.ofNat d)) l i = kI g l i := fun l i z => f.2.2.1 _ _ (by omega)
  refine ⟨x1.tr (f.wide fun l i z => by unfold Wmx; omega), x2.fp f fun l i z w => ?_, x3.fp f fun l i z w => by omega, by rw [kL_sL, if_pos ⟨rfl, rfl⟩], (I _ _ (by omega)).trans x5, (I _ _ (by omega)).trans x6, (I _ _ (by omega)).trans x7, fun t ht => ?_, fun i hi => (I _ _ (by omega)).trans (x9 i hi), fun x a i hi => (I _ _ (by omega)).trans (x10 x a i hi)⟩
  · unfold Wlw at z
    rcases hc with rfl | rfl <;> omega
  · rw [I _ _ (by omega), I _ _ (by omega)]
    exact x8 t ht
theorem m_case53 {h h0 q g : KH} {c C0 K0 d : Nat} {s : CS} (rc : RC h c) (rc0 : RC h0 c) (rr0 : Rrule h0 c) (law0 : Law h h0) (b : CB h s) (x : Mc h0 g c C0 K0 (nxD h d, s.2)) (ed : s.1 = d) (ok : okD h d) (C9 : C0 + s.2.2.1 < 9999) (K9 : K0 ≤ C0)
    (e0 : f_X12_drawnKind q 173 (Int32.ofNat (trD h d)) = some (Int32.ofNat (oD h d), g)) :
    ∃ g', f_X12_caseGoes_b53 q 173 (Int32.ofNat (trD h d)) (Int32.ofNat (zD h d)) 173 (Int32.ofNat (trD h d)) = some (Int32.ofNat (if whN h s.2.1 (setD h s.2.1) (wD h d) = trD h d then 1 else 0), g') ∧ Mc h0 g' c C0 K0 (cgo h K0 (nxD h d) s) := by
  obtain ⟨hr, hc, h5, hm, -⟩ := id rc
  have c39 := hc.lt
  have n3 := hm.1.1.2
  have n4 := hm.2.1.1.2
  obtain ⟨d0, T, m, H, R⟩ := s
  dsimp only at b x C9 ⊢
  obtain ⟨b1, b2, b3⟩ := b
  dsimp only at b1 b2 b3 ed
  subst ed
  obtain ⟨S, hS⟩ : ∃ S, setD h T = S := ⟨_, rfl⟩
  obtain ⟨w, hw⟩ : ∃ w, wD h d0 = w := ⟨_, rfl⟩
  obtain ⟨v1, v2, v3, v4, v5, v6, v7⟩ := wD_at rc ok
  rw [hw] at v3 v4 v5 v6 v7
  have t2 := trD_lt h d0
  have ew : w = 36 * trD h d0 + 6 * zD h d0 + oD h d0 := by rw [← hw]; rfl
  have sl := setD_lt rc T
  rw [hS] at sl
  have tl : ∀ t, t < 6 → T t ≤ 99 := fun t ht => (b2 t ht).1
  obtain ⟨x1, x2, x3, x4, x5, x6, x7, x8, x9, x10⟩ := id x
  dsimp only at x4 x5 x6 x7 x8 x9 x10
  have rcg := rc0.mx x1
  have rg := rcg.1
  have law := law0.tr (Law.mx x1)
  have wb : ∀ w, fW h w ≤ 27960524111619 := fun w => wt_le rc _ _ _ w
  have a0 : aT (fW h) 72 ≠ 0 := fun z => by
    have := aT_lev (fW h) 72 w v3.2.2
    omega
  have n41 : kN g 198 4 = kN h 198 4 := law.n (by omega) (by omega)
  have n51 : kN g 198 5 = kN h 198 5 := law.n (by omega) (by omega)
  have msg : ∀ q, (∀ i, kI q 207 i = kI g 207 i) → MS q := fun q eq =>
    ⟨cn_of ((eq _).trans x5) (by omega) (by omega), cn_of ((eq _).trans x6) b3 (by omega), fun t ht => ⟨cn_of ((eq _).trans (x8 t ht).1) (tl t ht) (by omega), cn_of (n := 0) ((eq _).trans (x8 t ht).2) (by omega) (by omega), fun _ => kN_of (n := 0) ((eq _).trans (x8 t ht).2) (by omega)⟩, fun i hi => ⟨cn_of (n := 0) ((eq _).trans (x9 i hi)) (by omega) (by omega), fun _ => kN_of (n := 0) ((eq _).trans (x9 i hi)) (by omega)⟩⟩
  obtain ⟨p, e1, f1, pw, pa, pm, pk⟩ := m_fresh rc rcg (rr0.mx hc x1) law (msg g fun _ => rfl) (T := T) (fun t ht => kN_of (x8 t ht).1 (by have := tl t ht; omega)) tl (fun t ht => kN_of (n := 0) (x8 t ht).2 (by omega)) (fun i hi => kN_of (n := 0) (x9 i hi) (by omega))
  have F1 : kfp Wmx h0 p := x1.tr (f1.wide fun l i z => Or.inl (Wmw.sc z))
  have rcp := rc0.mx F1
  have rp := rcp.1
  have lawp := law0.tr (Law.mx F1)
  have n4p : kN p 198 4 = kN h 198 4 := lawp.n (by omega) (by omega)
  have y1 : Ryt p c := x2.fp f1 fun l i z w => by unfold Wlw at z; unfold Wmw at w; rcases hc with rfl | rfl <;> omega
  have z1 : Rzero p := x3.fp f1 fun l i z w => by unfold Wmw at w; omega
  obtain ⟨p2, e2, f2, z2⟩ := m_bestSet rcp kfp.rf wb pw pa z1 a0 (hd := 0) (Nat.pow_pos (by omega)) (P := paN h T) (by
    rw [n4p]
    intro s' hs'
    have s6 : s' < 64 := Nat.lt_of_lt_of_le hs' (pow6 _ n4)
    exact rN_cg (kX_lt _ s6) (mK_lt p s6) (fun u v hu hv => pk s' hs' u v (wtT_in hu) (wtT_in hv)) 72)
  rw [lawp.bs, n4p, Nat.sub_zero] at e2
  have e2' : f_X12_bestSet p 173 (Int32.ofNat (2 ^ kN h 198 4 - 1)) = some (Int32.ofNat S, p2) := by rw [← hS]; exact e2
  have ea := m_allTests rcp
  rw [n4p] at ea
  have F2 : kfp Wmx h0 p2 := F1.tr (f2.wide fun l i z => Or.inl z.sc)
  have rc2 := rc0.mx F2
  have r2 := rc2.1
  have law2 := law0.tr (Law.mx F2)
  have n42 : kN p2 198 4 = kN h 198 4 := law2.n (by omega) (by omega)
  have y2 : Ryt p2 c := y1.fp f2 fun l i z w => by unfold Wlw at z; unfold W15 at w; rcases hc with rfl | rfl <;> omega
  have i2 : ∀ i, kI p2 207 i = kI g 207 i := fun i => by rw [f2.2.2.1 _ _ (by unfold W15; omega), f1.2.2.1 _ _ (by unfold Wmw; omega)]
  have el := m_likelier rc r2 (T := T) (fun w hw => by rw [f2.2.2.2 _ _ (by unfold W15; omega)]; exact pw w hw) (fun v hv => by rw [f2.2.2.1 _ _ (by unfold W15; omega)]; exact pm v hv) (fun s' hs' u v hu hv => by rw [mK_same (g := p) (g' := p2) fun i => f2.2.2.1 _ _ (by unfold W15; omega)]; exact pk s' hs' u v hu hv) sl.1 v3
  obtain ⟨who, hwho⟩ : ∃ n, whN h T S w = n := ⟨_, rfl⟩
  have who2 : who < 2 := by rw [← hwho]; exact whN_lt _ _ _ _
  rw [hwho] at el
  obtain ⟨rt, hrt⟩ : ∃ n, (if who = trD h d0 then 1 else 0) = n := ⟨_, rfl⟩
  obtain ⟨g5, e5, f5, q0, q1, q2, q3, q4, q5, q6, q7, q8, q9⟩ := m_isJudged rc2 (msg p2 i2) (q := min (K0 + m) 40) ((i2 _).trans x7) (Nat.min_le_right _ _) (Int32.ofNat who) (Int32.ofNat rt) (s := S) (by rw [n42]; exact sl.1)
  have ehm : hmN p2 S (kN p2 198 4) = hmN h S (kN h 198 4) := by rw [law2.hm, n42]
  have k0 : kN p2 207 0 = C0 + m := kN_of ((i2 _).trans x5) (by omega)
  have k1 : kN p2 207 1 = H := kN_of ((i2 _).trans x6) (by omega)
  have kt : ∀ t, t < 6 → kN p2 207 (2 + 2 * t) = T t := fun t ht => kN_of ((i2 _).trans (x8 t ht).1) (by have := tl t ht; omega)
  rw [k0] at q0
  rw [k1, ehm] at q1
  rw [ehm] at q7
  have emin : min 40 (min (K0 + m) 40 + 1) = min (K0 + m + 1) 40 := by omega
  rw [emin] at q4 q5 q6 q7 q8 q9
  have tail : ∀ (r : Int32), r = Int32.ofNat rt → f_X12_caseGoes_b114 p2 (Int32.ofNat (trD h d0)) (Int32.ofNat who) 173 (Int32.ofNat who) (Int32.ofNat S) r = some (Int32.ofNat rt, g5) := fun r er => by
    unfold f_X12_caseGoes_b114
    rw [er, if_pos kk173, e5, kb_s]
    by_cases y : who = trD h d0
    · rw [if_pos (by rw [y])]
      rw [if_pos y] at hrt
      rw [← hrt]
      rfl
    · rw [if_neg (by rw [n32_eq (by omega) (by omega)]; exact y)]
      rw [if_neg y] at hrt
      rw [← hrt]
      rfl
  refine ⟨g5, ?_, ?_⟩
  · unfold f_X12_caseGoes_b53
    rw [if_pos kk173, e0, kb_s]
    dsimp only
    rw [if_neg (by rw [n32_eqm (by omega)]; exact fun z => z), if_pos kk173, e1, kb_s, ea, kb_s, e2', kb_s]
    dsimp only
    rw [n32_mulr, n32_mulr, n32_add, n32_add, ← ew, el, kb_s, hS, hw, hwho, hrt]
    by_cases y : who = trD h d0
    · rw [if_pos (by rw [y])]
      exact tail 1 (by rw [← hrt, if_pos y]; rfl)
    · rw [if_neg (by rw [n32_eq (by omega) (by omega)]; exact y)]
      exact tail 0 (by rw [← hrt, if_neg y]; rfl)
  · refine ⟨F2.tr (f5.wide fun l i z => Or.inr (Or.inl z)), y2.fp f5 fun l i z w => ?_, z2.fp f5 fun l i z w => by omega, ?_, q0, ?_, q4, fun t ht => ⟨?_, (q2 t ht).2⟩, q3, fun j hj i hi => ?_⟩
    · unfold Wlw at z
      rcases hc with rfl | rfl <;> omega
    · rw [f5.2.2.2 _ _ (by omega), f2.2.2.2 _ _ (by unfold W15; omega), f1.2.2.2 _ _ (by unfold Wmw; omega)]
      exact x4
    · show _ = Int32.ofNat (min 9999 (H + hmN h (setD h T) (kN h 198 4)))
      rw [hS]
      exact q1
    · show _ = Int32.ofNat (moreN (setD h T) (T t) t)
      rw [hS, (q2 t ht).1, kt t ht]
    · have hj' : j < min (K0 + m + 1) 40 := hj
      show _ = if K0 + (m + 1) - min (K0 + (m + 1)) 40 + j = K0 + m then rowD h d0 T i else R (K0 + (m + 1) - min (K0 + (m + 1)) 40 + j) i
      rw [show K0 + (m + 1) = K0 + m + 1 by omega]
      by_cases y : j + 1 < min (K0 + m + 1) 40
      · rw [if_neg (by omega), q5 j y i hi, i2, x10 _ (by split <;> omega) i hi]
        congr 1
        split <;> omega
      · rw [if_pos (by omega), show 25 + 4 * j + i = 25 + 4 * (min (K0 + m + 1) 40 - 1) + i by omega]
        unfold rowD
        rw [hS, hw, hwho, hrt]
        have e : i = 0 ∨ i = 1 ∨ i = 2 ∨ i = 3 := by omega
        rcases e with rfl | rfl | rfl | rfl
        · rw [if_pos rfl, q6]
        · rw [if_neg (by omega), if_pos rfl, q7]
        · rw [if_neg (by omega), if_neg (by omega), if_pos rfl, q8]
        · rw [if_neg (by omega), if_neg (by omega), if_neg (by omega), q9]
/-- a case, by the model -/
theorem m_case {h h0 g : KH} {c C0 K0 : Nat} {s : CS} (rc : RC h c) (rc0 : RC h0 c) (rr0 : Rrule h0 c) (law0 : Law h h0) (b : CB h s) (x : Mc h0 g c C0 K0 s) (C9 : C0 + s.2.2.1 < 9999) (K9 : K0 ≤ C0) :
    ∃ g', f_X12_caseGoes g 173 = some (Int32.ofNat (rgD h s), g') ∧ Mc h0 g' c C0 K0 (cst h K0 s) := by
  obtain ⟨hr, hc, h5, hm, -⟩ := id rc
  have c39 := hc.lt
  have ff := hm.2.2.2.1.1.2
  obtain ⟨d, hd⟩ : ∃ d, s.1 = d := ⟨_, rfl⟩
  have dl : d < 2147483648 := by rw [← hd]; exact b.1
  have t2 := trD_lt h d
  have d1 : kL g 173 63 = Int64.ofNat d := by rw [← hd]; exact x.2.2.2.1
  obtain ⟨g1, eg1⟩ : ∃ g1, g1 = ksL g 173 63 (Int64.ofNat (drN d)) := ⟨_, rfl⟩
  have X1 : Mc h0 g1 c C0 K0 (drN d, s.2) := by rw [eg1]; exact x.seed hc _
  have r1 := (rc0.mx X1.1).1
  have law1 := law0.tr (Law.mx X1.1)
  have k1 := m_drawnKind rc r1 law1 (d := drN d) X1.2.2.2.1 (drN_lt d) (tr := 1 - trD h d) (by omega)
  have dr := m_drawOf (h := g) (n := 100) d1 dl (by omega) (by omega)
  have dr' : f_X12_drawOf g 173 (100 : Int32) = some (Int32.ofNat (drN d / 64 % 100), g1) := by rw [eg1]; exact dr
  have m100 : drN d / 64 % 100 < 100 := Nat.mod_lt _ (by omega)
  have fst : kI g1 203 2 = Int32.ofNat (kN h 203 2) := by
    rw [law1 _ _ (by omega) (by omega)]
    exact hm.2.2.2.1.1.1
  have top : f_X12_caseGoes g 173 = f_X12_caseGoes_b20 g1 173 (Int32.ofNat (trD h d)) := by
    unfold f_X12_caseGoes
    rw [if_pos kk173, dr', kb_s]
    dsimp only
    rw [rf173_38 r1, if_pos (show 203 < 999999 by omega), if_pos kk203, kn203, if_neg (by omega), fst]
    unfold trD
    by_cases y : kN h 203 2 ≤ drN d / 64 % 100
    · rw [if_pos (by rw [n32_le (by omega) (by omega)]; exact y), if_pos y]
      rfl
    · rw [if_neg (by rw [n32_le (by omega) (by omega)]; exact y), if_neg y]
      rfl
  have b20 : f_X12_caseGoes_b20 g1 173 (Int32.ofNat (trD h d)) = f_X12_caseGoes_b31 g1 173 (Int32.ofNat (trD h d)) 173 (Int32.ofNat (1 - trD h d)) := by
    unfold f_X12_caseGoes_b20
    by_cases y : trD h d = 0
    · rw [y]
      exact if_pos rfl
    · rw [if_neg (by rw [n32_ne0 (by omega)]; exact y), show 1 - trD h d = 0 by omega]
      rfl
  have b53 : ∀ q (z : Int32), (if Int32.ofNat (trD h d) = (1 : Int32) then f_X12_caseGoes_b53 q 173 (Int32.ofNat (trD h d)) z 173 (1 : Int32) else f_X12_caseGoes_b53 q 173 (Int32.ofNat (trD h d)) z 173 (0 : Int32)) = f_X12_caseGoes_b53 q 173 (Int32.ofNat (trD h d)) z 173 (Int32.ofNat (trD h d)) := fun q z => by
    by_cases y : trD h d = 1
    · rw [y]
      exact if_pos rfl
    · rw [if_neg (by rw [n32_eql (by omega) (by omega)]; exact y), show trD h d = 0 by omega]
      rfl
  rw [top, b20]
  unfold f_X12_caseGoes_b31
  rw [if_pos kk173, k1, kb_s]
  dsimp only
  by_cases y0 : fqS h (1 - trD h d) = 0
  · have no : ¬ okD h s.1 := fun z => by rw [hd] at z; exact z.1 y0
    rw [if_pos y0, if_pos y0, if_pos rfl]
    refine ⟨g1, ?_, ?_⟩
    · unfold rgD
      rw [if_neg no]
      rfl
    · unfold cst
      rw [if_neg no]
      have : nxD h s.1 = drN d := by unfold nxD; rw [hd, if_pos y0]
      rw [this]
      exact X1
  · rw [if_neg y0, if_neg y0, if_neg (by rw [n32_eqm (by have := (kdD_at (d := drN d) y0).1; have := hm.1.1.2; omega)]; exact fun z => z), b53]
    obtain ⟨g2, eg2⟩ : ∃ g2, g2 = ksL g1 173 63 (Int64.ofNat (drN (drN d))) := ⟨_, rfl⟩
    have X2 : Mc h0 g2 c C0 K0 (drN (drN d), s.2) := by rw [eg2]; exact X1.seed hc _
    have r2 := (rc0.mx X2.1).1
    have law2 := law0.tr (Law.mx X2.1)
    have k2 := m_drawnKind rc r2 law2 (d := drN (drN d)) X2.2.2.2.1 (drN_lt _) (tr := trD h d) (by omega)
    rw [← eg2]
    by_cases y1 : fqS h (trD h d) = 0
    · have no : ¬ okD h s.1 := fun z => by rw [hd] at z; exact z.2 y1
      rw [if_pos y1, if_pos y1] at k2
      refine ⟨g2, ?_, ?_⟩
      · unfold f_X12_caseGoes_b53
        rw [if_pos kk173, k2, kb_s]
        dsimp only
        rw [if_pos rfl]
        unfold rgD
        rw [if_neg no]
        rfl
      · unfold cst
        rw [if_neg no]
        have : nxD h s.1 = drN (drN d) := by unfold nxD; rw [hd, if_neg y0, if_pos y1]
        rw [this]
        exact X2
    · have ok : okD h d := ⟨y0, y1⟩
      rw [if_neg y1, if_neg y1] at k2
      have X3 := X2.seed hc (drN (drN (drN d)))
      have en : nxD h d = drN (drN (drN d)) := by unfold nxD; rw [if_neg y0, if_neg y1]
      obtain ⟨g', a1, a2⟩ := m_case53 (q := g2) (g := ksL g2 173 63 (Int64.ofNat (drN (drN (drN d))))) rc rc0 rr0 law0 b (by rw [en]; exact X3) hd ok C9 K9 k2
      refine ⟨g', ?_, ?_⟩
      · unfold rgD
        rw [if_pos (show okD h s.1 by rw [hd]; exact ok), hd]
        exact a1
      · unfold cst
        rw [if_pos (show okD h s.1 by rw [hd]; exact ok), hd]
        exact a2
