/-! one case by draws: what it does, and the class -/
def trD (h : KH) (d : Nat) : Nat := if kN h 203 2 ≤ drN d / 64 % 100 then 1 else 0
theorem trD_lt (h : KH) (d : Nat) : trD h d < 2 := by
  unfold trD
  split <;> omega
def okD (h : KH) (d : Nat) : Prop := fqS h (1 - trD h d) ≠ 0 ∧ fqS h (trD h d) ≠ 0
/-- the seed behind it -/
def nxD (h : KH) (d : Nat) : Nat := if fqS h (1 - trD h d) = 0 then drN d else if fqS h (trD h d) = 0 then drN (drN d) else drN (drN (drN d))
def zD (h : KH) (d : Nat) : Nat := kdD h (1 - trD h d) (drN d)
def oD (h : KH) (d : Nat) : Nat := kdD h (trD h d) (drN (drN d))
def wD (h : KH) (d : Nat) : Nat := 36 * trD h d + 6 * zD h d + oD h d
noncomputable def setD (h : KH) (T : Nat → Nat) : Nat := bsN h (fW h) (paN h T) 0
theorem nxD_lt (h : KH) (d : Nat) : nxD h d < 2147483648 := by
  unfold nxD
  split
  · exact drN_lt _
  · split <;> exact drN_lt _
theorem kdD_at {h : KH} {tr d : Nat} (h0 : fqS h tr ≠ 0) : kdD h tr d < kN h 198 3 ∧ fqN h (kdD h tr d) tr ≠ 0 := by
  obtain ⟨l, hl⟩ : ∃ l, drN d / 64 % fqS h tr = l := ⟨_, rfl⟩
  have ll : l < fqS h tr := by rw [← hl]; exact Nat.mod_lt _ (by omega)
  obtain ⟨p1, p2, p3⟩ := pkN_at (f := fun k => fqN h k tr) (l := l) (kN h 198 3) ll
  have e : kdD h tr d = pkN (fun k => fqN h k tr) l (kN h 198 3) := by
    unfold kdD
    rw [hl]
  rw [e]
  refine ⟨p1, fun z => ?_⟩
  rw [sN] at p3
  omega
theorem wD_at {h : KH} {c d : Nat} (rc : RC h c) (ok : okD h d) : zD h d < kN h 198 3 ∧ oD h d < kN h 198 3 ∧ vW h (wD h d) ∧ wD h d / 36 = trD h d ∧ wD h d / 6 % 6 = zD h d ∧ wD h d % 6 = oD h d ∧ fW h (wD h d) ≠ 0 := by
  obtain ⟨hr, hc, h5, hm, -⟩ := id rc
  have n3 := hm.1.1.2
  have f1 := hm.2.2.2.1.1.2
  have f2 := hm.2.2.2.1.2.1
  have t2 := trD_lt h d
  obtain ⟨a1, a2⟩ := kdD_at (d := drN d) ok.1
  obtain ⟨b1, b2⟩ := kdD_at (d := drN (drN d)) ok.2
  have z1 : zD h d < kN h 198 3 := a1
  have o1 : oD h d < kN h 198 3 := b1
  have e1 : wD h d / 36 = trD h d := by unfold wD; omega
  have e2 : wD h d / 6 % 6 = zD h d := by unfold wD; omega
  have e3 : wD h d % 6 = oD h d := by unfold wD; omega
  have v : vW h (wD h d) := ⟨by rw [e2]; exact z1, by rw [e3]; exact o1, by unfold wD; omega⟩
  refine ⟨z1, o1, v, e1, e2, e3, ?_⟩
  have c0 := (fc_eq (h := h) (fun _ => 0) (fun _ => 0) (fun _ => 0) 0 (wD h d / 6 % 6) (1 - wD h d / 36)).1 fun t _ => Or.inl rfl
  have c1 := (fc_eq (h := h) (fun _ => 0) (fun _ => 0) (fun _ => 0) 1 (wD h d % 6) (wD h d / 36)).1 fun t _ => Or.inl rfl
  unfold fW
  rw [wt_vW v, c0, c1, pm_0, pm_0, e1, e2, e3, Nat.mul_one, Nat.mul_one]
  refine Nat.mul_ne_zero (Nat.mul_ne_zero ?_ a2) b2
  split <;> omega
abbrev CS := Nat × (Nat → Nat) × Nat × Nat × (Nat → Nat → Int32)
noncomputable def rowD (h : KH) (d : Nat) (T : Nat → Nat) (i : Nat) : Int32 :=
  if i = 0 then Int32.ofNat (whN h T (setD h T) (wD h d)) else if i = 1 then Int32.ofNat (hmN h (setD h T) (kN h 198 4)) else if i = 2 then Int32.ofNat (pcN (setD h T)) else Int32.ofNat (if whN h T (setD h T) (wD h d) = trD h d then 1 else 0)
noncomputable def cgo (h : KH) (K0 d : Nat) (s : CS) : CS :=
  (d, fun t => moreN (setD h s.2.1) (s.2.1 t) t, s.2.2.1 + 1, min 9999 (s.2.2.2.1 + hmN h (setD h s.2.1) (kN h 198 4)), fun x i => if x = K0 + s.2.2.1 then rowD h s.1 s.2.1 i else s.2.2.2.2 x i)
/-- what a case does -/
noncomputable def cst (h : KH) (K0 : Nat) (s : CS) : CS := @ite _ (okD h s.1) (Classical.propDecidable _) (cgo h K0 (nxD h s.1) s) (nxD h s.1, s.2)
noncomputable def rgD (h : KH) (s : CS) : Nat := @ite _ (okD h s.1) (Classical.propDecidable _) (if whN h s.2.1 (setD h s.2.1) (wD h s.1) = trD h s.1 then 1 else 0) 0
/-- bounds of what a run of cases carries -/
def CB (h : KH) (s : CS) : Prop := s.1 < 2147483648 ∧ (∀ t, t < 6 → s.2.1 t ≤ 99 ∧ (kN h 198 4 ≤ t → s.2.1 t = 0)) ∧ s.2.2.2.1 ≤ 9999
theorem setD_lt {h : KH} {c : Nat} (rc : RC h c) (T : Nat → Nat) : setD h T < 2 ^ kN h 198 4 ∧ setD h T < 64 := bsN_lt rc _ _ _
theorem CB.go {h : KH} {c : Nat} (rc : RC h c) {K0 : Nat} {s : CS} (b : CB h s) : CB h (cst h K0 s) := by
  obtain ⟨b1, b2, b3⟩ := b
  unfold cst
  by_cases y : okD h s.1
  · rw [if_pos y]
    refine ⟨nxD_lt h _, fun t ht => ⟨moreN_le (b2 t ht).1, fun z => ?_⟩, Nat.min_le_left _ _⟩
    show moreN (setD h s.2.1) (s.2.1 t) t = 0
    unfold moreN
    rw [if_pos (bit_hi (setD_lt rc s.2.1).1 z)]
    exact (b2 t ht).2 z
  · rw [if_neg y]
    exact ⟨nxD_lt h _, b2, b3⟩
theorem hb_eq {f : Nat → Nat} {s n : Nat} (hs : s < 2 ^ n) (e : ∀ t, t < n → (f t = 0 ↔ s / 2 ^ t % 2 = 0)) : hbN f n = s := by
  have l := hbN_lt f n
  refine Nat.eq_of_testBit_eq fun t => ?_
  by_cases y : t < n
  · rw [Nat.testBit_eq_decide_div_mod_eq, Nat.testBit_eq_decide_div_mod_eq, hb_bit f n t y]
    have b2 : s / 2 ^ t % 2 < 2 := Nat.mod_lt _ (by omega)
    by_cases z : f t = 0
    · rw [if_pos z, (e t y).mp z]
    · have q : ¬ s / 2 ^ t % 2 = 0 := fun w => z ((e t y).mpr w)
      rw [if_neg z, show s / 2 ^ t % 2 = 1 by omega]
  · have p : 2 ^ n ≤ 2 ^ t := Nat.pow_le_pow_right (by omega) (by omega)
    rw [Nat.testBit_lt_two_pow (by omega), Nat.testBit_lt_two_pow (by omega)]
def Wcx (l i : Nat) : Prop := Wscr l i ∨ (64 ≤ l ∧ l ≤ 67) ∨ l = 74 ∨ (l = 0 ∧ i = 14)
/-- the class's cells as they are so far -/
def Xc (h g : KH) (c C0 K0 : Nat) (s : CS) : Prop := kfp Wcx h g ∧ Ryt g c ∧ Rzero g ∧ kI g 0 14 = Int32.ofNat s.1 ∧ kI g 64 0 = Int32.ofNat (C0 + s.2.2.1) ∧ kI g 64 1 = Int32.ofNat s.2.2.2.1 ∧ kI g 64 2 = Int32.ofNat (K0 + s.2.2.1) ∧ (∀ t, t < 6 → kI g 65 t = Int32.ofNat (s.2.1 t) ∧ kI g 66 t = 0) ∧ (∀ i, i < 10 → kI g 67 i = 0) ∧ ∀ x, x < K0 + s.2.2.1 → K0 + s.2.2.1 ≤ x + 1024 → ∀ i, i < 4 → kI g 74 (4 * (x % 1024) + i) = s.2.2.2.2 x i
theorem RC.cx {h h' : KH} {c : Nat} (rc : RC h c) (x : kfp Wcx h h') : RC h' c := rc.fp x fun l i z y => by
  rcases y with y | y
  · exact Wct.sc rc.2.1 z y
  · have := rc.2.1.lt
    unfold Wct at z
    rcases rc.2.1 with r | r <;> omega
theorem Rrule.cx {h h' : KH} {c : Nat} (hc : ctc c) (rr : Rrule h c) (x : kfp Wcx h h') : Rrule h' c := rr.fp x fun l i z => by
  unfold Wcx Wscr
  rcases hc with rfl | rfl <;> omega
theorem Law.cx {h h' : KH} (x : kfp Wcx h h') : Law h h' := fun l i a b => x.2.2.1 l i (by unfold Wcx Wscr; omega)
/-- the seed alone has changed -/
theorem Xc.seed {h g : KH} {c C0 K0 : Nat} {s : CS} (x : Xc h g c C0 K0 s) (hc : ctc c) (d : Nat) : Xc h (ksI g 0 14 (Int32.ofNat d)) c C0 K0 (d, s.2) := by
  obtain ⟨x1, x2, x3, x4, x5, x6, x7, x8, x9, x10⟩ := x
  have f : kfp (fun l i => l = 0 ∧ i = 14) g (ksI g 0 14 (Int32.ofNat d)) := kfp.rf.sI _ ⟨rfl, rfl⟩
  have I : ∀ l i, l ≠ 0 → kI (ksI g 0 14 (Int32.ofNat d)) l i = kI g l i := fun l i z => f.2.2.1 _ _ (by omega)
  refine ⟨x1.tr (f.wide fun l i z => by unfold Wcx; omega), x2.fp f fun l i z w => ?_, x3.fp f fun l i z w => by omega, by rw [kI_sI, if_pos ⟨rfl, rfl⟩], (I _ _ (by omega)).trans x5, (I _ _ (by omega)).trans x6, (I _ _ (by omega)).trans x7, fun t ht => ?_, fun i hi => (I _ _ (by omega)).trans (x9 i hi), fun x a b i hi => (I _ _ (by omega)).trans (x10 x a b i hi)⟩
  · unfold Wlw at z
    rcases hc with rfl | rfl <;> omega
  · rw [I _ _ (by omega), I _ _ (by omega)]
    exact x8 t ht
theorem Xc.scr {h g g' : KH} {c C0 K0 : Nat} {s : CS} (x : Xc h g c C0 K0 s) {W : Nat → Nat → Prop} (f : kfp W g g') (y : Ryt g' c) (z : Rzero g') (hW : ∀ l i, W l i → Wscr l i) : Xc h g' c C0 K0 s := by
  obtain ⟨x1, x2, x3, x4, x5, x6, x7, x8, x9, x10⟩ := x
  have I : ∀ l i, (l = 0 ∨ (64 ≤ l ∧ l ≤ 67) ∨ l = 74) → kI g' l i = kI g l i := fun l i e => f.2.2.1 _ _ fun w => by
    have := hW _ _ w
    unfold Wscr at this
    omega
  refine ⟨x1.tr (f.wide fun l i w => Or.inl (hW l i w)), y, z, (I _ _ (by omega)).trans x4, (I _ _ (by omega)).trans x5, (I _ _ (by omega)).trans x6, (I _ _ (by omega)).trans x7, fun t ht => ?_, fun i hi => (I _ _ (by omega)).trans (x9 i hi), fun x a b i hi => (I _ _ (by omega)).trans (x10 x a b i hi)⟩
  rw [I _ _ (by omega), I _ _ (by omega)]
  exact x8 t ht
theorem x_case54 {h q g : KH} {c C0 K0 d : Nat} {s : CS} (rc : RC h c) (rr : Rrule h c) (b : CB h s) (x : Xc h g c C0 K0 (nxD h d, s.2)) (ed : s.1 = d) (ok : okD h d) (C9 : C0 + s.2.2.1 < 9999) (K9 : K0 ≤ C0)
    (e0 : f_X11_drawKind q 0 (Int32.ofNat (trD h d)) = some (Int32.ofNat (oD h d), g)) :
    ∃ g', f_X11_caseBySeed_b54 q 0 (Int32.ofNat (trD h d)) (Int32.ofNat (zD h d)) 0 (Int32.ofNat (trD h d)) = some (Int32.ofNat (if whN h s.2.1 (setD h s.2.1) (wD h d) = trD h d then 1 else 0), g') ∧ Xc h g' c C0 K0 (cgo h K0 (nxD h d) s) := by
  obtain ⟨hr, hc, h5, hm, -⟩ := id rc
  have c39 := hc.lt
  have n3 := hm.1.1.2
  have n4 := hm.2.1.1.2
  obtain ⟨d0, T, m, H, R⟩ := s
  dsimp only at b x C9 ⊢
  obtain ⟨b1, b2, b3⟩ := b
  dsimp only at b1 b2 b3 ed
  subst ed
  obtain ⟨S, hS⟩ : ∃ S, setD h T = S := ⟨_, rfl⟩
  obtain ⟨w, hw⟩ : ∃ w, wD h d0 = w := ⟨_, rfl⟩
  obtain ⟨v1, v2, v3, v4, v5, v6, v7⟩ := wD_at rc ok
  rw [hw] at v3 v4 v5 v6 v7
  have t2 := trD_lt h d0
  have ew : w = 36 * trD h d0 + 6 * zD h d0 + oD h d0 := by rw [← hw]; rfl
  have sl := setD_lt rc T
  rw [hS] at sl
  have tl : ∀ t, t < 6 → T t ≤ 99 := fun t ht => (b2 t ht).1
  obtain ⟨x1, x2, x3, x4, x5, x6, x7, x8, x9, x10⟩ := id x
  dsimp only at x4 x5 x6 x7 x8 x9 x10
  have rcg := rc.cx x1
  have rg := rcg.1
  have law := Law.cx x1
  have wb : ∀ w, fW h w ≤ 27960524111619 := fun w => wt_le rc _ _ _ w
  have a0 : aT (fW h) 72 ≠ 0 := fun z => by
    have := aT_lev (fW h) 72 w v3.2.2
    omega
  -- the first weighing, and the set
  have sv : Sv g 64 T (fun _ => 0) (fun _ => 0) := ⟨fun t ht => ⟨⟨(x8 t ht).1, tl t ht⟩, (x8 t ht).2, Nat.zero_le _⟩, fun i hi => ⟨x9 i hi, Nat.zero_le _⟩⟩
  obtain ⟨g1, e1, f1, y1, aw1, w1⟩ := x_weigh rcg (rr.cx hc x1) x2 (St64 rg) (by omega) sv
  rw [law.wt, law.pa, fW_at rc] at w1
  have F1 : kfp Wscr g g1 := f1.wide fun l i z => Wwg.sc hc z
  have z1 : Rzero g1 := x3.fp f1 fun l i z w => by unfold Wwg at w; rcases hc with rfl | rfl <;> omega
  have rc1 := rcg.sc F1
  have r1 := rc1.1
  have law1 : Law h g1 := fun l i a b => by rw [F1.2.2.1 l i (by unfold Wscr; omega)]; exact law l i a b
  obtain ⟨g2, e2, f2, z2⟩ := x_bestSet rc1 kfp.rf wb w1 z1 (hd := 0) (by omega)
  rw [law1.bs, if_neg a0] at e2
  have e2' : f_X10_bestSet g1 162 c (0 : Int32) = some (Int32.ofNat S, g2) := by rw [← hS]; exact e2
  have F2 : kfp Wscr g g2 := F1.tr (f2.wide fun l i z => W89.sc z)
  have y2 : Ryt g2 c := y1.fp f2 fun l i z w => by unfold Wlw at z; unfold W89 at w; rcases hc with rfl | rfl <;> omega
  have X2 := x.scr F2 y2 z2 fun l i z => z
  obtain ⟨p1, p2, p3, p4, p5, p6, p7, p8, p9, p10⟩ := id X2
  dsimp only at p4 p5 p6 p7 p8 p9 p10
  have rc2 := rc.cx p1
  have r2 := rc2.1
  have law2 := Law.cx p1
  -- what is heard
  have aw2 : Aw h g2 T (kN h 198 4) := fun who hwho => by
    rw [f2.2.2.1 _ _ (by unfold W89; omega), aw1 who hwho, law.n (l := 198) (i := 4) (by omega) (by omega)]
    exact congrArg Int32.ofNat (law.aw T who _)
  obtain ⟨g3, e3, f3, h3⟩ := x_hearLoop rc rr rc2 law2 aw2 tl t2 v1 v2 sl.1 ew fun t ht => (p8 t ht).2
  have F3 : kfp Wcx h g3 := p1.tr (f3.wide fun l i z => by unfold Wcx; omega)
  have rc3 := rc.cx F3
  have r3 := rc3.1
  have law3 := Law.cx F3
  have y3 : Ryt g3 c := p2.fp f3 fun l i z w => by unfold Wlw at z; rcases hc with rfl | rfl <;> omega
  have z3 : Rzero g3 := p3.fp f3 fun l i z w => by omega
  have hl : ∀ t, t < 6 → hdA h T S w t ≤ 4 := fun t ht => by
    by_cases y : t < kN h 198 4
    · have l0 := yB_lt rc rr (T := T) v3 (cl := 0) (by omega) y (tl t ht)
      have l1 := yB_lt rc rr (T := T) v3 (cl := 1) (by omega) y (tl t ht)
      unfold hdA
      split <;> omega
    · unfold hdA
      rw [if_pos (bit_hi sl.1 (by omega))]
      omega
  have sv3 : Sv g3 64 T (hdA h T S w) (fun _ => 0) := ⟨fun t ht => ⟨⟨by rw [f3.2.2.1 _ _ (by omega)]; exact (p8 t ht).1, tl t ht⟩, h3 t ht, hl t ht⟩, fun i hi => ⟨by rw [f3.2.2.1 _ _ (by omega)]; exact p9 i hi, Nat.zero_le _⟩⟩
  obtain ⟨g4, e4, f4, y4, -, w4⟩ := x_weigh rc3 (rr.cx hc F3) y3 (St64 r3) (by omega) sv3
  rw [law3.wt, law3.pa] at w4
  have F4 : kfp Wcx h g4 := F3.tr (f4.wide fun l i z => Or.inl (Wwg.sc hc z))
  have rc4 := rc.cx F4
  have r4 := rc4.1
  have law4 := Law.cx F4
  have z4 : Rzero g4 := z3.fp f4 fun l i z w => by unfold Wwg at w; rcases hc with rfl | rfl <;> omega
  obtain ⟨-, -, -, -, u0, u1⟩ := w4
  have hk := heardW rc rr tl sl.1 v3
  rw [sT_gS hk] at u0 u1
  obtain ⟨G0, hG0⟩ : ∃ G, gS (fW h) (kX (paN h T) S) 0 (kX (paN h T) S w) 72 = G := ⟨_, rfl⟩
  obtain ⟨G1, hG1⟩ : ∃ G, gS (fW h) (kX (paN h T) S) 1 (kX (paN h T) S w) 72 = G := ⟨_, rfl⟩
  have ab := aT_wb wb
  have l0 : G0 ≤ aT (fW h) 72 := by rw [← hG0]; exact pS_le _ _ _
  have l1 : G1 ≤ aT (fW h) 72 := by rw [← hG1]; exact pS_le _ _ _
  rw [hG0] at u0
  rw [hG1] at u1
  have s0 : f_X10_sumOf g4 162 (0 : Int32) = some (Int64.ofNat G0) := by
    unfold f_X10_sumOf
    rw [if_pos kk162, rf162_4 r4, if_pos (show 166 < 999999 by omega), if_pos kk166, kn166, if_neg (by decide)]
    exact congrArg some u0
  have s1 : f_X10_sumOf g4 162 (1 : Int32) = some (Int64.ofNat G1) := by
    unfold f_X10_sumOf
    rw [if_pos kk162, rf162_4 r4, if_pos (show 166 < 999999 by omega), if_pos kk166, kn166, if_neg (by decide)]
    exact congrArg some u1
  -- the case closed
  have I4 : ∀ l i, (64 ≤ l ∧ l ≤ 67 ∧ l ≠ 66) ∨ l = 74 ∨ l = 0 → kI g4 l i = kI g2 l i := fun l i z => by
    rw [f4.2.2.1 _ _ (fun w => by have := Wwg.sc hc w; unfold Wscr at this; omega), f3.2.2.1 _ _ (by omega)]
  have A4 : ∀ t, t < 6 → kI g4 66 t = Int32.ofNat (hdA h T S w t) := fun t ht => by rw [f4.2.2.1 _ _ (fun w => by have := Wwg.sc hc w; unfold Wscr at this; omega)]; exact h3 t ht
  have xs4 : XS g4 64 := by
    refine ⟨cn_of ((I4 _ _ (by omega)).trans p5) (by omega) (by omega), cn_of ((I4 _ _ (by omega)).trans p6) b3 (by omega), fun t ht => ⟨cn_of ((I4 _ _ (by omega)).trans (p8 t ht).1) (tl t ht) (by omega), cn_of (A4 t ht) (hl t ht) (by omega), fun y => ?_⟩, fun i hi => ⟨cn_of (n := 0) ((I4 _ _ (by omega)).trans (p9 i hi)) (by omega) (by omega), fun _ => kN_of (n := 0) ((I4 _ _ (by omega)).trans (p9 i hi)) (by omega)⟩⟩
    rw [law4.n (l := 198) (i := 4) (by omega) (by omega)] at y
    refine kN_of (n := 0) ?_ (by omega)
    show kI g4 66 t = _
    rw [A4 t ht]
    unfold hdA
    rw [if_pos (bit_hi sl.1 y)]
  have n44 : kN g4 198 4 = kN h 198 4 := law4.n (by omega) (by omega)
  have hH : hbN (anX g4 64) (kN g4 198 4) = S := by
    rw [n44]
    refine hb_eq sl.1 fun t ht => ?_
    have := hl t (by omega)
    rw [show anX g4 64 t = hdA h T S w t from kN_of (A4 t (by omega)) (by omega)]
    unfold hdA
    by_cases y : S / 2 ^ t % 2 = 0
    · rw [if_pos y]
      exact ⟨fun _ => y, fun _ => rfl⟩
    · rw [if_neg y]
      exact ⟨fun z => absurd z (by omega), fun z => absurd z y⟩
  have kb4 : cn g4 64 2 9999 := cn_of ((I4 _ _ (by omega)).trans p7) (by omega) (by omega)
  have e64 : kN g4 64 0 = C0 + m ∧ kN g4 64 1 = H ∧ kN g4 64 2 = K0 + m := ⟨kN_of ((I4 _ _ (by omega)).trans p5) (by omega), kN_of ((I4 _ _ (by omega)).trans p6) (by omega), kN_of ((I4 _ _ (by omega)).trans p7) (by omega)⟩
  have t65 : ∀ t, t < 6 → kN g4 65 t = T t := fun t ht => kN_of ((I4 _ _ (by omega)).trans (p8 t ht).1) (by have := tl t ht; omega)
  have ehm : hmN g4 S (kN g4 198 4) = hmN h S (kN h 198 4) := by rw [law4.hm, n44]
  obtain ⟨who, hwho⟩ : ∃ n, whN h T S w = n := ⟨_, rfl⟩
  have who2 : who < 2 := by rw [← hwho]; exact whN_lt _ _ _ _
  obtain ⟨rt, hrt⟩ : ∃ n, (if who = trD h d0 then 1 else 0) = n := ⟨_, rfl⟩
  obtain ⟨g5, e5, f5, q0, q1, q2, q3, q4, q5, q6, q7, q8⟩ := x_closeCase rc4 xs4 kb4 (Int32.ofNat who) (Int32.ofNat rt) hH
  rw [e64.1] at q0
  rw [e64.2.1, ehm] at q1
  rw [e64.2.2] at q2 q5 q6 q7 q8 f5
  rw [ehm] at q6
  have tail : f_X11_caseBySeed_b193 g4 0 (Int32.ofNat (trD h d0)) (Int32.ofNat who) = some (Int32.ofNat rt, g5) := by
    have e206 : f_X11_caseBySeed_b206 g4 0 (Int32.ofNat who) (Int32.ofNat rt) = some (Int32.ofNat rt, g5) := by
      unfold f_X11_caseBySeed_b206
      rw [if_pos kk0, e5, kb_s]
    unfold f_X11_caseBySeed_b193
    by_cases y : who = trD h d0
    · rw [if_pos (by rw [y])]
      rw [if_pos y] at hrt
      rw [show (1 : Int32) = Int32.ofNat rt by rw [← hrt]; rfl]
      exact e206
    · rw [if_neg (by rw [n32_eq (by omega) (by omega)]; exact y)]
      rw [if_neg y] at hrt
      rw [show (0 : Int32) = Int32.ofNat rt by rw [← hrt]; rfl]
      exact e206
  refine ⟨g5, ?_, ?_⟩
  · unfold f_X11_caseBySeed_b54
    rw [if_pos kk0, e0, kb_s]
    dsimp only
    rw [if_neg (by rw [n32_eqm (by omega)]; exact fun z => z), if_pos kk0, rf0_11 rg, if_pos (show 162 < 999999 by omega), rcg.2.2.1, if_pos (show c < 999999 by omega), rf0_7 rg, if_pos (show 64 < 999999 by omega), if_pos kk162, e1, kb_s, rf0_11 r1, if_pos (show 162 < 999999 by omega), rc1.2.2.1, if_pos (show c < 999999 by omega), if_pos kk162, e2', kb_s]
    dsimp only
    rw [e3, kb_s, rf0_11 r3, if_pos (show 162 < 999999 by omega), rc3.2.2.1, if_pos (show c < 999999 by omega), rf0_7 r3, if_pos (show 64 < 999999 by omega), if_pos kk162, e4, kb_s, rf0_11 r4, if_pos (show 162 < 999999 by omega), if_pos kk162, s0, kb_s, s1, kb_s]
    rw [hS, hw, hwho, hrt, ← tail]
    unfold whN at hwho
    rw [hG0, hG1] at hwho
    by_cases y : G0 < G1
    · rw [if_pos (by rw [lgn_lt (by omega) (by omega)]; exact y)]
      rw [if_pos y] at hwho
      rw [show (1 : Int32) = Int32.ofNat who by rw [← hwho]; rfl]
    · rw [if_neg (by rw [lgn_lt (by omega) (by omega)]; exact y)]
      rw [if_neg y] at hwho
      rw [show (0 : Int32) = Int32.ofNat who by rw [← hwho]; rfl]
  · have R5 : ∀ l i, ¬ Wcc (K0 + m) l i → kI g5 l i = kI g4 l i := fun l i z => f5.2.2.1 l i z
    refine ⟨F4.tr (f5.wide fun l i z => by unfold Wcc at z; unfold Wcx; omega), y4.fp f5 fun l i z w => ?_, z4.fp f5 fun l i z w => by unfold Wcc at w; omega, ?_, ?_, ?_, ?_, fun t ht => ⟨?_, (q3 t ht).2⟩, q4, fun u a b' i hi => ?_⟩
    · unfold Wlw at z
      unfold Wcc at w
      rcases hc with rfl | rfl <;> omega
    · rw [R5 _ _ (by unfold Wcc; omega), I4 _ _ (by omega)]
      exact p4
    · exact q0
    · show _ = Int32.ofNat (min 9999 (H + hmN h (setD h T) (kN h 198 4)))
      rw [hS]
      exact q1
    · exact q2
    · show _ = Int32.ofNat (moreN (setD h T) (T t) t)
      rw [hS, (q3 t ht).1, t65 t ht]
    · show _ = if u = K0 + m then rowD h d0 T i else R u i
      have a' : u < K0 + m + 1 := a
      have b'' : K0 + m + 1 ≤ u + 1024 := b'
      by_cases y : u = K0 + m
      · rw [if_pos y, y]
        unfold rowD
        rw [hS, hw, hwho, hrt]
        have e : i = 0 ∨ i = 1 ∨ i = 2 ∨ i = 3 := by omega
        rcases e with rfl | rfl | rfl | rfl
        · rw [if_pos rfl, Nat.add_zero, q5]
        · rw [if_neg (by omega), if_pos rfl, q6]
        · rw [if_neg (by omega), if_neg (by omega), if_pos rfl, q7]
        · rw [if_neg (by omega), if_neg (by omega), if_neg (by omega), q8]
      · have ne : u % 1024 ≠ (K0 + m) % 1024 := by omega
        rw [if_neg y, R5 _ _ (by unfold Wcc; omega), I4 _ _ (by omega)]
        exact p10 u (by omega) (by omega) i hi
/-- a case, by the class -/
theorem x_case {h g : KH} {c C0 K0 : Nat} {s : CS} (rc : RC h c) (rr : Rrule h c) (b : CB h s) (x : Xc h g c C0 K0 s) (C9 : C0 + s.2.2.1 < 9999) (K9 : K0 ≤ C0) :
    ∃ g', f_X11_caseBySeed g 0 = some (Int32.ofNat (rgD h s), g') ∧ Xc h g' c C0 K0 (cst h K0 s) := by
  obtain ⟨hr, hc, h5, hm, -⟩ := id rc
  have c39 := hc.lt
  have ff := hm.2.2.2.1.1.2
  obtain ⟨d, hd⟩ : ∃ d, s.1 = d := ⟨_, rfl⟩
  have t2 := trD_lt h d
  have d1 : kI g 0 14 = Int32.ofNat d := by rw [← hd]; exact x.2.2.2.1
  obtain ⟨g1, eg1⟩ : ∃ g1, g1 = ksI g 0 14 (Int32.ofNat (drN d)) := ⟨_, rfl⟩
  have X1 : Xc h g1 c C0 K0 (drN d, s.2) := by rw [eg1]; exact x.seed hc _
  have rc1 := rc.cx X1.1
  have law1 := Law.cx X1.1
  have k1 := x_drawKind rc1 (d := drN d) X1.2.2.2.1 (tr := 1 - trD h d) (by omega)
  rw [law1.fqs.1, law1.fqs.2] at k1
  have dr := x_draw (h := g) (n := 100) d1 (by omega) (by omega)
  have dr' : f_X11_draw g 0 (100 : Int32) = some (Int32.ofNat (drN d / 64 % 100), g1) := by rw [eg1]; exact dr
  have m100 : drN d / 64 % 100 < 100 := Nat.mod_lt _ (by omega)
  have fst : kI g1 c 6 = Int32.ofNat (kN h 203 2) := by
    rw [rc1.2.2.2.1.2.2.2.1.2.2, law1 _ _ (by omega) (by omega)]
    exact hm.2.2.2.1.1.1
  have top : f_X11_caseBySeed g 0 = f_X11_caseBySeed_b21 g1 0 (Int32.ofNat (trD h d)) := by
    unfold f_X11_caseBySeed
    rw [if_pos kk0, dr', kb_s]
    dsimp only
    rw [rc1.2.2.1, if_pos (show c < 999999 by omega), if_pos (ct_kk hc), fst]
    unfold trD
    by_cases y : kN h 203 2 ≤ drN d / 64 % 100
    · rw [if_pos (by rw [n32_le (by omega) (by omega)]; exact y), if_pos y]
      rfl
    · rw [if_neg (by rw [n32_le (by omega) (by omega)]; exact y), if_neg y]
      rfl
  have b21 : f_X11_caseBySeed_b21 g1 0 (Int32.ofNat (trD h d)) = f_X11_caseBySeed_b32 g1 0 (Int32.ofNat (trD h d)) 0 (Int32.ofNat (1 - trD h d)) := by
    unfold f_X11_caseBySeed_b21
    by_cases y : trD h d = 0
    · rw [y]
      exact if_pos rfl
    · rw [if_neg (by rw [n32_ne0 (by omega)]; exact y), show 1 - trD h d = 0 by omega]
      rfl
  have b54 : ∀ q (z : Int32), (if Int32.ofNat (trD h d) = (1 : Int32) then f_X11_caseBySeed_b54 q 0 (Int32.ofNat (trD h d)) z 0 (1 : Int32) else f_X11_caseBySeed_b54 q 0 (Int32.ofNat (trD h d)) z 0 (0 : Int32)) = f_X11_caseBySeed_b54 q 0 (Int32.ofNat (trD h d)) z 0 (Int32.ofNat (trD h d)) := fun q z => by
    by_cases y : trD h d = 1
    · rw [y]
      exact if_pos rfl
    · rw [if_neg (by rw [n32_eql (by omega) (by omega)]; exact y), show trD h d = 0 by omega]
      rfl
  rw [top, b21]
  unfold f_X11_caseBySeed_b32
  rw [if_pos kk0, k1, kb_s]
  dsimp only
  by_cases y0 : fqS h (1 - trD h d) = 0
  · have no : ¬ okD h s.1 := fun z => by rw [hd] at z; exact z.1 y0
    rw [if_pos y0, if_pos y0, if_pos rfl]
    refine ⟨g1, ?_, ?_⟩
    · unfold rgD
      rw [if_neg no]
      rfl
    · unfold cst
      rw [if_neg no]
      have : nxD h s.1 = drN d := by unfold nxD; rw [hd, if_pos y0]
      rw [this]
      exact X1
  · rw [if_neg y0, if_neg y0, if_neg (by rw [n32_eqm (by have := (kdD_at (d := drN d) y0).1; have := hm.1.1.2; omega)]; exact fun z => z), b54]
    obtain ⟨g2, eg2⟩ : ∃ g2, g2 = ksI g1 0 14 (Int32.ofNat (drN (drN d))) := ⟨_, rfl⟩
    have X2 : Xc h g2 c C0 K0 (drN (drN d), s.2) := by rw [eg2]; exact X1.seed hc _
    have rc2 := rc.cx X2.1
    have law2 := Law.cx X2.1
    have k2 := x_drawKind rc2 (d := drN (drN d)) X2.2.2.2.1 (tr := trD h d) (by omega)
    rw [law2.fqs.1, law2.fqs.2] at k2
    rw [← eg2]
    by_cases y1 : fqS h (trD h d) = 0
    · have no : ¬ okD h s.1 := fun z => by rw [hd] at z; exact z.2 y1
      rw [if_pos y1, if_pos y1] at k2
      refine ⟨g2, ?_, ?_⟩
      · unfold f_X11_caseBySeed_b54
        rw [if_pos kk0, k2, kb_s]
        dsimp only
        rw [if_pos rfl]
        unfold rgD
        rw [if_neg no]
        rfl
      · unfold cst
        rw [if_neg no]
        have : nxD h s.1 = drN (drN d) := by unfold nxD; rw [hd, if_neg y0, if_pos y1]
        rw [this]
        exact X2
    · have ok : okD h d := ⟨y0, y1⟩
      rw [if_neg y1, if_neg y1] at k2
      have X3 := X2.seed hc (drN (drN (drN d)))
      have en : nxD h d = drN (drN (drN d)) := by unfold nxD; rw [if_neg y0, if_neg y1]
      obtain ⟨g', a1, a2⟩ := x_case54 (q := g2) (g := ksI g2 0 14 (Int32.ofNat (drN (drN (drN d))))) rc rr b (by rw [en]; exact X3) hd ok C9 K9 k2
      refine ⟨g', ?_, ?_⟩
      · unfold rgD
        rw [if_pos (show okD h s.1 by rw [hd]; exact ok), hd]
        exact a1
      · unfold cst
        rw [if_pos (show okD h s.1 by rw [hd]; exact ok), hd]
        exact a2
