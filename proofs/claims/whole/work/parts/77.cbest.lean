/-! best on both sides -/
noncomputable def mrX (h : KH) (W P : Nat → Nat) : Nat → Int := fun s => mrZ h W (kX P s) s
noncomputable def bsN (h : KH) (W P : Nat → Nat) (hd : Nat) : Nat := (bsZ (mrX h W P) hd (2 ^ kN h 198 4)).1
theorem x_bestSet {h g : KH} {c : Nat} (rc : RC h c) (fg : kfp Wscr h g) {W P : Nat → Nat} (wb : ∀ w, W w ≤ 27960524111619) (ws : Wst g W P 72) (rz : Rzero g) {hd : Nat} (hh : hd < 64) :
    ∃ g', f_X10_bestSet g 162 c (Int32.ofNat hd) = some (if aT W 72 = 0 then -1 else Int32.ofNat (bsN h W P hd), g') ∧ kfp W89 g g' ∧ Rzero g' := by
  have rg := rc.1.fp fg
  have ab := aT_wb wb
  unfold f_X10_bestSet
  rw [if_pos kk162, x_totalW rg ws, kb_s]
  by_cases z : aT W 72 = 0
  · refine ⟨g, ?_, kfp.rf, rz⟩
    rw [if_pos (by rw [z]; decide), if_pos z]
  · obtain ⟨g1, e1, f1, z1⟩ := x_meritOf rc fg wb ws rz z (s := 0) (by omega)
    have e1' : f_X10_meritOf g 162 c (0 : Int32) = some (Int64.ofInt (mrX h W P 0), g1) := e1
    obtain ⟨g2, e2, f2, z2⟩ := x_bestLoop rc (fg.tr (f1.wide fun l i z => W89.sc z)) wb (ws.same f1 fun l i z => by unfold W89; omega) z1 z hh (mr := mrX h W P) rfl
    refine ⟨g2, ?_, f1.tr f2, z2⟩
    rw [if_neg (by rw [show (0 : Int64) = Int64.ofNat 0 from rfl, lgn_eq (by omega) (by omega)]; exact z), e1', kb_s, e2, kb_s, if_neg z]
    rfl
theorem bsN_lt {h : KH} {c : Nat} (rc : RC h c) (W P : Nat → Nat) (hd : Nat) : bsN h W P hd < 2 ^ kN h 198 4 ∧ bsN h W P hd < 64 := by
  have n4 := rc.2.2.2.1.2.1.1.2
  have p1 := pow6 _ n4
  have p0 : 0 < 2 ^ kN h 198 4 := Nat.pow_pos (by omega)
  have b := (bsZ_b (mr := mrX h W P) hd (fun s h6 => mrZ_b rc W _ (kX_lt P h6) s) (2 ^ kN h 198 4) p1).1
  unfold bsN
  omega
theorem m_bestSet {h g : KH} {c : Nat} (rc : RC h c) (fg : kfp Wscr h g) {W P : Nat → Nat} (wb : ∀ w, W w ≤ 27960524111619) (ws : ∀ w, w < 72 → kL g 213 w = Int64.ofNat (W w)) (wa : kL g 173 56 = Int64.ofNat (aT W 72)) (rz : Rzero g) (a0 : aT W 72 ≠ 0) {hd : Nat} (hh : hd < 2 ^ kN h 198 4)
    (hk : ∀ s, s < 2 ^ kN h 198 4 → rN W (kX P s) = rN W (mK g s)) : ∃ g', f_X12_bestSet g 173 (Int32.ofNat (2 ^ kN h 198 4 - 1 - hd)) = some (Int32.ofNat (bsN h W P hd), g') ∧ kfp W15 g g' ∧ Rzero g' := by
  have p0 : 0 < 2 ^ kN h 198 4 := Nat.pow_pos (by omega)
  obtain ⟨mr, hmr⟩ : ∃ mr, mr = fun s => mrZ h W (mK g s) s := ⟨_, rfl⟩
  have em : ∀ s, s < 2 ^ kN h 198 4 → mrX h W P s = mr s := fun s hs => by
    rw [hmr]
    unfold mrX mrZ
    rw [hk s hs]
  have eb : bsN h W P hd = (bsZ mr hd (2 ^ kN h 198 4)).1 := by
    unfold bsN
    rw [bsZ_cg hd _ (em 0 p0) em]
  obtain ⟨g1, e1, f1, z1⟩ := m_meritOf rc fg wb ws wa rz a0 (s := 0) (by omega)
  have e1' : f_X12_meritOf g 173 (0 : Int32) = some (Int64.ofInt (mr 0), g1) := by rw [hmr]; exact e1
  obtain ⟨g2, e2, f2, z2⟩ := m_bestLoop rc (fg.tr (f1.wide fun l i z => W15.sc z)) wb (fun w hw => by rw [f1.2.2.2 _ _ (by omega)]; exact ws w hw) (by rw [f1.2.2.2 _ _ (by omega)]; exact wa) z1 a0 hh (mr := mr) (fun s hs => by rw [hmr, mK_same (g := g) (g' := g1) fun i => f1.2.2.1 _ _ (by omega)])
  refine ⟨g2, ?_, kfp.tr (f1.wide fun l i z => z) f2, z2⟩
  unfold f_X12_bestSet
  rw [if_pos kk173, e1', kb_s, e2, kb_s, eb]
theorem n4_sc {h g : KH} (f : kfp Wscr h g) : kN g 198 4 = kN h 198 4 := kN_same (f.2.2.1 _ _ (by unfold Wscr; omega))
theorem hdN_sc {h g : KH} (f : kfp Wscr h g) : hdN g = hdN h := by
  unfold hdN
  rw [n4_sc f, (tm_sc f).2.1]
theorem RS.sc {h g : KH} (rs : RS h) (f : kfp Wscr h g) : RS g := rs.fp f fun l i z => by unfold Wscr; omega
theorem x_hd {h g : KH} {c : Nat} (rc : RC h c) (rs : RS h) (f : kfp Wscr h g) : f_X8_heardBits g 64 = some (Int32.ofNat (hdN h)) := by
  have rcg := rc.sc f
  have rsg := rs.sc f
  rw [x_heard rcg (St64 rcg.1) rsg.xs, rsg.hd rcg, hdN_sc f]
theorem m_free {h g : KH} {c : Nat} (rc : RC h c) (rs : RS h) (f : kfp Wscr h g) : f_X12_freeTests g 173 = some (Int32.ofNat (2 ^ kN h 198 4 - 1 - hdN h)) := by
  rw [m_freeTests (rc.sc f) (rs.sc f).ms, n4_sc f, (tm_sc f).2.1]
  have := fb_hb (anN h) (kN h 198 4)
  rw [show fbN (anN h) (kN h 198 4) = 2 ^ kN h 198 4 - 1 - hdN h by unfold hdN; omega]
theorem Scr.x {h g g' : KH} {c : Nat} (hc : ctc c) (s : Scr h g c) (f : kfp W89 g g') (z : Rzero g') : Scr h g' c :=
  ⟨s.1.tr (f.wide fun l i z => z.sc), s.2.1.fp f fun l i z w => by unfold Wlw at z; unfold W89 at w; rcases hc with rfl | rfl <;> omega, z⟩
theorem Scr.m {h g g' : KH} {c : Nat} (hc : ctc c) (s : Scr h g c) (f : kfp W15 g g') (z : Rzero g') : Scr h g' c :=
  ⟨s.1.tr (f.wide fun l i z => z.sc), s.2.1.fp f fun l i z w => by unfold Wlw at z; unfold W15 at w; rcases hc with rfl | rfl <;> omega, z⟩
theorem c_best {h : KH} {c : Nat} (rc : RC h c) (rs : RS h) (rr : Rrule h c) (ry : Ryt h c) (rz : Rzero h) : ∃ r h1 h2, f_X11_best h 0 = some (r, h1) ∧ f_X12_best h1 173 = some (r, h2) ∧ Scr h h2 c := by
  obtain ⟨hr, hc, h5, hm, -⟩ := id rc
  have c39 := hc.lt
  have n4 := hm.2.1.1.2
  have hd := hdN_lt rc
  have wb := WN_le rc
  have ab := aT_b rc
  obtain ⟨h1, e1, s1, a1, w1⟩ := x_now rc rs rr ry rz
  have r1 := hr.fp s1.1
  obtain ⟨h2, e2, f2, z2⟩ := x_bestSet rc s1.1 wb w1 s1.2.2 hd.2
  have s2 := s1.x hc f2 z2
  obtain ⟨h3, e3, s3, f3, y3, m3⟩ := m_now rc rs rr s2
  have ex : f_X11_best h 0 = some (if aT (WN h) 72 = 0 then -1 else Int32.ofNat (bsN h (WN h) (paN h (tmM h)) (hdN h)), h2) := by
    unfold f_X11_best
    rw [if_pos kk0, rf0_11 hr, if_pos (show 162 < 999999 by omega), h5, if_pos (show c < 999999 by omega), rf0_7 hr, if_pos (show 64 < 999999 by omega), if_pos kk162, e1, kb_s, rf0_11 r1, if_pos (show 162 < 999999 by omega), s1.1.2.1, h5, if_pos (show c < 999999 by omega), rf0_7 r1, if_pos (show 64 < 999999 by omega), if_pos kk64, x_hd rc rs s1.1, kb_s, if_pos kk162, e2, kb_s]
  by_cases q : aT (WN h) 72 = 0
  · refine ⟨_, h2, h3, ex, ?_, s3⟩
    unfold f_X12_best
    rw [if_pos kk173, e3, kb_s, if_pos ((m_isAll m3.2.1 ab).mpr q), if_pos q]
  · obtain ⟨h4, e4, f4, z4⟩ := m_bestSet rc s3.1 wb m3.1 m3.2.1 s3.2.2 q hd.1 (P := paN h (tmM h)) (fun s hs => mst_keys rc rs rr m3 hs)
    refine ⟨_, h2, h4, ex, ?_, s3.m hc f4 z4⟩
    unfold f_X12_best
    rw [if_pos kk173, e3, kb_s, if_neg (fun z => q ((m_isAll m3.2.1 ab).mp z)), m_free rc rs s3.1, kb_s, e4, kb_s, if_neg q]
