/-! a QUESTION read, on both sides -/
def qbd (b : Nat → Nat) (n : Nat) (s : PS) : PR := if wI b n s = 9 ∨ wI b n s = 22 ∨ wI b n s = 23 then tst b n (lvF b n false 6) (nxt b n s) else if wI b n s = 24 ∨ wI b n s = 25 ∨ wI b n s = 26 then smm b n (lvP b n false 6) (nxt b n s) else pft b n 1 s
def qEd (b : Nat → Nat) (n : Nat) (s : PS) : PR := if tkT b n s.1 s.2.1 = 1 then .inr s else pft b n 1 s
def s00 : PS := (0, false, [])
def qst (b : Nat → Nat) (n : Nat) : PR := pbd (qbd b n s00) (qEd b n)
theorem kRefs.r10 {h : KH} (hr : kRefs h) {v : Nat} (hv : v = 4 ∨ v = 33 ∨ v = 59) : kRefs (ksR h 10 1 v) := by
  refine ⟨hr.1, fun l hl i hi a b => ?_, ?_, ?_⟩
  · rw [kR_sR, if_neg b]
    exact hr.2.1 l hl i hi a b
  · rw [kR_sR, if_neg (by omega), kR_sR, if_neg (by omega)]
    exact hr.2.2.1
  · rw [kR_sR, if_pos ⟨rfl, rfl⟩]
    exact hv
theorem x_writeTo (h : KH) {v : Nat} (hv : v = 4 ∨ v = 33 ∨ v = 59) {b : Int32} (hb : b = 0 ∨ b = 1) : f_X4_writeTo h 10 v b = some (ksI (ksI (ksR h 10 1 v) v 2 0) 10 2 b) := by
  obtain ⟨k1, k2, k3, k4⟩ := cv_k hv
  have e : kR (ksR h 10 1 v) 10 1 = v := by rw [kR_sR, if_pos ⟨rfl, rfl⟩]
  unfold f_X4_writeTo
  rw [if_pos kk10, if_pos (show v < 999999 by omega), kl_e, e, if_pos (show v < 999999 by omega), if_pos k1, kl_e, if_pos hb, kl_e]
theorem x_readQuestion {h : KH} {n : Nat} (hr : kRefs h) (ht : Rtape h) (rw0 : Rwords h) (n16 : n ≤ 1600) (hn : kI h 1 1 = Int32.ofNat n) : ∃ g', f_X4_readQuestion h 10 4 = some (if wI (tyN h) n s00 = 27 then -1 else Int32.ofNat (wI (tyN h) n s00), g') ∧ kfp (fun l i => Wg 4 l i ∨ (l = 10 ∧ i = 2)) (ksR h 10 1 4) g' ∧ Gx h g' n 4 false (qst (tyN h) n) := by
  obtain ⟨g1, eg1⟩ : ∃ g1, g1 = ksI (ksI (ksR h 10 1 4) 4 2 0) 10 2 (1 : Int32) := ⟨_, rfl⟩
  have f1 : kfp (fun l i => Wg 4 l i ∨ (l = 10 ∧ i = 2)) (ksR h 10 1 4) g1 := by rw [eg1]; exact (kfp.rf.sI _ (Or.inl (by unfold Wg; omega))).sI _ (Or.inr ⟨rfl, rfl⟩)
  have r1 : kRefs g1 := by rw [eg1]; exact ((hr.r10 (Or.inl rfl)).sI _ _ _).sI _ _ _
  have I : ∀ l i, l ≠ 4 → l ≠ 10 → kI g1 l i = kI h l i := fun l i a b => by rw [eg1, kI_sI, if_neg (by omega), kI_sI, if_neg (by omega), kI_sR]
  have xr : Xr h g1 n := ⟨r1, (I _ _ (by omega) (by omega)).trans hn, fun i => I _ _ (by omega) (by omega), fun j hj => (I _ _ (by omega) (by omega)).trans (rw0.1 j hj)⟩
  obtain ⟨g2, e2, f2, x2⟩ := x_begin ht n16 xr []
  have gx2 : Gx h g2 n 4 false (.inr s00) := ⟨x2, ⟨(f2.2.1 _ _).trans (by rw [eg1]; show kR (ksR h 10 1 4) 10 1 = 4; rw [kR_sR, if_pos ⟨rfl, rfl⟩]), (f2.2.2.1 _ _ (by omega)).trans (by rw [eg1, kI_sI, if_pos ⟨rfl, rfl⟩]; rfl), Or.inl rfl⟩, (f2.2.2.1 _ _ (by omega)).trans (by rw [eg1, kI_sI, if_neg (by omega), kI_sI, if_pos ⟨rfl, rfl⟩]; rfl), Nat.le_refl _, fun i hi => absurd hi (Nat.not_lt_zero _)⟩
  have F2 : kfp (fun l i => Wg 4 l i ∨ (l = 10 ∧ i = 2)) (ksR h 10 1 4) g2 := f1.tr (f2.wide fun l i z => Or.inl (Or.inl z))
  have r2 := gx2.kR
  have wl : wI (tyN h) n s00 ≤ 27 := wI_le _ _ _
  -- the end
  have b102 : ∀ g v2 r, Gx h g n 4 false r → kfp (fun l i => Wg 4 l i ∨ (l = 10 ∧ i = 2)) (ksR h 10 1 4) g → ∃ g', f_X4_readQuestion_b102 g 10 v2 = some (v2, g') ∧ kfp (fun l i => Wg 4 l i ∨ (l = 10 ∧ i = 2)) (ksR h 10 1 4) g' ∧ Gx h g' n 4 false (pbd r (qEd (tyN h) n)) := fun g v2 r x f => by
    have rg := x.kR
    unfold f_X4_readQuestion_b102
    rw [if_pos kk10, rf10_0 rg, if_pos (show 8 < 999999 by omega), if_pos kk8]
    cases r with
    | inl e =>
      have go : f_X7_goesOn g 8 = some 0 := x_goesOn ht n16 x.1
      rw [go, kb_s, if_pos rfl]
      exact ⟨g, rfl, f, x⟩
    | inr s =>
      have go : f_X7_goesOn g 8 = some (if tkT (tyN h) n s.1 s.2.1 = 1 then 0 else 1) := x_goesOn ht n16 x.1
      rw [pbd_r, go, kb_s]
      unfold qEd
      by_cases y : tkT (tyN h) n s.1 s.2.1 = 1
      · rw [if_pos y, if_pos rfl, if_pos y]
        exact ⟨g, rfl, f, x⟩
      · rw [if_neg y, if_neg (by decide), if_neg y]
        obtain ⟨g', e', f', x'⟩ := x_stopG (k := 1) ht n16 x
        have e'' : f_X7_stop g 8 (1 : Int32) (kI g 8 4) = some g' := e'
        rw [e'', kb_s]
        exact ⟨g', rfl, f.tr (f'.wide fun l i z => Or.inl z), x'⟩
  have test : ∀ v2, (wI (tyN h) n s00 = 9 ∨ wI (tyN h) n s00 = 22 ∨ wI (tyN h) n s00 = 23) → ∃ g', f_X4_readQuestion_b39 g2 10 v2 = some (v2, g') ∧ kfp (fun l i => Wg 4 l i ∨ (l = 10 ∧ i = 2)) (ksR h 10 1 4) g' ∧ Gx h g' n 4 false (qst (tyN h) n) := fun v2 hw => by
    obtain ⟨g3, e3, f3, x3⟩ := x_nextG ht n16 gx2
    obtain ⟨g4, e4, f4, x4⟩ := x_readTest ht n16 x3
    obtain ⟨g5, e5, f5, x5⟩ := b102 g4 v2 _ x4 ((F2.tr (f3.wide fun l i z => Or.inl z)).tr (f4.wide fun l i z => Or.inl z))
    unfold f_X4_readQuestion_b39
    rw [if_pos kk10, rf10_0 r2, if_pos (show 8 < 999999 by omega), if_pos kk8, e3, kb_s, e4, kb_s, e5]
    refine ⟨g5, rfl, f5, ?_⟩
    unfold qst qbd
    rw [if_pos hw]
    exact x5
  have summ : ∀ v2, (wI (tyN h) n s00 = 24 ∨ wI (tyN h) n s00 = 25 ∨ wI (tyN h) n s00 = 26) → ∃ g', f_X4_readQuestion_b72 g2 10 v2 = some (v2, g') ∧ kfp (fun l i => Wg 4 l i ∨ (l = 10 ∧ i = 2)) (ksR h 10 1 4) g' ∧ Gx h g' n 4 false (qst (tyN h) n) := fun v2 hw => by
    obtain ⟨g3, e3, f3, x3⟩ := x_nextG ht n16 gx2
    obtain ⟨g4, e4, f4, x4⟩ := x_readSum ht n16 x3
    obtain ⟨g5, e5, f5, x5⟩ := b102 g4 v2 _ x4 ((F2.tr (f3.wide fun l i z => Or.inl z)).tr (f4.wide fun l i z => Or.inl z))
    unfold f_X4_readQuestion_b72
    rw [if_pos kk10, rf10_0 r2, if_pos (show 8 < 999999 by omega), if_pos kk8, e3, kb_s, e4, kb_s, e5]
    refine ⟨g5, rfl, f5, ?_⟩
    unfold qst qbd
    rw [if_neg (by omega), if_pos hw]
    exact x5
  obtain ⟨v, ev⟩ : ∃ v, v = (if wI (tyN h) n s00 = 27 then -1 else Int32.ofNat (wI (tyN h) n s00)) := ⟨_, rfl⟩
  have vi : ∀ k, k < 27 → (v = Int32.ofNat k ↔ wI (tyN h) n s00 = k) := fun k hk => by
    rw [ev]
    by_cases y : wI (tyN h) n s00 = 27
    · rw [if_pos y, eq_comm, n32_eqm (by omega)]
      exact ⟨fun z => z.elim, fun z => by omega⟩
    · rw [if_neg y, n32_eq (by omega) (by omega)]
  rw [← ev]
  unfold f_X4_readQuestion
  rw [if_pos kk10, x_writeTo h (Or.inl rfl) (Or.inr rfl), kb_s, ← eg1, rf10_0 r1, if_pos (show 8 < 999999 by omega), if_pos kk8, e2, kb_s, rf10_0 r2, if_pos (show 8 < 999999 by omega), if_pos kk8, x_wordHere ht n16 x2]
  have ev' : (if wI (tyN h) n (0, false, []) = 27 then -1 else Int32.ofNat (wI (tyN h) n (0, false, []))) = v := ev.symm
  rw [ev', kb_s]
  by_cases y9 : wI (tyN h) n s00 = 9
  · rw [if_pos (show v = (9 : Int32) from (vi 9 (by omega)).mpr y9)]
    exact test v (by omega)
  · rw [if_neg (show ¬ v = (9 : Int32) from fun z => y9 ((vi 9 (by omega)).mp z))]
    by_cases y22 : wI (tyN h) n s00 = 22
    · rw [if_pos (show v = (22 : Int32) from (vi 22 (by omega)).mpr y22)]
      exact test v (by omega)
    · rw [if_neg (show ¬ v = (22 : Int32) from fun z => y22 ((vi 22 (by omega)).mp z))]
      by_cases y23 : wI (tyN h) n s00 = 23
      · rw [if_pos (show v = (23 : Int32) from (vi 23 (by omega)).mpr y23)]
        exact test v (by omega)
      · rw [if_neg (show ¬ v = (23 : Int32) from fun z => y23 ((vi 23 (by omega)).mp z))]
        by_cases y24 : wI (tyN h) n s00 = 24
        · rw [if_pos (show v = (24 : Int32) from (vi 24 (by omega)).mpr y24)]
          exact summ v (by omega)
        · rw [if_neg (show ¬ v = (24 : Int32) from fun z => y24 ((vi 24 (by omega)).mp z))]
          by_cases y25 : wI (tyN h) n s00 = 25
          · rw [if_pos (show v = (25 : Int32) from (vi 25 (by omega)).mpr y25)]
            exact summ v (by omega)
          · rw [if_neg (show ¬ v = (25 : Int32) from fun z => y25 ((vi 25 (by omega)).mp z))]
            by_cases y26 : wI (tyN h) n s00 = 26
            · rw [if_pos (show v = (26 : Int32) from (vi 26 (by omega)).mpr y26)]
              exact summ v (by omega)
            · rw [if_neg (show ¬ v = (26 : Int32) from fun z => y26 ((vi 26 (by omega)).mp z))]
              obtain ⟨g3, e3, f3, x3⟩ := x_stopG (k := 1) ht n16 gx2
              have e3' : f_X7_stop g2 8 (1 : Int32) (kI g2 8 4) = some g3 := e3
              obtain ⟨g5, e5, f5, x5⟩ := b102 g3 v _ x3 (F2.tr (f3.wide fun l i z => Or.inl z))
              rw [e3', kb_s, e5]
              refine ⟨g5, rfl, f5, ?_⟩
              unfold qst qbd
              rw [if_neg (by omega), if_neg (by omega)]
              exact x5
