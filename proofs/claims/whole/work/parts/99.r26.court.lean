/-! court: both sides alike -/
theorem kfp.sR {W : Nat → Nat → Prop} {h h' : KH} (x : kfp W h h') (l i v : Nat) : kfp W (ksR h l i v) (ksR h' l i v) :=
  ⟨x.1, fun a b => by rw [kR_sR, kR_sR, x.2.1], x.2.2.1, x.2.2.2⟩
theorem kRefs.swap {h : KH} {c c' : Nat} (hr : kRefs h) (cc : cpr c c') : kRefs (ksR (ksR h 0 5 c') 0 6 c) ∧ kR (ksR (ksR h 0 5 c') 0 6 c) 0 5 = c' := by
  have e5 : kR (ksR (ksR h 0 5 c') 0 6 c) 0 5 = c' := by rw [kR_sR, if_neg (by omega), kR_sR, if_pos ⟨rfl, rfl⟩]
  have e6 : kR (ksR (ksR h 0 5 c') 0 6 c) 0 6 = c := by rw [kR_sR, if_pos ⟨rfl, rfl⟩]
  have e10 : kR (ksR (ksR h 0 5 c') 0 6 c) 10 1 = kR h 10 1 := by rw [kR_sR, if_neg (by omega), kR_sR, if_neg (by omega)]
  refine ⟨⟨hr.1, fun l hl i hi hn hm => ?_, ?_, ?_⟩, e5⟩
  · rw [kR_sR, if_neg (fun z => hn ⟨z.1, Or.inr z.2⟩), kR_sR, if_neg (fun z => hn ⟨z.1, Or.inl z.2⟩)]
    exact hr.2.1 l hl i hi hn hm
  · rw [e5, e6]
    unfold cpr at cc
    omega
  · rw [e10]
    exact hr.2.2.2
theorem cpr.of {h : KH} {c : Nat} (hr : kRefs h) (h5 : kR h 0 5 = c) : ∃ c', kR h 0 6 = c' ∧ cpr c c' ∧ ctc c' := by
  rcases hr.2.2.1 with ⟨a, b⟩ | ⟨a, b⟩
  · exact ⟨38, b, Or.inl ⟨h5.symm.trans a, rfl⟩, Or.inr rfl⟩
  · exact ⟨12, b, Or.inr ⟨h5.symm.trans a, rfl⟩, Or.inl rfl⟩
def Wcg (c' l i : Nat) : Prop := Wcf c' l i ∨ (l = 64 ∧ i < 3) ∨ (65 ≤ l ∧ l ≤ 67) ∨ (l = 0 ∧ i = 13) ∨ (l = 72 ∧ i = 3) ∨ (l = 155 ∧ i = 3) ∨ Wup l i ∨ (l = 199 ∧ 18 ≤ i) ∨ l = 207 ∨ (l = 173 ∧ (i = 58 ∨ i = 61))
theorem c_court {h : KH} {c : Nat} (rp : RP c h) : ∃ r h1 h2, f_X11_court h 0 = some (r, h1) ∧ f_X12_court h1 173 = some (r, h2) ∧ ∃ d, RP d h2 := by
  obtain ⟨rc, rn, rr, ry, rs, rk, rpa, rcm, rz, ra, rwd, ht, rre, rsd, rfa, rim⟩ := id rp
  obtain ⟨hr, hc, h5, -⟩ := id rc
  obtain ⟨c', h6, cc, hc'⟩ := cpr.of hr h5
  have cl : c < 39 ∧ c' < 39 ∧ 12 ≤ c' := by unfold cpr at cc; omega
  obtain ⟨n, n16, hn, hn2⟩ := ht.1
  obtain ⟨m, g', e1, f1, k1, k2, z25, r1⟩ := x_readInto hr ht rwd n16 hn hc'
  obtain ⟨v, hv⟩ : ∃ v, kR g' 10 1 = v := ⟨_, rfl⟩
  have f1' : kfp (Wcl c') (ksR h 10 1 v) g' := by rw [← hv]; exact f1
  obtain ⟨gA, egA⟩ : ∃ gA, gA = ksI g' 1 1 (0 : Int32) := ⟨_, rfl⟩
  have f1A : kfp (fun l i => l = 1 ∧ i = 1) g' gA := by rw [egA]; exact kfp.rf.sI _ ⟨rfl, rfl⟩
  have FAn : kfp (fun l i => Wcl c' l i ∨ (l = 1 ∧ i = 1)) (ksR h 10 1 v) gA := (f1'.wide fun l i z => Or.inl z).tr (f1A.wide fun l i z => Or.inr z)
  have FA : kfp (Wcf c') (ksR h 10 1 v) gA := FAn.wide fun l i z => Wcf.x z
  have rA := r1.fp f1A
  have A11 : kI gA 1 1 = 0 := by rw [egA, kI_sI, if_pos ⟨rfl, rfl⟩]
  have A5 : kR gA 0 5 = c := (FA.2.1 _ _).trans (by rw [kR_sR, if_neg (by omega)]; exact h5)
  have A6 : kR gA 0 6 = c' := (FA.2.1 _ _).trans (by rw [kR_sR, if_neg (by omega)]; exact h6)
  have gA8 : ∀ i, kI gA 8 i = kI g' 8 i := fun i => f1A.2.2.1 _ _ (by omega)
  -- the model reads, from any heap that holds tape and words
  have mread : ∀ {W : Nat → Nat → Prop} {h0 hX : KH}, kRefs hX → (∀ l i, kI h0 l i = kI h l i) → kfp W h0 hX → (∀ l i, (l = 173 ∧ i = 1) ∨ l = 174 ∨ l = 9 ∨ (176 ≤ l ∧ l ≤ 197) ∨ (218 ≤ l ∧ l ≤ 238) → ¬ W l i) → ∃ g', f_X12_court hX 173 = f_X12_court_b109 g' 173 ∧ kfp Wmc hX g' ∧ MxE h g' n ∧ kI g' 173 1 = 0 := fun {W h0 hX} rX e0 f hd => by
    have I : ∀ l i, (l = 173 ∧ i = 1) ∨ l = 174 ∨ l = 9 ∨ (176 ≤ l ∧ l ≤ 197) ∨ (218 ≤ l ∧ l ≤ 238) → kI hX l i = kI h l i := fun l i z => (f.2.2.1 _ _ (hd l i z)).trans (e0 l i)
    exact m_courtReads ht n16 rX ⟨fun j hj => (I _ _ (by omega)).trans (rwd.1 j hj), fun j hj i hi => (I _ _ (by omega)).trans (rwd.2.1 j hj i hi), fun q hq i hi => (I _ _ (by omega)).trans (rwd.2.2 q hq i hi)⟩ ((I _ _ (by omega)).trans hn2) (fun i => I _ _ (by omega))
  have tape : ∀ {W : Nat → Nat → Prop} {h0 hZ : KH}, (∀ l i, kI h0 l i = kI h l i) → kfp W h0 hZ → (∀ l i, l = 2 ∨ l = 174 → ¬ W l i) → kI hZ 1 1 = 0 → kI hZ 173 1 = 0 → Rtape hZ := fun {W h0 hZ} e0 f hd a b => by
    refine ⟨⟨0, by omega, a, b⟩, fun i hi => ?_⟩
    rw [f.2.2.1 174 i (hd _ _ (by omega)), f.2.2.1 2 i (hd _ _ (by omega)), e0, e0]
    exact ht.2 i hi
  have xtop : ∀ X, (if kI gA 8 7 = 0 then (if c < 999999 then kl c fun x18 => if c' < 999999 then if c' < 999999 then kl (ksR gA 0 5 c') fun h22 => if x18 < 999999 then kl (ksR h22 0 6 x18) fun h26 => if (kR h26 0 7) < 999999 then if kkind (kR h26 0 7) = 8 then kb (f_X8_clear h26 (kR h26 0 7)) fun r31 => kl (ksI r31 0 13 (0 : Int32)) fun h35 => if (kR h35 0 9) < 999999 then if kkind (kR h35 0 9) = 5 then kl (ksI h35 (kR h35 0 9) 3 (0 : Int32)) fun h40 => if (kR h40 0 10) < 999999 then if kkind (kR h40 0 10) = 0 then kl (ksI h40 (kR h40 0 10) 3 (0 : Int32)) fun h45 => some (Int32.ofNat m, h45) else none else none else none else none else none else none else none else none else none else none) else kb (f_X11_refuse gA 0 (1 : Int32)) fun r48 => some (r48.1, r48.2)) = X → f_X11_court h 0 = X := fun X hX => by
    rw [← hX]
    unfold f_X11_court
    rw [if_pos kk0, rf0_4 hr, if_pos (show 11 < 999999 by omega), h6, if_pos (show c' < 999999 by omega), if_pos kk11, e1, kb_s]
    dsimp only
    rw [rf0_0 r1, if_pos (show 1 < 999999 by omega), if_pos kk1, kl_e, ← egA, rf0_2 rA, if_pos (show 8 < 999999 by omega), if_pos kk8, A5, A6]
  cases hq : cts (tyN h) n 60 0 CT0 s00 with
  | inl e =>
    have x1 := k1 e hq
    have a7 : kI gA 8 7 = Int32.ofNat e.1 := (gA8 7).trans x1.2.2.1
    have a8 : kI gA 8 8 = Int32.ofNat e.2 := (gA8 8).trans x1.2.2.2
    obtain ⟨gR, egR⟩ : ∃ gR, gR = ksI gA 172 1 (kI gA 172 1 + 1) := ⟨_, rfl⟩
    have fR : kfp (Wcf c') gA gR := by rw [egR]; exact kfp.rf.sI _ (by unfold Wcf; omega)
    have FR := FA.tr fR
    have fRn : kfp (fun l i => l = 172 ∧ i = 1) gA gR := by rw [egR]; exact kfp.rf.sI _ ⟨rfl, rfl⟩
    have FRn : kfp (fun l i => (Wcl c' l i ∨ (l = 1 ∧ i = 1)) ∨ (l = 172 ∧ i = 1)) (ksR h 10 1 v) gR := (FAn.wide fun l i z => Or.inl z).tr (fRn.wide fun l i z => Or.inr z)
    have rR := rA.fp fR
    obtain ⟨g5, em, fm, hh, m1⟩ := mread (h0 := ksR h 10 1 v) rR (fun _ _ => rfl) FRn (fun l i z => by unfold Wcl Wcr; omega)
    rcases hh with ⟨e', md, he'⟩ | ⟨mm, C, s, a, -, -, -, -, -, he'⟩
    · rw [hq] at he'
      cases he'
      have nz : ¬ kI gA 8 7 = 0 := by
        rw [a7, n32_ne0 (by have := md.2.2.1; omega)]
        have := md.2.1
        omega
      have r5 := rR.fp fm
      obtain ⟨g6, eg6⟩ : ∃ g6, g6 = ksI (ksI g5 173 7 (kI g5 173 5)) 173 8 (kI (ksI g5 173 7 (kI g5 173 5)) 173 6) := ⟨_, rfl⟩
      have f6 : kfp (fun l i => l = 173 ∧ (i = 7 ∨ i = 8)) g5 g6 := by rw [eg6]; exact (kfp.rf.sI _ ⟨rfl, Or.inl rfl⟩).sI _ ⟨rfl, Or.inr rfl⟩
      have r6 := r5.fp f6
      have b5 : kI g6 173 5 = kI g5 173 5 := f6.2.2.1 _ _ (by omega)
      obtain ⟨g7, eg7⟩ : ∃ g7, g7 = ksI g6 175 1 (kI g6 175 1 + 1) := ⟨_, rfl⟩
      have f7 : kfp (fun l i => l = 175 ∧ i = 1) g6 g7 := by rw [eg7]; exact kfp.rf.sI _ ⟨rfl, rfl⟩
      have r7 := r6.fp f7
      have G : kfp (fun l i => (Wmc l i ∨ (l = 173 ∧ (i = 7 ∨ i = 8))) ∨ (l = 175 ∧ i = 1)) gR g7 := ((fm.wide fun l i z => Or.inl (Or.inl z)).tr (f6.wide fun l i z => Or.inl (Or.inr z))).tr (f7.wide fun l i z => Or.inr z)
      have FF : kfp (Wcf c') (ksR h 10 1 v) g7 := FR.tr (G.wide fun l i z => z.elim Wcf.m fun z => by unfold Wcf; omega)
      have GI : ∀ l i, l ≠ 173 → l ≠ 175 → ¬ (198 ≤ l ∧ l ≤ 206) → l ≠ 239 → l ≠ 240 → kI g7 l i = kI gR l i := fun l i a b d u w => G.2.2.1 _ _ (by unfold Wmc Wsm Wtr Wlt Wmn Wq2 Wmp; omega)
      refine ⟨-1, gR, g7, xtop _ ?_, ?_, c, court_bad rp cc r7 FF (tape (h0 := ksR h 10 1 v) (fun _ _ => rfl) FF (fun l i z => by unfold Wcf; unfold cpr at cc; omega) ?_ ?_) (fun j hj => ?_) ⟨?_, ?_⟩⟩
      · rw [if_neg nz, show f_X11_refuse gA 0 (1 : Int32) = _ from x_refuse rA (j := 1) (by omega), kb_s, egR]
      · rw [em]
        unfold f_X12_court_b109
        rw [if_pos kk173, kl_e, kl_e, ← eg6, b5, if_neg md.bad, rf173_9 r6, if_pos (show 175 < 999999 by omega), if_pos kk175, kn175, if_neg (show ¬ 6 ≤ 1 by omega), kl_e, ← eg7]
      · rw [GI _ _ (by omega) (by omega) (by omega) (by omega) (by omega), egR, kI_sI, if_neg (by omega)]
        exact A11
      · rw [f7.2.2.1 _ _ (by omega), f6.2.2.1 _ _ (by omega)]
        exact m1
      · have u1 : kI gA 172 j = kI h 172 j := (f1A.2.2.1 _ _ (by omega)).trans (f1'.2.2.1 _ _ (by unfold Wcl Wcr; unfold cpr at cc; omega))
        have u1' : kI gA 172 1 = kI h 172 1 := (f1A.2.2.1 _ _ (by omega)).trans (f1'.2.2.1 _ _ (by unfold Wcl Wcr; unfold cpr at cc; omega))
        have u2 : ∀ i, kI g6 175 i = kI h 175 i := fun i => (f6.2.2.1 _ _ (by omega)).trans ((fm.2.2.1 _ _ (by unfold Wmc Wsm Wtr Wlt Wmn Wq2 Wmp; omega)).trans ((by rw [egR, kI_sI, if_neg (by omega)] : kI gR 175 i = kI gA 175 i).trans ((f1A.2.2.1 _ _ (by omega)).trans (f1'.2.2.1 _ _ (by unfold Wcl Wcr; unfold cpr at cc; omega)))))
        rw [GI 172 j (by omega) (by omega) (by omega) (by omega) (by omega), egR, eg7, kI_sI, kI_sI]
        by_cases y : j = 1
        · subst y
          rw [if_pos ⟨rfl, rfl⟩, if_pos ⟨rfl, rfl⟩, u1', u2, rre 1 (by omega)]
        · rw [if_neg (fun z => y z.2), if_neg (fun z => y z.2), u1, u2]
          exact rre j hj
      · rw [GI _ _ (by omega) (by omega) (by omega) (by omega) (by omega), egR, kI_sI, if_neg (by omega), a7, f7.2.2.1 _ _ (by omega), eg6, kI_sI, if_neg (by omega), kI_sI, if_pos ⟨rfl, rfl⟩]
        exact md.2.2.2.1.symm
      · rw [GI _ _ (by omega) (by omega) (by omega) (by omega) (by omega), egR, kI_sI, if_neg (by omega), a8, f7.2.2.1 _ _ (by omega), eg6, kI_sI, if_pos ⟨rfl, rfl⟩, kI_sI, if_neg (by omega)]
        exact md.2.2.2.2.symm
    · rw [hq] at he'
      exact nomatch he'
  | inr r =>
    obtain ⟨em0, cx1, wfc, b7, b8⟩ := k2 r hq
    have a7 : kI gA 8 7 = 0 := (gA8 7).trans b7
    have a8 : kI gA 8 8 = -1 := (gA8 8).trans b8
    obtain ⟨h0, eh0⟩ : ∃ h0, h0 = ksR (ksR (ksR h 10 1 v) 0 5 c') 0 6 c := ⟨_, rfl⟩
    have I0 : ∀ l i, kI h0 l i = kI h l i := fun l i => by rw [eh0]; rfl
    obtain ⟨gB, egB⟩ : ∃ gB, gB = ksR (ksR gA 0 5 c') 0 6 c := ⟨_, rfl⟩
    have FB : kfp (Wcf c') h0 gB := by rw [eh0, egB]; exact (FA.sR 0 5 c').sR 0 6 c
    have FBn : kfp (fun l i => Wcl c' l i ∨ (l = 1 ∧ i = 1)) h0 gB := by rw [eh0, egB]; exact (FAn.sR 0 5 c').sR 0 6 c
    obtain ⟨rB, B5⟩ : kRefs gB ∧ kR gB 0 5 = c' := by rw [egB]; exact rA.swap cc
    have IB : ∀ l i, kI gB l i = kI gA l i := fun l i => by rw [egB]; rfl
    obtain ⟨gC, egC⟩ : ∃ gC, gC = xclear gB 64 := ⟨_, rfl⟩
    have fC : kfp (fun a b => (a = 64 ∧ b < 3) ∨ a = 64 + 1 ∨ a = 64 + 2 ∨ a = 64 + 3) gB gC := by rw [egC]; exact xclear_fp gB 64
    have rC := rB.fp fC
    obtain ⟨gD, egD⟩ : ∃ gD, gD = ksI gC 0 13 (0 : Int32) := ⟨_, rfl⟩
    have fD : kfp (fun l i => l = 0 ∧ i = 13) gC gD := by rw [egD]; exact kfp.rf.sI _ ⟨rfl, rfl⟩
    have rD := rC.fp fD
    obtain ⟨gE, egE⟩ : ∃ gE, gE = ksI gD 72 3 (0 : Int32) := ⟨_, rfl⟩
    have fE : kfp (fun l i => l = 72 ∧ i = 3) gD gE := by rw [egE]; exact kfp.rf.sI _ ⟨rfl, rfl⟩
    have rE := rD.fp fE
    obtain ⟨gF, egF⟩ : ∃ gF, gF = ksI gE 155 3 (0 : Int32) := ⟨_, rfl⟩
    have fF : kfp (fun l i => l = 155 ∧ i = 3) gE gF := by rw [egF]; exact kfp.rf.sI _ ⟨rfl, rfl⟩
    have rF := rE.fp fF
    have fBF : kfp (fun l i => (l = 64 ∧ i < 3) ∨ (65 ≤ l ∧ l ≤ 67) ∨ (l = 0 ∧ i = 13) ∨ (l = 72 ∧ i = 3) ∨ (l = 155 ∧ i = 3)) gB gF := (((fC.wide fun l i z => by omega).tr (fD.wide fun l i z => by omega)).tr (fE.wide fun l i z => by omega)).tr (fF.wide fun l i z => by omega)
    have FF0 : kfp (fun l i => Wcf c' l i ∨ (l = 64 ∧ i < 3) ∨ (65 ≤ l ∧ l ≤ 67) ∨ (l = 0 ∧ i = 13) ∨ (l = 72 ∧ i = 3) ∨ (l = 155 ∧ i = 3)) h0 gF := (FB.wide fun l i z => Or.inl z).tr (fBF.wide fun l i z => Or.inr z)
    have FF0n : kfp (fun l i => (Wcl c' l i ∨ (l = 1 ∧ i = 1)) ∨ (l = 64 ∧ i < 3) ∨ (65 ≤ l ∧ l ≤ 67) ∨ (l = 0 ∧ i = 13) ∨ (l = 72 ∧ i = 3) ∨ (l = 155 ∧ i = 3)) h0 gF := (FBn.wide fun l i z => Or.inl z).tr (fBF.wide fun l i z => Or.inr z)
    obtain ⟨g5, em, fm, hh, m1⟩ := mread rF I0 FF0n (fun l i z => by unfold Wcl Wcr; omega)
    rcases hh with ⟨e', md, he'⟩ | ⟨mm, C, s, a, mm60, k43, md, cm, wf, he'⟩
    · rw [hq] at he'
      exact nomatch he'
    · rw [hq] at he'
      cases he'
      have em1 : mm = m := em0
      have k43' : kI g5 173 43 = Int32.ofNat m := by rw [k43, em1]
      have r5 := rF.fp fm
      obtain ⟨g6, eg6⟩ : ∃ g6, g6 = ksI (ksI g5 173 7 (kI g5 173 5)) 173 8 (kI (ksI g5 173 7 (kI g5 173 5)) 173 6) := ⟨_, rfl⟩
      have f6 : kfp (fun l i => l = 173 ∧ (i = 7 ∨ i = 8)) g5 g6 := by rw [eg6]; exact (kfp.rf.sI _ ⟨rfl, Or.inl rfl⟩).sI _ ⟨rfl, Or.inr rfl⟩
      have r6 := r5.fp f6
      have b5 : kI g6 173 5 = kI g5 173 5 := f6.2.2.1 _ _ (by omega)
      have cm6 : Cm g6 C := cm.fp f6 fun l i z => by omega
      obtain ⟨g7, e7, f7, cs, z7, y61, y58⟩ := m_stands r6 cm6 wf
      have r7 := r6.fp f7
      have FG : kfp (fun l i => Wmc l i ∨ (l = 173 ∧ (i = 7 ∨ i = 8)) ∨ Wsd l i) gF g7 := ((fm.wide fun l i z => Or.inl z).tr (f6.wide fun l i z => Or.inr (Or.inl z))).tr (f7.wide fun l i z => Or.inr (Or.inr z))
      have FGw : ∀ l i, (Wmc l i ∨ (l = 173 ∧ (i = 7 ∨ i = 8)) ∨ Wsd l i) → (l = 173 ∧ ((1 ≤ i ∧ i ≤ 8) ∨ i = 32 ∨ (42 ≤ i ∧ i ≤ 44) ∨ i = 58 ∨ i = 61 ∨ (86 ≤ i ∧ i ≤ 90))) ∨ (198 ≤ l ∧ l ≤ 207) ∨ l = 239 ∨ l = 240 := fun l i z => by
        unfold Wmc Wsm Wtr Wlt Wmn Wq2 Wmp Wsd at z
        omega
      have FG2 := FG.wide FGw
      have FF : kfp (Wcg c') h0 g7 := (FF0.wide fun l i z => by
        rcases z with z | z | z | z | z | z
        · exact Or.inl z
        · exact Or.inr (Or.inl z)
        · exact Or.inr (Or.inr (Or.inl z))
        · exact Or.inr (Or.inr (Or.inr (Or.inl z)))
        · exact Or.inr (Or.inr (Or.inr (Or.inr (Or.inl z))))
        · exact Or.inr (Or.inr (Or.inr (Or.inr (Or.inr (Or.inl z)))))).tr (FG.wide fun l i z => by
        rcases z with z | z | z
        · exact Or.inl (Wcf.m (Or.inl z))
        · exact Or.inl (Wcf.m (Or.inr z))
        · rcases z with z | z | z | z | z | z | z | z | z | z | z
          · exact Or.inr (Or.inr (Or.inr (Or.inr (Or.inr (Or.inr (Or.inl (Or.inl z)))))))
          · exact Or.inr (Or.inr (Or.inr (Or.inr (Or.inr (Or.inr (Or.inr (Or.inl z)))))))
          · exact Or.inr (Or.inr (Or.inr (Or.inr (Or.inr (Or.inr (Or.inl (Or.inr (Or.inl z))))))))
          · exact Or.inr (Or.inr (Or.inr (Or.inr (Or.inr (Or.inr (Or.inl (Or.inr (Or.inr (Or.inl z)))))))))
          · exact Or.inr (Or.inr (Or.inr (Or.inr (Or.inr (Or.inr (Or.inl (Or.inr (Or.inr (Or.inr (Or.inl z))))))))))
          · exact Or.inr (Or.inr (Or.inr (Or.inr (Or.inr (Or.inr (Or.inl (Or.inr (Or.inr (Or.inr (Or.inr (Or.inl z)))))))))))
          · exact Or.inr (Or.inr (Or.inr (Or.inr (Or.inr (Or.inr (Or.inl (Or.inr (Or.inr (Or.inr (Or.inr (Or.inr (Or.inl z))))))))))))
          · exact Or.inr (Or.inr (Or.inr (Or.inr (Or.inr (Or.inr (Or.inl (Or.inr (Or.inr (Or.inr (Or.inr (Or.inr (Or.inr (Or.inl z)))))))))))))
          · exact Or.inr (Or.inr (Or.inr (Or.inr (Or.inr (Or.inr (Or.inl (Or.inr (Or.inr (Or.inr (Or.inr (Or.inr (Or.inr (Or.inr (z))))))))))))))
          · exact Or.inr (Or.inr (Or.inr (Or.inr (Or.inr (Or.inr (Or.inr (Or.inr (Or.inl z))))))))
          · exact Or.inr (Or.inr (Or.inr (Or.inr (Or.inr (Or.inr (Or.inr (Or.inr (Or.inr (z))))))))))
      have K7 : ∀ l i, l ≠ 173 → ¬ (198 ≤ l ∧ l ≤ 207) → l ≠ 239 → l ≠ 240 → kI g7 l i = kI gF l i := fun l i a b d u => FG2.2.2.1 _ _ (by omega)
      have KF1 : ∀ l i, l ≠ 64 → ¬ (65 ≤ l ∧ l ≤ 67) → ¬ (l = 0 ∧ i = 13) → ¬ (l = 72 ∧ i = 3) → ¬ (l = 155 ∧ i = 3) → kI gF l i = kI gA l i := fun l i a b d u w => (fBF.2.2.1 _ _ (by omega)).trans (IB l i)
      obtain ⟨c1, c2, c3⟩ := xclear_I gB 64
      rw [← egC] at c1 c2 c3
      have KC : ∀ l i, 64 ≤ l → l ≤ 67 → kI g7 l i = kI gC l i := fun l i a b => (K7 l i (by omega) (by omega) (by omega) (by omega)).trans ((fF.2.2.1 _ _ (by omega)).trans ((fE.2.2.1 _ _ (by omega)).trans (fD.2.2.1 _ _ (by omega))))
      have cxA : Cx gA c' C := cx1.fp f1A (fun l i z w => by omega) wfc
      have cxB : Cx gB c' C := by rw [egB]; exact cxA
      have cx7 : Cx g7 c' C := (cxB.fp fBF (fun l i z w => by omega) wfc).fp FG2 (fun l i z w => by omega) wfc
      have z25' : ∀ i, i < 600 → kI g7 (c' + 25) i = 0 := fun i hi => (K7 _ _ (by omega) (by omega) (by omega) (by omega)).trans ((KF1 _ _ (by omega) (by omega) (by omega) (by omega) (by omega)).trans ((f1A.2.2.1 _ _ (by omega)).trans (z25 i hi)))
      have B57 : kR g7 0 5 = c' := (FG.2.1 _ _).trans ((fBF.2.1 _ _).trans B5)
      obtain ⟨q1, q2, q3, q4⟩ := court_rows r7 hc' B57 cx7 cs wf z25'
      obtain ⟨q5, q6⟩ := state0 z7 (fun i hi => (KC _ _ (by omega) (by omega)).trans (c1 i hi)) (fun t ht => ⟨(KC _ _ (by omega) (by omega)).trans (c2 t ht).1, (KC _ _ (by omega) (by omega)).trans (c2 t ht).2⟩) (fun i hi => (KC _ _ (by omega) (by omega)).trans (c3 i hi))
      have k72 : kI g7 72 3 = 0 := (K7 _ _ (by omega) (by omega) (by omega) (by omega)).trans ((fF.2.2.1 _ _ (by omega)).trans (by rw [egE, kI_sI, if_pos ⟨rfl, rfl⟩]))
      have k155 : kI g7 155 3 = 0 := (K7 _ _ (by omega) (by omega) (by omega) (by omega)).trans (by rw [egF, kI_sI, if_pos ⟨rfl, rfl⟩])
      have k013 : kI g7 0 13 = 0 := (K7 _ _ (by omega) (by omega) (by omega) (by omega)).trans ((fF.2.2.1 _ _ (by omega)).trans ((fE.2.2.1 _ _ (by omega)).trans (by rw [egD, kI_sI, if_pos ⟨rfl, rfl⟩])))
      have wcg : ∀ l i, Wcg c' l i → ¬ (l = 9 ∨ l = 2 ∨ l = 174 ∨ (176 ≤ l ∧ l ≤ 197) ∨ (218 ≤ l ∧ l ≤ 238) ∨ (l = 72 ∧ i = 2) ∨ (l = 173 ∧ (i = 62 ∨ i = 63 ∨ i = 96)) ∨ l = 168 ∨ l = 169 ∨ l = 215 ∨ (l = 0 ∧ (i = 14 ∨ i = 16)) ∨ l = 171 ∨ l = 242) := fun l i z => by
        unfold Wcg Wcf Wup at z
        unfold cpr at cc
        omega
      have rz0 : Rzero h0 := by rw [eh0]; exact rz
      have rw0 : Rwords h0 := by rw [eh0]; exact rwd
      have rd0 : Rseed h0 := by rw [eh0]; exact rsd
      have ri0 : Rimg h0 := by rw [eh0]; exact rim
      refine ⟨Int32.ofNat m, gF, g7, xtop _ ?_, ?_, c', q1, q2, q3, q4, q5, q6, ?_, Rcoming.zero k155, rz0.fp FF fun l i z w => wcg l i w (by omega), ⟨0, by omega, k013, y58, fun i hi => absurd hi (Nat.not_lt_zero _)⟩, rw0.fp FF fun l i z w => wcg l i w (by omega), tape I0 FF (fun l i z w => wcg l i w (by omega)) ?_ ?_, fun j hj => ?_, rd0.fp FF fun l i z w => wcg l i w (by unfold Wseed at z; omega), ⟨?_, ?_⟩, ri0.fp FF fun l i z w => wcg l i w (by omega)⟩
      · rw [if_pos a7, if_pos (show c < 999999 by omega), kl_e, if_pos (show c' < 999999 by omega), if_pos (show c' < 999999 by omega), kl_e, if_pos (show c < 999999 by omega), kl_e, ← egB, rf0_7 rB, if_pos (show 64 < 999999 by omega), if_pos kk64, x_clear (St64 rB), kb_s, ← egC, kl_e, ← egD, rf0_9 rD, if_pos (show 72 < 999999 by omega), if_pos kk72, kl_e, ← egE, rf0_10 rE, if_pos (show 155 < 999999 by omega), if_pos kk155, kl_e, ← egF]
      · rw [em]
        unfold f_X12_court_b109
        rw [if_pos kk173, kl_e, kl_e, ← eg6, b5, md.2.2.1, if_pos rfl, e7, kb_s, f7.2.2.1 _ _ (by unfold Wsd; omega), f6.2.2.1 _ _ (by omega), k43']
      · obtain ⟨p, a, p20, a20, -, -, p72, p62, -⟩ := rpa
        refine ⟨0, a, by omega, a20, k72, y61, ?_, ?_, fun k h1 h2 => by omega⟩
        · exact (FF.2.2.1 72 2 fun w => wcg _ _ w (by omega)).trans ((I0 _ _).trans p72)
        · exact (FF.2.2.1 173 62 fun w => wcg _ _ w (by omega)).trans ((I0 _ _).trans p62)
      · rw [K7 _ _ (by omega) (by omega) (by omega) (by omega), KF1 _ _ (by omega) (by omega) (by omega) (by omega) (by omega)]
        exact A11
      · rw [f7.2.2.1 _ _ (by unfold Wsd; omega), f6.2.2.1 _ _ (by omega)]
        exact m1
      · have ref : ∀ l, l = 172 ∨ l = 175 → kI g7 l j = kI h l j := fun l hl => (K7 _ _ (by omega) (by omega) (by omega) (by omega)).trans ((KF1 _ _ (by omega) (by omega) (by omega) (by omega) (by omega)).trans ((f1A.2.2.1 _ _ (by omega)).trans (f1'.2.2.1 _ _ (by unfold Wcl Wcr; omega))))
        rw [ref 172 (Or.inl rfl), ref 175 (Or.inr rfl)]
        exact rre j hj
      · rw [K7 _ _ (by omega) (by omega) (by omega) (by omega), KF1 _ _ (by omega) (by omega) (by omega) (by omega) (by omega), a7, f7.2.2.1 _ _ (by unfold Wsd; omega), eg6, kI_sI, if_neg (by omega), kI_sI, if_pos ⟨rfl, rfl⟩]
        exact md.2.2.1.symm
      · rw [K7 _ _ (by omega) (by omega) (by omega) (by omega), KF1 _ _ (by omega) (by omega) (by omega) (by omega) (by omega), a8, f7.2.2.1 _ _ (by unfold Wsd; omega), eg6, kI_sI, if_pos ⟨rfl, rfl⟩, kI_sI, if_neg (by omega)]
        exact md.2.2.2.1.symm
