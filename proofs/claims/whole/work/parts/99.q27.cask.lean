/-! ask: both sides alike -/
def Wask (l i : Nat) : Prop := Wk l i ∨ Wg 4 l i ∨ (l = 10 ∧ i = 2) ∨ (l = 1 ∧ i = 1) ∨ Wqa l i ∨ Wma l i ∨ (l = 173 ∧ (i = 7 ∨ i = 8))
theorem Wask.a {l i : Nat} (z : Wg 4 l i ∨ (l = 10 ∧ i = 2) ∨ (l = 1 ∧ i = 1)) : Wask l i := by
  rcases z with z | z | z
  · exact Or.inr (Or.inl z)
  · exact Or.inr (Or.inr (Or.inl z))
  · exact Or.inr (Or.inr (Or.inr (Or.inl z)))
theorem Wask.q {l i : Nat} (z : Wqa l i) : Wask l i := Or.inr (Or.inr (Or.inr (Or.inr (Or.inl z))))
theorem Wask.m {l i : Nat} (z : Wma l i) : Wask l i := Or.inr (Or.inr (Or.inr (Or.inr (Or.inr (Or.inl z)))))
theorem Wask.o {l i : Nat} (z : l = 173 ∧ (i = 7 ∨ i = 8)) : Wask l i := Or.inr (Or.inr (Or.inr (Or.inr (Or.inr (Or.inr z)))))
def AftQ (h h' : KH) (c : Nat) : Prop := kfp Wask (ksR h 10 1 4) h' ∧ Rtape h' ∧ Rfault h' ∧ Ryt h' c ∧ Rzero h'
theorem qk_le {w : Nat} (iw : isQ w) : ((2 : Int32) ≤ Int32.ofNat (qkN w) ↔ ¬ (w = 9 ∨ w = 22)) := by
  rcases iw with rfl | rfl | rfl | rfl | rfl | rfl <;> decide
theorem c_ask {h : KH} {c : Nat} (rc : RC h c) (rs : RS h) (rr : Rrule h c) (ry : Ryt h c) (rz : Rzero h) (ht : Rtape h) (rw0 : Rwords h) : ∃ r h1 h2, f_X11_ask h 0 = some (r, h1) ∧ f_X12_ask h1 173 = some (r, h2) ∧ AftQ h h2 c := by
  obtain ⟨hr, hc, h5, hm, hk, htt, hma⟩ := id rc
  have c39 := hc.lt
  have c10 : c ≠ 10 ∧ c ≠ 4 ∧ c ≠ 1 := by rcases hc with rfl | rfl <;> omega
  obtain ⟨n, n16, hn, hn2⟩ := ht.1
  obtain ⟨h0, eh0⟩ : ∃ h0, h0 = ksR h 10 1 4 := ⟨_, rfl⟩
  have r0 : kRefs h0 := by rw [eh0]; exact hr.r10 (Or.inl rfl)
  have I0 : ∀ l i, kI h0 l i = kI h l i := fun l i => by rw [eh0]; rfl
  have rc0 : RC h0 c := by
    refine ⟨r0, hc, ?_, ?_, ?_, ?_, ?_⟩
    · rw [eh0, kR_sR, if_neg (by omega)]
      exact h5
    all_goals rw [eh0]
    · exact hm
    · exact hk
    · exact htt
    · exact hma
  have rs0 : RS h0 := by rw [eh0]; exact rs
  have rr0 : Rrule h0 c := by rw [eh0]; exact rr
  have eB : bitsN h0 = bitsN h := bitsN_eq (fun l i z => I0 l i) (I0 _ _)
  have ry0 : Ryt h0 c := by
    intro a t ht x hx
    rw [I0] at a
    rw [show kN h0 198 4 = kN h 198 4 from kN_same (I0 _ _)] at ht
    rw [I0, eB]
    exact ry a t ht x hx
  have rz0 : Rzero h0 := by rw [eh0]; exact rz
  have rw1 : Rwords h0 := by rw [eh0]; exact rw0
  -- the class reads
  obtain ⟨g1, e1, f1, gx1⟩ := x_readQuestion hr ht rw0 n16 hn
  rw [← eh0] at f1
  have r1 := gx1.kR
  obtain ⟨gA, egA⟩ : ∃ gA, gA = ksI g1 1 1 (0 : Int32) := ⟨_, rfl⟩
  have f1A : kfp (fun l i => l = 1 ∧ i = 1) g1 gA := by rw [egA]; exact kfp.rf.sI _ ⟨rfl, rfl⟩
  have FA : kfp (fun l i => Wg 4 l i ∨ (l = 10 ∧ i = 2) ∨ (l = 1 ∧ i = 1)) h0 gA := (f1.wide fun l i z => by rcases z with z | z; exact Or.inl z; exact Or.inr (Or.inl z)).tr (f1A.wide fun l i z => Or.inr (Or.inr z))
  have rA := r1.fp f1A
  have A11 : kI gA 1 1 = 0 := by rw [egA, kI_sI, if_pos ⟨rfl, rfl⟩]
  have top : f_X11_ask h 0 = (if kI gA 8 7 = 0 then kb (f_X10_weigh gA 162 c 64) (fun r23 => kb (f_X6_begin r23 3 (if wI (tyN h) n s00 = 27 then -1 else Int32.ofNat (wI (tyN h) n s00))) fun r29 => kb (kloop (f_X11_ask_l62 0) KF ((0 : Int32), r29)) fun e33 => if kR e33 0 1 < 999999 then if kkind (kR e33 0 1) = 6 then some (kL e33 (kR e33 0 1) 3, e33) else none else none) else some ((-1000000000000000 : Int64), gA)) ∨ True := Or.inr trivial
  clear top
  have A5 : kR gA 0 5 = c := (FA.2.1 _ _).trans rc0.2.2.1
  -- both read
  have mread : ∀ hX : KH, kRefs hX → (∀ l i, 173 ≤ l → ¬ Wscr l i → kI hX l i = kI h l i) → (∀ j, j < 27 → kI hX 9 j = kI h 9 j) → ∃ g', f_X12_ask hX 173 = f_X12_ask_b117 g' 173 (Int32.ofNat (qkN (wI (tyN h) n s00))) ∧ kfp Wqa hX g' ∧ ((∃ e, qst (tyN h) n = .inl e ∧ Md h g' n 0 (.inl e)) ∨ ∃ s a, qst (tyN h) n = .inr s ∧ isQ (wI (tyN h) n s00) ∧ Qd h g' n false [] [] 6 a 0 s) ∧ kI g' 173 1 = 0 := fun hX rX eX e9 =>
    m_askReads ht n16 rX ⟨fun j hj => (e9 j hj).trans (rw0.1 j hj), fun j hj i hi => (eX _ _ (by omega) (by unfold Wscr; omega)).trans (rw0.2.1 j hj i hi), fun q hq i hi => (eX _ _ (by omega) (by unfold Wscr; omega)).trans (rw0.2.2 q hq i hi)⟩ ((eX _ _ (by omega) (by unfold Wscr; omega)).trans hn2) (fun i => eX _ _ (by omega) (by unfold Wscr; omega))
  -- what is left alone
  have tail : ∀ hZ, kfp Wask h0 hZ → kI hZ 1 1 = 0 → kI hZ 173 1 = 0 → Rtape hZ := fun hZ f a b => by
    refine ⟨⟨0, by omega, a, b⟩, fun i hi => ?_⟩
    rw [f.2.2.1 174 i (by unfold Wask Wk Wscr Wg Wqa Wq2 Wmp Wma Wscr Wtk; omega), f.2.2.1 2 i (by unfold Wask Wk Wscr Wg Wqa Wq2 Wmp Wma Wscr Wtk; omega), I0, I0]
    exact ht.2 i hi
  have xtop : ∀ X, (if kI gA 8 7 = 0 then kb (f_X10_weigh gA 162 c 64) (fun r23 => if kR r23 0 1 < 999999 then if kkind (kR r23 0 1) = 6 then kb (f_X6_begin r23 (kR r23 0 1) (if wI (tyN h) n s00 = 27 then -1 else Int32.ofNat (wI (tyN h) n s00))) (fun r29 => kb (kloop (f_X11_ask_l62 0) KF ((0 : Int32), r29)) fun e33 => if kR e33 0 1 < 999999 then if kkind (kR e33 0 1) = 6 then some (kL e33 (kR e33 0 1) 3, e33) else none else none) else none else none) else some ((-1000000000000000 : Int64), gA)) = X → f_X11_ask h 0 = X := fun X hX => by
    rw [← hX]
    unfold f_X11_ask
    rw [if_pos kk0, rf0_3 hr, if_pos (show 10 < 999999 by omega), rf0_1 hr, if_pos (show 3 < 999999 by omega), if_pos kk3, rf3_0 hr, if_pos (show 4 < 999999 by omega), if_pos kk10, e1, kb_s]
    dsimp only
    rw [rf0_0 r1, if_pos (show 1 < 999999 by omega), if_pos kk1, kl_e, ← egA, rf0_2 rA, if_pos (show 8 < 999999 by omega), if_pos kk8, rf0_11 rA, if_pos (show 162 < 999999 by omega), A5, if_pos (show c < 999999 by omega), rf0_7 rA, if_pos (show 64 < 999999 by omega), if_pos kk162]
  have gA8 : ∀ i, kI gA 8 i = kI g1 8 i := fun i => f1A.2.2.1 _ _ (by omega)
  obtain ⟨x1, x2, x3⟩ := gx1
  cases hq : qst (tyN h) n with
  | inl e =>
    rw [hq] at x1
    have a7 : kI gA 8 7 = Int32.ofNat e.1 := (gA8 7).trans x1.2.2.1
    have a8 : kI gA 8 8 = Int32.ofNat e.2 := (gA8 8).trans x1.2.2.2
    obtain ⟨g', em, fm, hh, m1⟩ := mread gA rA (fun l i a b => (FA.2.2.1 _ _ (by unfold Wg; omega)).trans (I0 _ _)) (fun j hj => (FA.2.2.1 _ _ (by unfold Wg; omega)).trans (I0 _ _))
    rcases hh with ⟨e', he', md⟩ | ⟨s, a, hs, -⟩
    · rw [hq] at he'
      cases he'
      have nz : ¬ kI gA 8 7 = 0 := by
        rw [a7, n32_ne0 (by have := md.2.2.1; omega)]
        have := md.2.1
        omega
      obtain ⟨g2, eg2⟩ : ∃ g2, g2 = ksI (ksI g' 173 7 (kI g' 173 5)) 173 8 (kI (ksI g' 173 7 (kI g' 173 5)) 173 6) := ⟨_, rfl⟩
      have f2 : kfp (fun l i => l = 173 ∧ (i = 7 ∨ i = 8)) g' g2 := by rw [eg2]; exact (kfp.rf.sI _ ⟨rfl, Or.inl rfl⟩).sI _ ⟨rfl, Or.inr rfl⟩
      have FF : kfp Wask h0 g2 := ((FA.wide fun l i z => Wask.a z).tr (fm.wide fun l i z => Wask.q z)).tr (f2.wide fun l i z => Wask.o z)
      have b5 : kI g2 173 5 = kI g' 173 5 := f2.2.2.1 _ _ (by omega)
      refine ⟨-1000000000000000, gA, g2, xtop _ (by rw [if_neg nz]), ?_, by rw [← eh0]; exact FF, tail g2 FF ?_ ?_, ?_, ?_, ?_⟩
      · rw [em]
        unfold f_X12_ask_b117
        rw [if_pos kk173, kl_e, kl_e, ← eg2, b5, if_neg md.bad]
      · rw [f2.2.2.1 _ _ (by omega), fm.2.2.1 _ _ (by unfold Wqa Wq2 Wmp; omega)]
        exact A11
      · rw [f2.2.2.1 _ _ (by omega)]
        exact m1
      · have k8 : ∀ i, kI g2 8 i = kI gA 8 i := fun i => (f2.2.2.1 _ _ (by omega)).trans (fm.2.2.1 _ _ (by unfold Wqa Wq2 Wmp; omega))
        refine ⟨?_, ?_⟩
        · rw [k8, a7, eg2, kI_sI, if_neg (by omega), kI_sI, if_pos ⟨rfl, rfl⟩]
          exact md.2.2.2.1.symm
        · rw [k8, a8, eg2, kI_sI, if_pos ⟨rfl, rfl⟩, kI_sI, if_neg (by omega)]
          exact md.2.2.2.2.symm
      · exact ((ry0.fp FA fun l i z q => by unfold Wlw at z; unfold Wg at q; rcases hc with rfl | rfl <;> omega).fp fm fun l i z q => by unfold Wlw at z; unfold Wqa Wq2 Wmp at q; rcases hc with rfl | rfl <;> omega).fp f2 fun l i z q => by unfold Wlw at z; rcases hc with rfl | rfl <;> omega
      · exact ((rz0.fp FA fun l i z q => by unfold Wg at q; omega).fp fm fun l i z q => by unfold Wqa Wq2 Wmp at q; omega).fp f2 fun l i z q => by omega
    · rw [hq] at hs
      exact nomatch hs
  | inr s =>
    rw [hq] at x1 x3
    obtain ⟨ty, rt, hty, iw, h01⟩ := qst_ty hq
    have w27 : wI (tyN h) n s00 ≠ 27 := by unfold isQ at iw; omega
    have slen : s.2.2.length ≤ 1600 := by
      have a := x3.2.1
      have b := x1.2.1
      omega
    have a7 : kI gA 8 7 = 0 := (gA8 7).trans x1.2.2.2.1
    have a8 : kI gA 8 8 = -1 := (gA8 8).trans x1.2.2.2.2
    have rcA : RC gA c := rc0.fp FA fun l i z q => by unfold Wct at z; unfold Wg at q; rcases hc with rfl | rfl <;> omega
    have rsA : RS gA := rs0.fp FA fun l i z q => by unfold Wg at q; omega
    have rrA : Rrule gA c := rr0.fp FA fun l i z q => by unfold Wg at q; rcases hc with rfl | rfl <;> omega
    have ryA : Ryt gA c := ry0.fp FA fun l i z q => by unfold Wlw at z; unfold Wg at q; rcases hc with rfl | rfl <;> omega
    have rzA : Rzero gA := rz0.fp FA fun l i z q => by unfold Wg at q; omega
    obtain ⟨h1, h2, h3, u1, v1, u2, u3, f3, y3, z3, a3⟩ := x_askEval (w := wI (tyN h) n s00) (d := s.2.2) rcA rsA rrA ryA rzA ((f1A.2.2.1 _ _ (by omega)).trans x3.1) slen (fun i hi => (f1A.2.2.1 _ _ (by omega)).trans (x3.2.2 i hi)) rt h01 iw
    have rh1 := rA.fp v1
    have rh3 := rA.fp f3
    have FH : kfp (fun l i => Wg 4 l i ∨ (l = 10 ∧ i = 2) ∨ (l = 1 ∧ i = 1) ∨ Wk l i) h0 h3 := (FA.wide fun l i z => z.elim Or.inl fun z => Or.inr (z.elim Or.inl fun z => Or.inr (Or.inl z))).tr (f3.wide fun l i z => Or.inr (Or.inr (Or.inr z)))
    obtain ⟨g', em, fm, hh, m1⟩ := mread h3 rh3 (fun l i a b => (FH.2.2.1 _ _ (fun z => by
      rcases z with z | z | z | z
      · unfold Wg at z
        omega
      · omega
      · omega
      · rcases z with z | z
        · exact b z
        · omega)).trans (I0 _ _)) (fun j hj => (FH.2.2.1 _ _ (by unfold Wg Wk Wscr; omega)).trans (I0 _ _))
    rcases hh with ⟨e', he', -⟩ | ⟨s', a, hs, -, qd⟩
    · rw [hq] at he'
      exact nomatch he'
    · rw [hq] at hs
      cases hs
      obtain ⟨g2, eg2⟩ : ∃ g2, g2 = ksI (ksI g' 173 7 (kI g' 173 5)) 173 8 (kI (ksI g' 173 7 (kI g' 173 5)) 173 6) := ⟨_, rfl⟩
      have f2 : kfp (fun l i => l = 173 ∧ (i = 7 ∨ i = 8)) g' g2 := by rw [eg2]; exact (kfp.rf.sI _ ⟨rfl, Or.inl rfl⟩).sI _ ⟨rfl, Or.inr rfl⟩
      have b5 : kI g2 173 5 = kI g' 173 5 := f2.2.2.1 _ _ (by omega)
      have G : kfp (fun l i => Wqa l i ∨ (l = 173 ∧ (i = 7 ∨ i = 8))) h3 g2 := (fm.wide fun l i z => Or.inl z).tr (f2.wide fun l i z => Or.inr z)
      have F2 : kfp (fun l i => Wg 4 l i ∨ (l = 10 ∧ i = 2) ∨ (l = 1 ∧ i = 1) ∨ Wk l i ∨ Wqa l i ∨ (l = 173 ∧ (i = 7 ∨ i = 8))) h0 g2 := (FH.wide fun l i z => z.elim Or.inl fun z => Or.inr (z.elim Or.inl fun z => Or.inr (z.elim Or.inl fun z => Or.inr (Or.inl z)))).tr (G.wide fun l i z => z.elim (fun z => Or.inr (Or.inr (Or.inr (Or.inr (Or.inl z))))) fun z => Or.inr (Or.inr (Or.inr (Or.inr (Or.inr z)))))
      have rc2 : RC g2 c := rc0.fp F2 fun l i z q => by unfold Wct at z; unfold Wg Wk Wscr Wqa Wq2 Wmp at q; rcases hc with rfl | rfl <;> omega
      have rs2 : RS g2 := rs0.fp F2 fun l i z q => by unfold Wg Wk Wscr Wqa Wq2 Wmp at q; omega
      have rr2 : Rrule g2 c := rr0.fp F2 fun l i z q => by unfold Wg Wk Wscr Wqa Wq2 Wmp at q; rcases hc with rfl | rfl <;> omega
      have ry2 : Ryt g2 c := y3.fp G fun l i z q => by unfold Wlw at z; unfold Wqa Wq2 Wmp at q; rcases hc with rfl | rfl <;> omega
      have rz2 : Rzero g2 := z3.fp G fun l i z q => by unfold Wqa Wq2 Wmp at q; omega
      obtain ⟨r, g4, u4, a4, f4, y4, z4⟩ := m_askEval (w := wI (tyN h) n s00) (d := s.2.2) rc2 rs2 rr2 ry2 rz2 ((f2.2.2.1 _ _ (by omega)).trans qd.2.2.1.1) slen (fun i hi => (f2.2.2.1 _ _ (by omega)).trans (qd.2.2.1.2 i hi)) rt h01 hty iw
      have J : ∀ l i, 198 ≤ l → l ≤ 207 → kI g2 l i = kI gA l i := fun l i x y => (F2.2.2.1 _ _ (by unfold Wg Wk Wscr Wqa Wq2 Wmp; omega)).trans (FA.2.2.1 _ _ (by unfold Wg; omega)).symm
      have er : r = kL h3 3 3 := by
        rw [← Int64.toInt_inj, a4, a3, xqZ_same J, kN_same (J 198 4 (by omega) (by omega))]
      have FF : kfp Wask h0 g4 := (F2.wide fun l i z => by
        rcases z with z | z | z | z | z | z
        · exact Wask.a (Or.inl z)
        · exact Wask.a (Or.inr (Or.inl z))
        · exact Wask.a (Or.inr (Or.inr z))
        · exact Or.inl z
        · exact Wask.q z
        · exact Wask.o z).tr (f4.wide fun l i z => Wask.m z)
      have k8 : ∀ i, kI g4 8 i = kI gA 8 i := fun i => (f4.2.2.1 _ _ (by unfold Wma Wscr Wtk; omega)).trans ((G.2.2.1 _ _ (by unfold Wqa Wq2 Wmp; omega)).trans (f3.2.2.1 _ _ (by unfold Wk Wscr; omega)))
      refine ⟨kL h3 3 3, h3, g4, xtop _ ?_, ?_, by rw [← eh0]; exact FF, tail g4 FF ?_ ?_, ⟨?_, ?_⟩, y4, z4⟩
      · rw [if_pos a7, u1, kb_s, rf0_1 rh1, if_pos (show 3 < 999999 by omega), if_pos kk3, if_neg w27, u2, kb_s, u3, kb_s, rf0_1 rh3, if_pos (show 3 < 999999 by omega), if_pos kk3]
      · rw [em]
        unfold f_X12_ask_b117
        rw [if_pos kk173, kl_e, kl_e, ← eg2, b5, qd.1.2.2.1, if_pos rfl, ← er]
        by_cases y : wI (tyN h) n s00 = 9 ∨ wI (tyN h) n s00 = 22
        · rw [if_pos y] at u4
          rw [if_neg (fun z => (qk_le iw).mp z y)]
          exact u4
        · rw [if_neg y] at u4
          rw [if_pos ((qk_le iw).mpr y)]
          exact u4
      · rw [f4.2.2.1 _ _ (by unfold Wma Wscr Wtk; omega), G.2.2.1 _ _ (by unfold Wqa Wq2 Wmp; omega), f3.2.2.1 _ _ (by unfold Wk Wscr; omega)]
        exact A11
      · rw [f4.2.2.1 _ _ (by unfold Wma Wscr Wtk; omega), f2.2.2.1 _ _ (by omega)]
        exact m1
      · rw [k8, a7, f4.2.2.1 _ _ (by unfold Wma Wscr Wtk; omega), eg2, kI_sI, if_neg (by omega), kI_sI, if_pos ⟨rfl, rfl⟩]
        exact qd.1.2.2.1.symm
      · rw [k8, a8, f4.2.2.1 _ _ (by unfold Wma Wscr Wtk; omega), eg2, kI_sI, if_pos ⟨rfl, rfl⟩, kI_sI, if_neg (by omega)]
        exact qd.1.2.2.2.1.symm
