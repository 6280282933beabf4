/-! the class reads all statements -/
noncomputable def ctR (b : Nat → Nat) (n f m : Nat) (R : (Nat × Nat) ⊕ (CTy × PS)) : (Nat × Nat) ⊕ (Nat × CTy) := match R with
  | .inl e => .inl e
  | .inr r => cts b n f m r.1 r.2
noncomputable def ctE (b : Nat → Nat) (n m : Nat) (R : (Nat × Nat) ⊕ (CTy × PS)) : (Nat × Nat) ⊕ (Nat × CTy) := match R with
  | .inl e => .inl e
  | .inr r => if tkT b n r.2.1 r.2.2.1 = 1 then .inr (m, r.1) else .inl (5, blE b n r.2.1)
theorem x_ctsLoop {h g : KH} {n c : Nat} {R0 : (Nat × Nat) ⊕ (CTy × PS)} (ht : Rtape h) (n16 : n ≤ 1600) (hc : ctc c) (x : Xs h g n c R0) : ∃ r, kloop (f_X3_readInto_l13 11 c) KF ((0 : Int32), g) = some r ∧ ∃ m R, m ≤ 60 ∧ r.1 = Int32.ofNat m ∧ kfq (Wcr c) g r.2 ∧ Xs h r.2 n c R ∧ ctE (tyN h) n m R = ctR (tyN h) n 60 0 R0 := by
  refine kloop_KF (body := f_X3_readInto_l13 11 c) (fun k st => ∃ m R, m ≤ 60 ∧ k = 60 - m ∧ st.1 = Int32.ofNat m ∧ kfq (Wcr c) g st.2 ∧ Xs h st.2 n c R ∧ ctR (tyN h) n (60 - m) m R = ctR (tyN h) n 60 0 R0) (fun r => ∃ m R, m ≤ 60 ∧ r.1 = Int32.ofNat m ∧ kfq (Wcr c) g r.2 ∧ Xs h r.2 n c R ∧ ctE (tyN h) n m R = ctR (tyN h) n 60 0 R0) (fun k st hP => ?_) (n := 60 - 0) (by omega) ⟨0, R0, by omega, rfl, rfl, (kfp.rf : kfp (Wcr c) g g).q, x, rfl⟩
  obtain ⟨st1, q⟩ := st
  obtain ⟨m, R, m60, hk, p1, p2, p3, p4⟩ := hP
  dsimp only at p1 p2 p3
  subst p1
  by_cases y : m = 60
  · subst y
    refine Or.inl ⟨(Int32.ofNat 60, q), ?_, 60, R, by omega, rfl, p2, p3, ?_⟩
    · unfold f_X3_readInto_l13
      dsimp only
      rw [if_pos (by decide)]
    · rw [← p4]
      cases R with
      | inl e => rfl
      | inr r => rfl
  · cases R with
    | inl e =>
      have xr : Rx h q n (.inl e) := p3.1
      have go : f_X7_goesOn q 8 = some 0 := x_goesOn ht n16 xr
      refine Or.inl ⟨(Int32.ofNat m, q), ?_, m, .inl e, m60, rfl, p2, p3, p4⟩
      unfold f_X3_readInto_l13
      dsimp only
      rw [if_neg (by rw [n32_ler (by omega) (by omega)]; omega), if_pos kk11, rf11_0 xr.1.1, if_pos (show 8 < 999999 by omega), if_pos kk8, go, kb_s, if_pos rfl]
    | inr r =>
      obtain ⟨C, s⟩ := r
      have xr : Rx h q n (.inr s) := p3.1
      have f1 : 60 - m = (60 - (m + 1)) + 1 := by omega
      have p4' : cts (tyN h) n (60 - m) m C s = ctR (tyN h) n 60 0 R0 := p4
      rw [f1, cts] at p4'
      by_cases z : tkT (tyN h) n s.1 s.2.1 = 1
      · have go : f_X7_goesOn q 8 = some (if tkT (tyN h) n s.1 s.2.1 = 1 then 0 else 1) := x_goesOn ht n16 xr
        rw [if_pos z] at go p4'
        refine Or.inl ⟨(Int32.ofNat m, q), ?_, m, .inr (C, s), m60, rfl, p2, p3, ?_⟩
        · unfold f_X3_readInto_l13
          dsimp only
          rw [if_neg (by rw [n32_ler (by omega) (by omega)]; omega), if_pos kk11, rf11_0 xr.1.1, if_pos (show 8 < 999999 by omega), if_pos kk8, go, kb_s, if_pos rfl]
        · rw [← p4']
          show (if tkT (tyN h) n s.1 s.2.1 = 1 then _ else _) = _
          rw [if_pos z]
      · rw [if_neg z] at p4'
        obtain ⟨q', e', f', x'⟩ := x_stm ht n16 hc (show m < 60 by omega) z p3
        refine Or.inr ⟨60 - (m + 1), (Int32.ofNat (m + 1), q'), by omega, e', m + 1, stm (tyN h) n C s, by omega, rfl, rfl, p2.tr f', x', ?_⟩
        rw [← p4']
        cases stm (tyN h) n C s with
        | inl e => rfl
        | inr r => rfl
/-- the end: nothing left, or too many -/
theorem x_ctsEnd {h g : KH} {n c m : Nat} {R : (Nat × Nat) ⊕ (CTy × PS)} (ht : Rtape h) (n16 : n ≤ 1600) (hc : ctc c) (x : Xs h g n c R) : ∃ g', f_X3_readInto_b243 g 11 (Int32.ofNat m) = some (Int32.ofNat m, g') ∧ kfp (Wcr c) g g' ∧ (∀ e, ctE (tyN h) n m R = .inl e → Rx h g' n (.inl e)) ∧ ∀ r, ctE (tyN h) n m R = .inr r → r.1 = m ∧ Cx g' c r.2 ∧ wfC r.2 ∧ kI g' 8 7 = 0 ∧ kI g' 8 8 = -1 := by
  have cc : c + 25 < 100 ∧ 12 ≤ c := by rcases hc with rfl | rfl <;> omega
  unfold f_X3_readInto_b243
  cases R with
  | inl e =>
    have xr : Rx h g n (.inl e) := x.1
    have go : f_X7_goesOn g 8 = some 0 := x_goesOn ht n16 xr
    rw [if_pos kk11, rf11_0 xr.1.1, if_pos (show 8 < 999999 by omega), if_pos kk8, go, kb_s, if_pos rfl]
    refine ⟨g, rfl, kfp.rf, fun e' he => ?_, (fun r he => nomatch he)⟩
    cases he
    exact xr
  | inr r =>
    obtain ⟨C, s⟩ := r
    have xr : Rx h g n (.inr s) := x.1
    have go : f_X7_goesOn g 8 = some (if tkT (tyN h) n s.1 s.2.1 = 1 then 0 else 1) := x_goesOn ht n16 xr
    have eE : ctE (tyN h) n m (.inr (C, s)) = if tkT (tyN h) n s.1 s.2.1 = 1 then .inr (m, C) else .inl (5, blE (tyN h) n s.1) := rfl
    rw [if_pos kk11, rf11_0 xr.1.1, if_pos (show 8 < 999999 by omega), if_pos kk8, go, kb_s, eE]
    by_cases z : tkT (tyN h) n s.1 s.2.1 = 1
    · rw [if_pos z, if_pos z, if_pos rfl]
      refine ⟨g, rfl, kfp.rf, (fun e' he => nomatch he), fun r he => ?_⟩
      cases he
      exact ⟨rfl, x.2.1, x.2.2, xr.2.2.2.1, xr.2.2.2.2⟩
    · rw [if_neg z, if_neg z, if_neg (by decide)]
      obtain ⟨q, e, f, xq⟩ := x_stopH (k := 5) ht n16 xr
      have e' : f_X7_stop g 8 (5 : Int32) (kI g 8 4) = some q := e
      rw [e', kb_s]
      refine ⟨q, rfl, f.wide fun l i z => Or.inl z, fun e' he => ?_, (fun r he => nomatch he)⟩
      cases he
      exact xq
