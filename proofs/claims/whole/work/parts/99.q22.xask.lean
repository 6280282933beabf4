/-! the class's answer to a QUESTION -/
theorem x_begin6 (h : KH) {w : Nat} (hw : w < 27) : f_X6_begin h 3 (Int32.ofNat w) = some (ksL (ksI (ksI h 3 2 (Int32.ofNat w)) 3 4 1) 3 3 (if w = 9 ∨ w = 22 then -1 else 0)) := by
  have wq : ∀ k, k < 27 → (Int32.ofNat w = Int32.ofNat k ↔ w = k) := fun k hk => n32_eq (by omega) (by omega)
  unfold f_X6_begin f_X6_begin_b23 f_X6_begin_b30
  rw [if_pos kk3, kl_e, kl_e]
  by_cases y9 : w = 9
  · rw [if_pos (show Int32.ofNat w = (9 : Int32) from (wq 9 (by omega)).mpr y9), if_pos kk3, kl_e, if_pos (Or.inl y9)]
  · rw [if_neg (show ¬ Int32.ofNat w = (9 : Int32) from fun z => y9 ((wq 9 (by omega)).mp z))]
    by_cases y22 : w = 22
    · rw [if_pos (show Int32.ofNat w = (22 : Int32) from (wq 22 (by omega)).mpr y22), if_pos kk3, kl_e, if_pos (Or.inr y22)]
    · rw [if_neg (show ¬ Int32.ofNat w = (22 : Int32) from fun z => y22 ((wq 22 (by omega)).mp z)), if_pos kk3, kl_e, if_neg (by omega)]
theorem x_askEval {h : KH} {c w ty : Nat} {d : List Nat} (rc : RC h c) (rs : RS h) (rr : Rrule h c) (ry : Ryt h c) (rz : Rzero h) (e2 : kI h 4 2 = Int32.ofNat d.length) (n16 : d.length ≤ 1600) (ec : ∀ i, i < d.length → kI h 5 i = csI (d.getD i 0)) (hd : rtf false (fun i => d.getD i 0) 0 d.length [] = some [ty]) (h01 : ty = 0 ∨ ty = 1) (iw : isQ w) :
    ∃ h1 h2 h3, f_X10_weigh h 162 c 64 = some h1 ∧ kfp Wk h h1 ∧ f_X6_begin h1 3 (Int32.ofNat w) = some h2 ∧ kloop (f_X11_ask_l62 0) KF ((0 : Int32), h2) = some h3 ∧ kfp Wk h h3 ∧ Ryt h3 c ∧ Rzero h3 ∧ (kL h3 3 3).toInt = aqZ w (xqZ h d) (kN h 198 4) := by
  obtain ⟨hr, hc, h5, hm, -, htt, -⟩ := id rc
  have n4 := hm.2.1.1.2
  have c39 := hc.lt
  have w27 : w < 27 := by unfold isQ at iw; omega
  obtain ⟨h1, e1, s1, -, ws1⟩ := x_now rc rs rr ry rz
  have f1 : kfp Wk h h1 := s1.1.wide fun l i z => Or.inl z
  obtain ⟨h2, eh2⟩ : ∃ h2, h2 = ksL (ksI (ksI h1 3 2 (Int32.ofNat w)) 3 4 1) 3 3 (if w = 9 ∨ w = 22 then -1 else 0) := ⟨_, rfl⟩
  have f12 : kfp (fun l _ => l = 3) h1 h2 := by rw [eh2]; exact ((kfp.rf.sI _ (by omega)).sI _ (by omega)).sL _ (by omega)
  have f2 : kfp Wk h h2 := f1.tr (f12.wide fun l i z => Or.inr (Or.inl z))
  have xb := fun t (ht : t < kN h 198 4) => xqZ_b rc rs rr ht hd h01
  have ab := aqZ_b w (xqZ h d) (kN h 198 4) n4 (fun t ht => (xb t ht).1)
  refine ⟨h1, h2, ?_⟩
  have lp : ∃ h3, kloop (f_X11_ask_l62 0) KF ((0 : Int32), h2) = some h3 ∧ kfp Wk h h3 ∧ Ryt h3 c ∧ Rzero h3 ∧ (kL h3 3 3).toInt = aqZ w (xqZ h d) (kN h 198 4) := by
    refine kloop_inv (body := f_X11_ask_l62 0) (fun t s => s.1 = Int32.ofNat t ∧ kfp Wk h s.2 ∧ Ryt s.2 c ∧ Rzero s.2 ∧ Wst s.2 (WN h) (paN h (tmM h)) 72 ∧ kI s.2 3 2 = Int32.ofNat w ∧ (kL s.2 3 3).toInt = aqZ w (xqZ h d) t ∧ kI s.2 3 4 = if t = 0 then 1 else 0)
      (fun r => kfp Wk h r ∧ Ryt r c ∧ Rzero r ∧ (kL r 3 3).toInt = aqZ w (xqZ h d) (kN h 198 4)) (kN h 198 4) (s0 := ((0 : Int32), h2)) (by omega) ⟨rfl, f2, s1.2.1.fp f12 fun l i z q => by unfold Wlw at z; omega, s1.2.2.fp f12 fun l i z q => by omega, ws1.same f12 fun l i z q => by omega, ?_, ?_, ?_⟩ (fun t s ht hP => ?_) (fun s hP => ?_)
    · show kI h2 3 2 = _
      rw [eh2, kI_sL, kI_sI, if_neg (by omega), kI_sI, if_pos ⟨rfl, rfl⟩]
    · show (kL h2 3 3).toInt = _
      rw [eh2, kL_sL, if_pos ⟨rfl, rfl⟩, aqZ]
      by_cases y : w = 9 ∨ w = 22
      · rw [if_pos y, if_pos y]
        rfl
      · rw [if_neg y, if_neg y]
        rfl
    · show kI h2 3 4 = _
      rw [eh2, kI_sL, kI_sI, if_pos ⟨rfl, rfl⟩, if_pos rfl]
    · obtain ⟨s1', g⟩ := s
      obtain ⟨p1, p2, p3, p4, p5, p6, p7, p8⟩ := hP
      dsimp only at p1 p2 p3 p4 p5 p6 p7 p8
      subst p1
      have rg := hr.fp p2
      have c4 : kI g c 4 = Int32.ofNat (kN h 198 4) := (p2.2.2.1 _ _ (by unfold Wk Wscr; rcases hc with rfl | rfl <;> omega)).trans (hm.2.1.2.trans hm.2.1.1.1)
      have g5 : kR g 0 5 = c := (p2.2.1 _ _).trans h5
      obtain ⟨g1, u1, fv, y1, z1, vx⟩ := x_setValues rc rs rr p2 p3 p4 p5 ht
      have fk1 : kfp Wk h g1 := p2.tr (fv.wide fun l i z => by unfold Wv at z; unfold Wk Wscr; rcases hc with rfl | rfl <;> omega)
      have rg1 := hr.fp fk1
      have N : ∀ l i, (l = 3 ∨ l = 4 ∨ l = 5) → kI g1 l i = kI g l i := fun l i z => fv.2.2.1 _ _ (by unfold Wv; rcases hc with rfl | rfl <;> omega)
      have N3 : kL g1 3 3 = kL g 3 3 := fv.2.2.2 _ _ (by unfold Wv; rcases hc with rfl | rfl <;> omega)
      have A : ∀ l i, (l = 4 ∨ l = 5) → kI g1 l i = kI h l i := fun l i z => (N l i (by omega)).trans (p2.2.2.1 _ _ (by unfold Wk Wscr; omega))
      obtain ⟨g2, u2, f2', a2, k2⟩ := x_take (n := d.length) (x := xqZ h d) rg1 (pvQ_b rc rs ht) (yvQ_b rc rr rs ht) rfl n16 ((A 4 2 (by omega)).trans e2) (fun i hi => (A 5 i (by omega)).trans (ec i hi)) vx hd (fun v hv => xqZ_eq hv) iw ((N 3 2 (by omega)).trans p6) (by rw [N3]; exact p7) ((N 3 4 (by omega)).trans p8) (by omega) (by have := ab t (by omega); omega) (xb t ht).1
      refine ⟨(Int32.ofNat (t + 1), g2), ?_, rfl, fk1.tr (f2'.wide fun l i z => by unfold Wk; omega), y1.fp f2' fun l i z q => by unfold Wlw at z; omega, z1.fp f2' fun l i z q => by omega, (p5.same fv fun l i z q => by unfold Wv at q; rcases hc with rfl | rfl <;> omega).same f2' fun l i z q => by omega, (f2'.2.2.1 _ _ (by omega)).trans ((N 3 2 (by omega)).trans p6), a2, by rw [if_neg (by omega)]; exact k2⟩
      unfold f_X11_ask_l62
      dsimp only
      rw [if_pos kk0, g5, if_pos (show c < 999999 by omega), if_pos (ct_kk hc), c4, if_neg (by rw [n32_le (by omega) (by omega)]; omega), rf0_1 rg, if_pos (show 3 < 999999 by omega), rf0_7 rg, if_pos (show 64 < 999999 by omega), rf0_11 rg, if_pos (show 162 < 999999 by omega), if_pos kk3, u1, kb_s, rf0_1 rg1, if_pos (show 3 < 999999 by omega), if_pos kk3, u2, kb_s, kl_e, n32_addl]
    · obtain ⟨s1', g⟩ := s
      obtain ⟨p1, p2, p3, p4, p5, p6, p7, p8⟩ := hP
      dsimp only at p1 p2 p3 p4 p5 p6 p7 p8
      subst p1
      have c4 : kI g c 4 = Int32.ofNat (kN h 198 4) := (p2.2.2.1 _ _ (by unfold Wk Wscr; rcases hc with rfl | rfl <;> omega)).trans (hm.2.1.2.trans hm.2.1.1.1)
      have g5 : kR g 0 5 = c := (p2.2.1 _ _).trans h5
      refine ⟨g, ?_, p2, p3, p4, p7⟩
      unfold f_X11_ask_l62
      dsimp only
      rw [if_pos kk0, g5, if_pos (show c < 999999 by omega), if_pos (ct_kk hc), c4, if_pos (by rw [n32_le (by omega) (by omega)]; omega)]
  obtain ⟨h3, e3, f3, y3, z3, a3⟩ := lp
  exact ⟨h3, e1, f1, by rw [eh2]; exact x_begin6 h1 w27, e3, f3, y3, z3, a3⟩
