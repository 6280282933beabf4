/-! the model's answer to a QUESTION -/
theorem xqZ_same {h h' : KH} (I : ∀ l i, 198 ≤ l → l ≤ 207 → kI h' l i = kI h l i) (d : List Nat) : xqZ h' d = xqZ h d := by
  have lw : Law h h' := fun l i a b => I l i a (by omega)
  have e1 : tmM h' = tmM h := funext fun t => kN_same (I 207 _ (by omega) (by omega))
  have e2 : anN h' = anN h := funext fun t => kN_same (I 207 _ (by omega) (by omega))
  have e3 : lkM h' = lkM h := funext fun t => kN_same (I 207 _ (by omega) (by omega))
  have eW : WN h' = WN h := by
    unfold WN
    rw [lw.wt, e1, e2, e3]
  have eP : paN h' (tmM h') = paN h (tmM h) := by rw [lw.pa, e1]
  have e4 : kN h' 198 4 = kN h 198 4 := kN_same (I _ _ (by omega) (by omega))
  have e5 : kN h' 198 3 = kN h 198 3 := kN_same (I _ _ (by omega) (by omega))
  have ep : prN h' = prN h := kN_same (I _ _ (by omega) (by omega))
  have em : ∀ t, mqZ h' t = mqZ h t := fun t => by
    unfold mqZ mrZ
    rw [eW, eP, e2, e4, ep, lw.hm]
  have es : ∀ t, sqN h' t = sqN h t := fun t => by
    unfold sqN
    rw [eW, eP, e2]
  funext t
  have pv : pvQ h' t = pvQ h t := by
    funext p
    unfold pvQ
    rw [em, es, e1, kN_same (I 201 (6 + t) (by omega) (by omega))]
  have yv : yvQ h' t = yvQ h t := by
    funext a
    unfold yvQ
    rw [e5, lw.yb, e1]
  unfold xqZ
  rw [pv, yv]
def Wma (l i : Nat) : Prop := Wscr l i ∨ Wtk l i
theorem m_askEval {h : KH} {c w ty : Nat} {d : List Nat} (rc : RC h c) (rs : RS h) (rr : Rrule h c) (ry : Ryt h c) (rz : Rzero h) (e86 : kI h 173 86 = Int32.ofNat d.length) (n16 : d.length ≤ 1600) (ec : ∀ i, i < d.length → kI h 239 i = Int32.ofNat (d.getD i 0)) (hd : rtf false (fun i => d.getD i 0) 0 d.length [] = some [ty]) (h01 : ty = 0 ∨ ty = 1) (hty : (w = 9 ∨ w = 22 ∨ w = 23) → ty = 1) (iw : isQ w) :
    ∃ r g', f_X12_ask_b157 h 173 (Int32.ofNat (qkN w)) 173 (if w = 9 ∨ w = 22 then -1 else 0) = some (r, g') ∧ r.toInt = aqZ w (xqZ h d) (kN h 198 4) ∧ kfp Wma h g' ∧ Ryt g' c ∧ Rzero g' := by
  obtain ⟨hr, hc, h5, hm, -, htt, -⟩ := id rc
  have n4 := hm.2.1.1.2
  have c39 := hc.lt
  obtain ⟨b, eb⟩ : ∃ b, b = ksI (ksL h 173 93 (if w = 9 ∨ w = 22 then -1 else 0)) 173 94 (1 : Int32) := ⟨_, rfl⟩
  have fb : kfp Wtk h b := by rw [eb]; exact (kfp.rf.sL _ (by unfold Wtk; omega)).sI _ (by unfold Wtk; omega)
  have rb := hr.fp fb
  have rcb : RC b c := rc.fp fb fun l i z q => by unfold Wct at z; unfold Wtk at q; omega
  have rsb : RS b := rs.fp fb fun l i z q => by unfold Wtk at q; omega
  have rrb : Rrule b c := rr.fp fb fun l i z q => by unfold Wtk at q; omega
  have ryb : Ryt b c := ry.fp fb fun l i z q => by unfold Wlw at z; unfold Wtk at q; omega
  have rzb : Rzero b := rz.fp fb fun l i z q => by unfold Wtk at q; omega
  have Ib : ∀ l i, 198 ≤ l → l ≤ 207 → kI b l i = kI h l i := fun l i x y => fb.2.2.1 _ _ (by unfold Wtk; omega)
  have ex : xqZ b d = xqZ h d := xqZ_same Ib d
  have e4 : kN b 198 4 = kN h 198 4 := kN_same (Ib _ _ (by omega) (by omega))
  obtain ⟨g1, e1, s1, f1, yl, ms⟩ := m_now rcb rsb rrb (Scr.rf ryb rzb)
  obtain ⟨g2, e2, f2, z2, mr⟩ := m_askRows rcb rsb rrb (Int32.ofNat (qkN w)) s1.1 s1.2.2 yl ms
  rw [e4] at mr
  obtain ⟨g3, eg3⟩ : ∃ g3, g3 = ksI g2 173 44 (0 : Int32) := ⟨_, rfl⟩
  have f23 : kfp (fun l i => l = 173 ∧ i = 44) g2 g3 := by rw [eg3]; exact kfp.rf.sI _ ⟨rfl, rfl⟩
  have F12 : kfp Wscr b g2 := s1.1.tr (f2.wide fun l i z => by unfold Wrw at z; unfold Wscr; omega)
  have F3 : kfp Wscr b g3 := F12.tr (f23.wide fun l i z => by unfold Wscr; omega)
  have y3 : Ryt g3 c := (s1.2.1.fp f2 fun l i z q => by unfold Wlw at z; unfold Wrw at q; omega).fp f23 fun l i z q => by unfold Wlw at z; omega
  have z3 : Rzero g3 := z2.fp f23 fun l i z q => by omega
  have mr3 : MR b g3 (kN b 198 4) := fun u hu => by
    rw [e4] at hu
    obtain ⟨a1, a2, a3⟩ := mr u hu
    exact ⟨by rw [f23.2.2.2 _ _ (by omega)]; exact a1, (f23.2.2.1 _ _ (by omega)).trans a2, fun k hk => (f23.2.2.1 _ _ (by omega)).trans (a3 k hk)⟩
  have xb := fun t (ht : t < kN h 198 4) => xqZ_b rc rs rr ht hd h01
  have ab := aqZ_b w (xqZ h d) (kN h 198 4) n4 (fun t ht => (xb t ht).1)
  have K : ∀ l i, ¬ Wscr l i → ¬ Wtk l i → kI g3 l i = kI h l i := fun l i x y => (F3.2.2.1 _ _ x).trans (fb.2.2.1 _ _ y)
  obtain ⟨g4, e4', f4, a4⟩ : ∃ g4, kloop (f_X12_ask_l325 173 (Int32.ofNat (qkN w))) KF ((0 : Int32), g3) = some g4 ∧ kfp (fun l i => Wq l i ∨ Wtk l i) g3 g4 ∧ (kL g4 173 93).toInt = aqZ w (xqZ h d) (kN h 198 4) := by
    refine kloop_inv (body := f_X12_ask_l325 173 (Int32.ofNat (qkN w))) (fun t s => s.1 = Int32.ofNat t ∧ kfp (fun l i => Wq l i ∨ Wtk l i) g3 s.2 ∧ (kL s.2 173 93).toInt = aqZ w (xqZ h d) t ∧ kI s.2 173 94 = if t = 0 then 1 else 0)
      (fun r => kfp (fun l i => Wq l i ∨ Wtk l i) g3 r ∧ (kL r 173 93).toInt = aqZ w (xqZ h d) (kN h 198 4)) (kN h 198 4) (s0 := ((0 : Int32), g3)) (by omega) ⟨rfl, kfp.rf, ?_, ?_⟩ (fun t s ht hP => ?_) (fun s hP => ?_)
    · show (kL g3 173 93).toInt = _
      rw [F3.2.2.2 _ _ (by unfold Wscr; omega), eb, kL_sI, kL_sL, if_pos ⟨rfl, rfl⟩, aqZ]
      by_cases y : w = 9 ∨ w = 22
      · rw [if_pos y, if_pos y]
        rfl
      · rw [if_neg y, if_neg y]
        rfl
    · show kI g3 173 94 = _
      rw [F3.2.2.1 _ _ (by unfold Wscr; omega), eb, kI_sI, if_pos ⟨rfl, rfl⟩, if_pos rfl]
    · obtain ⟨s1', q⟩ := s
      obtain ⟨p1, p2, p3, p4⟩ := hP
      dsimp only at p1 p2 p3 p4
      subst p1
      have rq := (rb.fp F3).fp p2
      have Iq : ∀ l i, 198 ≤ l → l ≤ 207 → kI q l i = kI b l i := fun l i x y => (p2.2.2.1 _ _ (by unfold Wq Wtk; omega)).trans (F3.2.2.1 _ _ (by unfold Wscr; omega))
      have mq : MR b q (kN b 198 4) := fun u hu => ⟨by rw [p2.2.2.2 _ _ (by unfold Wq Wtk; omega)]; exact (mr3 u hu).1, (p2.2.2.1 _ _ (by unfold Wq Wtk; omega)).trans (mr3 u hu).2.1, fun k hk => (p2.2.2.1 _ _ (by unfold Wq Wtk; omega)).trans ((mr3 u hu).2.2 k hk)⟩
      have q44 : kI q 173 44 = 0 := (p2.2.2.1 _ _ (by unfold Wq Wtk; omega)).trans (by rw [eg3, kI_sI, if_pos ⟨rfl, rfl⟩])
      have q86 : kI q 173 86 = Int32.ofNat d.length := ((p2.2.2.1 _ _ (by unfold Wq Wtk; omega)).trans (K _ _ (by unfold Wscr; omega) (by unfold Wtk; omega))).trans e86
      have qc : ∀ i, i < d.length → kI q 239 i = Int32.ofNat (d.getD i 0) := fun i hi => ((p2.2.2.1 _ _ (by unfold Wq Wtk; omega)).trans (K _ _ (by unfold Wscr; omega) (by unfold Wtk; omega))).trans (ec i hi)
      have q4 : kI q 198 4 = Int32.ofNat (kN h 198 4) := (Iq _ _ (by omega) (by omega)).trans ((Ib _ _ (by omega) (by omega)).trans hm.2.1.1.1)
      obtain ⟨v, q1, u1, fq1, vx⟩ := m_qTold rcb rsb rrb rq Iq mq q44 q86 n16 qc hd h01 (t := t) (by rw [e4]; exact ht)
      rw [ex] at vx
      have L93 : kL q1 173 93 = kL q 173 93 := fq1.2.2.2 _ _ (by unfold Wq; omega)
      have I94 : kI q1 173 94 = kI q 173 94 := fq1.2.2.1 _ _ (by unfold Wq; omega)
      obtain ⟨q2, u2, fq2, a2, k2⟩ := m_qTakes (x := xqZ h d) iw (show t < 6 by omega) vx (fun z => (xb t ht).2.1 (hty z)) (by rw [L93]; exact p3) (by rw [I94]; exact p4) (by have := ab t (by omega); omega) (xb t ht).1
      refine ⟨(Int32.ofNat (t + 1), q2), ?_, rfl, (p2.tr (fq1.wide fun l i z => Or.inl z)).tr (fq2.wide fun l i z => Or.inr z), a2, by rw [if_neg (by omega)]; exact k2⟩
      unfold f_X12_ask_l325
      dsimp only
      rw [if_pos kk173, m_testMany rq, kb_s, q4, if_neg (by rw [n32_le (by omega) (by omega)]; omega), u1, kb_s]
      dsimp only
      rw [u2, kb_s, kl_e, n32_addl]
    · obtain ⟨s1', q⟩ := s
      obtain ⟨p1, p2, p3, p4⟩ := hP
      dsimp only at p1 p2 p3 p4
      subst p1
      have rq := (rb.fp F3).fp p2
      have q4 : kI q 198 4 = Int32.ofNat (kN h 198 4) := ((p2.2.2.1 _ _ (by unfold Wq Wtk; omega)).trans (K _ _ (by unfold Wscr; omega) (by unfold Wtk; omega))).trans hm.2.1.1.1
      refine ⟨q, ?_, p2, p3⟩
      unfold f_X12_ask_l325
      dsimp only
      rw [if_pos kk173, m_testMany rq, kb_s, q4, if_pos (by rw [n32_le (by omega) (by omega)]; omega)]
  refine ⟨kL g4 173 93, g4, ?_, a4, ((fb.wide fun l i z => Or.inr z).tr (F3.wide fun l i z => Or.inl z)).tr (f4.wide fun l i z => z.elim (fun z => Or.inl (by unfold Wq at z; unfold Wscr; omega)) Or.inr), y3.fp f4 fun l i z q => by unfold Wlw at z; unfold Wq Wtk at q; omega, z3.fp f4 fun l i z q => by unfold Wq Wtk at q; omega⟩
  unfold f_X12_ask_b157
  rw [if_pos kk173, kl_e, if_pos kk173, kl_e, ← eb, e1, kb_s, e2, kb_s, kl_e, ← eg3, e4', kb_s]
