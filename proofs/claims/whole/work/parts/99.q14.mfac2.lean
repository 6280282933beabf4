/-! the model reads a FACT -/
theorem lvF_c (b : Nat → Nat) (n : Nat) (L : Bool) (k : Nat) : lvF b n L k = fct b n (if k = 0 then none else some (lvF b n L (k - 1))) (smm b n (lvP b n L k)) := by
  cases k with
  | zero => rfl
  | succ k => rfl
theorem okTs {T : List Nat} (h : wfT T) : okB T := by
  intro x hx
  cases T with
  | nil => exact nomatch hx
  | cons y w =>
    have e : y = x := by
      have : some y = some x := hx
      cases this
      rfl
    rcases h.2 with u | u | u | u <;> omega
theorem m_qFact {h g : KH} {n : Nat} {L : Bool} {T : List Nat} {k a : Nat} {s : PS} (ht : Rtape h) (n16 : n ≤ 1600) (wf : wfT T) (q : Qd h g n L T [] k a 0 s) (s1 : wI (tyN h) n s ≠ 18) (s2 : ¬ (tkT (tyN h) n s.1 s.2.1 = 4 ∧ tkV (tyN h) n s.1 = 91)) : ∃ g', f_X12_qFact g 173 = some g' ∧ kfp Wq2 g g' ∧ ((∃ e, lvF (tyN h) n L k s = .inl e ∧ Qe h g' n 1602 e) ∨ ∃ s' a', lvF (tyN h) n L k s = .inr s' ∧ Qd h g' n L T [] k a' 0 s' ∧ s.1 < s'.1) := by
  have len := q.len
  have rg := q.kR
  have rw1 := q.1.1.2.2.2
  have wall : Wd g 227 19 := rw1.w2 (q := 9) (by omega)
  obtain ⟨g1, e1, f1, t1, n1⟩ := m_takes ht n16 wall q.1
  have eF : lvF (tyN h) n L k s = if wI (tyN h) n s = 19 then .inr (pem 13 (nxt (tyN h) n s)) else pbd (smm (tyN h) n (lvP (tyN h) n L k) s) fun s1 => if opC (tyN h) n s1 = 0 then pft (tyN h) n 1 s1 else pbd (smm (tyN h) n (lvP (tyN h) n L k) (nxt (tyN h) n s1)) fun s2 => .inr (pem (opC (tyN h) n s1) s2) := by
    rw [lvF_c]
    unfold fct
    rw [if_neg s1, if_neg s2]
  unfold f_X12_qFact
  rw [if_pos kk173, rf173_73 rg, if_pos (show 227 < 999999 by omega), e1, kb_s]
  by_cases y : wI (tyN h) n s = 19
  · simp only [if_pos y]
    rw [if_neg (by decide)]
    have tw := wI_t (b := tyN h) (n := n) (s := s) (by omega)
    have pos := nxt_pos (tyN h) len.2 (by rw [tw]; omega)
    have q1 := q.mv f1 (t1 y) rfl (e' := 0) (by omega)
    obtain ⟨g2, e2, f2, q2⟩ := m_qCode (c := 13) n16 q1 (by omega)
    have e2' : f_X12_qCode g1 173 (13 : Int32) = some g2 := e2
    rw [e2', kb_s]
    rw [if_pos y] at eF
    refine ⟨g2, rfl, (f1.wide fun l i z => Or.inl z).tr f2, Or.inr ⟨_, _, eF, q2.tight ?_, pos.1⟩⟩
    show ((nxt (tyN h) n s).2.2 ++ [13]).length + _ ≤ (nxt (tyN h) n s).1 + 0
    have l1 := len.1
    have cc : (nxt (tyN h) n s).2.2 = s.2.2 := rfl
    rw [cc]
    simp only [List.length_append, List.length_cons, List.length_nil] at l1 ⊢
    omega
  · simp only [if_neg y]
    rw [if_pos True.intro]
    rw [if_neg y] at eF
    have q1 := q.mv f1 (n1 y) rfl (e' := 0) (by omega)
    have F1 : kfp Wq2 g g1 := f1.wide fun l i z => Or.inl z
    obtain ⟨g2, e2, f2, hh⟩ := m_qSums ht n16 (okTs wf) q1
    rw [e2, kb_s]
    rcases hh with ⟨e, he, qe⟩ | ⟨s', a2, hs, q2⟩
    · rw [if_neg qe.1.bad]
      rw [he, pbd_l] at eF
      obtain ⟨m, hm, em⟩ := qe.2
      exact ⟨g2, rfl, F1.tr f2, Or.inl ⟨e, eF, qe.1, m, by omega, em⟩⟩
    · rw [hs, pbd_r] at eF
      obtain ⟨r1, r2, d, r3, r4, -⟩ := smm_g (lvP_g (tyN h) n L k) s s' len.2 hs
      obtain ⟨g3, e3, f3, m3⟩ := m_look0 ht n16 q2.1
      have m3' : MdS h g3 n s' := m3
      have q3 := q2.mv f3 m3 rfl (Nat.le_refl _)
      have len3 := q3.len
      have F3 : kfp Wq2 g g3 := (F1.tr f2).tr (f3.wide fun l i z => Or.inl z)
      have sgi : ∀ c, (c = 60 ∨ c = 61 ∨ c = 62) → (lkI (tyN h) n s'.1 = Int32.ofNat c ↔ tkT (tyN h) n s'.1 s'.2.1 = 4 ∧ tkV (tyN h) n s'.1 = c) := fun c hc => lkI_sg s'.2.1 (Md.byte ht n16 m3) (by rcases hc with rfl | rfl | rfl <;> exact ⟨by omega, rfl, rfl⟩)
      have i60 : lkI (tyN h) n s'.1 = (60 : Int32) ↔ _ := sgi 60 (by omega)
      have i61 : lkI (tyN h) n s'.1 = (61 : Int32) ↔ _ := sgi 61 (by omega)
      have i62 : lkI (tyN h) n s'.1 = (62 : Int32) ↔ _ := sgi 62 (by omega)
      rw [q2.1.2.2.1, if_pos rfl, e3, kb_s]
      dsimp only
      have cmp : ∀ c o, ((c = 60 ∧ o = 7) ∨ (c = 62 ∧ o = 8) ∨ (c = 61 ∧ o = 9)) → (tkT (tyN h) n s'.1 s'.2.1 = 4 ∧ tkV (tyN h) n s'.1 = c) → lkI (tyN h) n s'.1 = Int32.ofNat c → ∃ g', f_X12_qFact_b63 g3 173 (lkI (tyN h) n s'.1) = some g' ∧ kfp Wq2 g g' ∧ ((∃ e, lvF (tyN h) n L k s = .inl e ∧ Qe h g' n 1602 e) ∨ ∃ s' a', lvF (tyN h) n L k s = .inr s' ∧ Qd h g' n L T [] k a' 0 s' ∧ s.1 < s'.1) := fun c o hc yc lk => by
        have oc : opC (tyN h) n s' = o := by
          unfold opC
          rcases hc with ⟨rfl, rfl⟩ | ⟨rfl, rfl⟩ | ⟨rfl, rfl⟩
          · rw [if_pos yc]
          · rw [if_neg (by omega), if_pos yc]
          · rw [if_neg (by omega), if_neg (by omega), if_pos yc]
        rw [oc, if_neg (by omega)] at eF
        have pos := nxt_pos (tyN h) len3.2 (by rw [yc.1]; omega)
        obtain ⟨u1, u2, u3⟩ := m_takenS n16 m3' yc
        obtain ⟨g4, eg4⟩ : ∃ g4, g4 = ksI g3 173 2 (Int32.ofNat (tkE (tyN h) n s'.1)) := ⟨_, rfl⟩
        rw [← eg4] at u1 u2 u3
        have q4 := q3.mv u2 u3 rfl (e' := 0) (by omega)
        obtain ⟨g5, e5, f5, hh⟩ := m_qSums ht n16 (okTs wf) q4
        have F5 : kfp Wq2 g g5 := (F3.tr (u2.wide fun l i z => Or.inl z)).tr f5
        -- the comparison's code
        have b102 : ∃ g', f_X12_qFact_b102 g5 173 (Int32.ofNat o) = some g' ∧ kfp Wq2 g g' ∧ ((∃ e, lvF (tyN h) n L k s = .inl e ∧ Qe h g' n 1602 e) ∨ ∃ s' a', lvF (tyN h) n L k s = .inr s' ∧ Qd h g' n L T [] k a' 0 s' ∧ s.1 < s'.1) := by
          unfold f_X12_qFact_b102
          rw [if_pos kk173]
          rcases hh with ⟨e, he, qe⟩ | ⟨s6, a6, hs6, q6⟩
          · obtain ⟨m, hm, em⟩ := qe.2
            rw [m_qCodeR qe.1.1.1 em (by omega), kb_s]
            obtain ⟨g6, eg6⟩ : ∃ g6, g6 = ksI (ksI g5 239 m (Int32.ofNat o)) 173 86 (Int32.ofNat (m + 1)) := ⟨_, rfl⟩
            rw [← eg6]
            have f6 : kfp (fun l i => l = 239 ∨ (l = 173 ∧ i = 86)) g5 g6 := by rw [eg6]; exact (kfp.rf.sI _ (by omega)).sI _ (by omega)
            rw [he, pbd_l] at eF
            exact ⟨g6, rfl, F5.tr (f6.wide fun l i z => by unfold Wq2; omega), Or.inl ⟨e, eF, qe.1.fp f6 fun l i z => by omega, m + 1, by omega, by rw [eg6, kI_sI, if_pos ⟨rfl, rfl⟩]⟩⟩
          · obtain ⟨g6, e6, f6, q7⟩ := m_qCode (c := o) n16 q6 (by omega)
            obtain ⟨v1, v2, d2, v3, v4, -⟩ := smm_g (lvP_g (tyN h) n L k) _ s6 pos.2 hs6
            rw [hs6, pbd_r] at eF
            rw [e6, kb_s]
            refine ⟨g6, rfl, F5.tr f6, Or.inr ⟨_, a6, eF, q7.tight ?_, by show s.1 < s6.1; omega⟩⟩
            show (s6.2.2 ++ [o]).length + _ ≤ s6.1 + 0
            have cc : (nxt (tyN h) n s').2.2 = s'.2.2 := rfl
            have l1 := len.1
            rw [v3, cc, r3]
            simp only [List.length_append, List.length_cons, List.length_nil] at l1 ⊢
            omega
        unfold f_X12_qFact_b63
        rw [if_pos kk173, u1, kl_e, e5, kb_s, lk]
        rcases hc with ⟨rfl, rfl⟩ | ⟨rfl, rfl⟩ | ⟨rfl, rfl⟩
        · rw [if_pos (show Int32.ofNat 60 = (60 : Int32) from rfl)]
          exact b102
        · rw [if_neg (by decide), if_pos (show Int32.ofNat 62 = (62 : Int32) from rfl)]
          exact b102
        · rw [if_neg (by decide), if_neg (by decide)]
          exact b102
      by_cases z60 : lkI (tyN h) n s'.1 = (60 : Int32)
      · rw [if_pos z60]
        exact cmp 60 7 (Or.inl ⟨rfl, rfl⟩) (i60.mp z60) z60
      · rw [if_neg z60]
        by_cases z62 : lkI (tyN h) n s'.1 = (62 : Int32)
        · rw [if_pos z62]
          exact cmp 62 8 (Or.inr (Or.inl ⟨rfl, rfl⟩)) (i62.mp z62) z62
        · rw [if_neg z62]
          by_cases z61 : lkI (tyN h) n s'.1 = (61 : Int32)
          · rw [if_pos z61]
            exact cmp 61 9 (Or.inr (Or.inr ⟨rfl, rfl⟩)) (i61.mp z61) z61
          · rw [if_neg z61]
            have oc : opC (tyN h) n s' = 0 := by
              unfold opC
              rw [if_neg (fun z => z60 (i60.mpr z)), if_neg (fun z => z62 (i62.mpr z)), if_neg (fun z => z61 (i61.mpr z))]
            rw [oc, if_pos rfl] at eF
            obtain ⟨g4, e4, f4, m4⟩ := m_failS (k := 1) m3' (by omega) (by omega)
            have e4' : f_X12_fail g3 173 (1 : Int32) (kI g3 173 2) = some g4 := e4
            have m4' : Md h g4 n 0 (.inl (1, blE (tyN h) n s'.1)) := m4
            rw [e4', kb_s]
            exact ⟨g4, rfl, F3.tr (f4.wide fun l i z => Or.inl z), Or.inl ⟨_, eF, q3.bad n16 f4 m4' (by omega) (by omega)⟩⟩
