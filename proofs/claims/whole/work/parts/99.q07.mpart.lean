/-! the model reads a part -/
theorem Qd.tight {h g : KH} {n : Nat} {L : Bool} {w B : List Nat} {k a e e' : Nat} {s : PS} (q : Qd h g n L w B k a e s) (hb : s.2.2.length + (w ++ B).length ≤ s.1 + e') : Qd h g n L w B k a e' s := ⟨q.1, q.2.1, q.2.2.1, q.2.2.2.1, q.2.2.2.2.1, q.2.2.2.2.2.1, hb⟩
theorem Md.at2 {h g : KH} {n a : Nat} {e : Nat × Nat} (m : Md h g n a (.inl e)) (v : Int32) : Md h (ksI g 173 2 v) n 0 (.inl e) := by
  have f : kfp (fun l i => l = 173 ∧ i = 2) g (ksI g 173 2 v) := kfp.rf.sI _ ⟨rfl, rfl⟩
  obtain ⟨m1, m2, m3, m4, m5⟩ := m
  exact ⟨m1.fp f fun l i z => by omega, m2, m3, (f.2.2.1 _ _ (by omega)).trans m4, (f.2.2.1 _ _ (by omega)).trans m5⟩
def simP (b : Nat → Nat) (n : Nat) (L : Bool) (s : PS) : Prop := ¬ (tkT b n s.1 s.2.1 = 4 ∧ tkV b n s.1 = 40) ∧ wI b n s ≠ 20 ∧ wI b n s ≠ 21 ∧ ¬ (wI b n s = 8 ∧ L = false)
theorem lvP_c (b : Nat → Nat) (n : Nat) (L : Bool) (k : Nat) : lvP b n L k = prt b n L (if k = 0 then none else some (lvP b n L (k - 1))) := by
  cases k with
  | zero => rfl
  | succ k => rfl
theorem vcN_27 (L : Bool) : vcN L 27 = 0 := by cases L <;> rfl
theorem prt_sim {b : Nat → Nat} {n : Nat} {L : Bool} {sub : Option (PS → PR)} {s : PS} (h : simP b n L s) : prt b n L sub s = if vcN L (wI b n s) = 0 then (match wNum b n 0 9999 s with
    | .inl e => .inl e
    | .inr v => .inr (pem (1000 + v.1) v.2)) else .inr (pem (vcN L (wI b n s)) (nxt b n s)) := by
  obtain ⟨h1, h2, h3, h4⟩ := h
  unfold prt
  by_cases y : tkT b n s.1 s.2.1 = 3
  · have w : wI b n s = 27 := by unfold wI wIx; rw [if_neg (by omega)]
    rw [if_pos y, w, vcN_27, if_pos rfl]
    cases wNum b n 0 9999 s <;> rfl
  · rw [if_neg y, if_neg h1, if_neg h2, if_neg h3, if_neg h4]
    by_cases v : vcN L (wI b n s) = 0
    · rw [if_pos v, if_pos v]
      unfold wNum pft
      rw [if_pos y]
    · rw [if_neg v, if_neg v]
/-- brackets and words that a part stands behind -/
theorem m_partLoop {h g : KH} {n : Nat} {L : Bool} {w B : List Nat} {k a : Nat} {s : PS} (ht : Rtape h) (n16 : n ≤ 1600) (q : Qd h g n L w B k a 0 s) (wf : wfS w) (F : PR) (hF : F = pbd (lvP (tyN h) n L k s) ((dn (tyN h) n L w).1 k)) :
    ∃ g', kloop (f_X12_qPartTold_l2 173) KF ((1 : Int32), g) = some g' ∧ kfp Wq2 g g' ∧ ((∃ e, F = .inl e ∧ Qe h g' n 1601 e) ∨ ∃ w' k' s', Qd h g' n L w' B k' (blE (tyN h) n s'.1) 0 s' ∧ wfS w' ∧ F = pbd (lvP (tyN h) n L k' s') ((dn (tyN h) n L w').1 k') ∧ simP (tyN h) n L s' ∧ s.1 ≤ s'.1) := by
  refine kloop_KF (body := f_X12_qPartTold_l2 173) (fun m st => kfp Wq2 g st.2 ∧ ((st.1 = 1 ∧ ∃ w' k' a' s', Qd h st.2 n L w' B k' a' 0 s' ∧ wfS w' ∧ F = pbd (lvP (tyN h) n L k' s') ((dn (tyN h) n L w').1 k') ∧ s.1 ≤ s'.1 ∧ m = (n - s'.1) + 2) ∨ (∃ e, F = .inl e ∧ Qe h st.2 n 1601 e) ∨ (st.1 = 0 ∧ ∃ w' k' s', Qd h st.2 n L w' B k' (blE (tyN h) n s'.1) 0 s' ∧ wfS w' ∧ F = pbd (lvP (tyN h) n L k' s') ((dn (tyN h) n L w').1 k') ∧ simP (tyN h) n L s' ∧ s.1 ≤ s'.1))) (fun g' => kfp Wq2 g g' ∧ ((∃ e, F = .inl e ∧ Qe h g' n 1601 e) ∨ ∃ w' k' s', Qd h g' n L w' B k' (blE (tyN h) n s'.1) 0 s' ∧ wfS w' ∧ F = pbd (lvP (tyN h) n L k' s') ((dn (tyN h) n L w').1 k') ∧ simP (tyN h) n L s' ∧ s.1 ≤ s'.1)) (fun m st hP => ?_) (n := (n - s.1) + 2) (by omega) ⟨kfp.rf, Or.inl ⟨rfl, w, k, a, s, q, wf, hF, Nat.le_refl _, rfl⟩⟩
  obtain ⟨fl, x⟩ := st
  obtain ⟨fx, hP⟩ := hP
  dsimp only at fx hP
  rcases hP with ⟨f1, w', k', a', s', q', wf', hF', hs', hm⟩ | ⟨e, he, qe⟩ | ⟨f0, w', k', s', hh⟩
  · subst f1
    have W (e : ∀ l i, Wmp l i → Wq2 l i := fun l i z => Or.inl z) := e
    have len := q'.len
    obtain ⟨x1, e1, fx1, m1⟩ := m_look0 ht n16 q'.1
    have q1 : Qd h x1 n L w' B k' (blE (tyN h) n s'.1) 0 s' := q'.mv fx1 m1 rfl (Nat.le_refl _)
    have r1 := q1.kR
    have m1' : MdS h x1 n s' := m1
    have hL := q1.2.1
    have w8 := m_qWord8 ht n16 m1' hL
    have sg40 : isSg 40 := ⟨by omega, rfl, rfl⟩
    have sg := lkI_sg s'.2.1 (Md.byte ht n16 m1) sg40
    have sg' : lkI (tyN h) n s'.1 = (40 : Int32) ↔ tkT (tyN h) n s'.1 s'.2.1 = 4 ∧ tkV (tyN h) n s'.1 = 40 := sg
    have rw1 := m1.1.2.2.2
    have wmin : Wd x1 228 20 := rw1.w2 (q := 10) (by omega)
    have wmax : Wd x1 229 21 := rw1.w2 (q := 11) (by omega)
    have hmin := m_isHereS ht n16 wmin m1'
    have hmax := m_isHereS ht n16 wmax m1'
    have F1 : kfp Wq2 g x1 := fx.tr (fx1.wide fun l i z => Or.inl z)
    have top : f_X12_qPartTold_l2 173 ((1 : Int32), x) = (if lkI (tyN h) n s'.1 = (40 : Int32) then
        kb (f_X12_qOpens x1 173 (20 : Int32) (kI x1 173 2)) (fun r34 => kl (ksI r34 173 2 ((kI r34 173 2) + (1 : Int32))) fun h38 => f_X12_qPartTold_b183 h38 173 (1 : Int32))
      else if wI (tyN h) n s' = 20 then f_X12_qPartTold_b78 x1 173 (1 : Int32) else if wI (tyN h) n s' = 21 then f_X12_qPartTold_b78 x1 173 (1 : Int32)
      else if wI (tyN h) n s' = 8 ∧ L = false then kb (f_X12_qOpens x1 173 (60 : Int32) (kI x1 173 2)) (fun r26 => kb (f_X12_qAsksWord r26 173 (8 : Int32)) fun r30 => f_X12_qPartTold_b183 r30 173 (1 : Int32))
      else f_X12_qPartTold_b183 x1 173 (0 : Int32)) := by
      unfold f_X12_qPartTold_l2
      dsimp only
      rw [if_neg (by decide), if_pos kk173, q'.1.2.2.1, if_pos rfl, e1, kb_s]
      dsimp only
      rw [w8, kb_s]
      dsimp only
      by_cases y : lkI (tyN h) n s'.1 = (40 : Int32)
      · rw [if_pos y, if_pos y]
      · rw [if_neg y, if_neg y, rf173_74 r1, if_pos (show 228 < 999999 by omega), hmin, kb_s, if10]
        by_cases a20 : wI (tyN h) n s' = 20
        · simp only [if_pos a20]
        · simp only [if_neg a20]
          rw [rf173_75 r1, if_pos (show 229 < 999999 by omega), hmax, kb_s, if10]
          by_cases a21 : wI (tyN h) n s' = 21
          · simp only [if_pos a21]
          · simp only [if_neg a21]
            by_cases a8 : wI (tyN h) n s' = 8 ∧ L = false
            · simp only [if_pos a8]
              rw [if_neg (by decide)]
              rfl
            · simp only [if_neg a8]
              rw [if_pos True.intro]
    rw [top]
    clear top
    -- a fault told: what is due
    by_cases y : lkI (tyN h) n s'.1 = (40 : Int32)
    · have y4 := sg'.mp y
      have pos := nxt_pos (tyN h) len.2 (by rw [y4.1]; omega)
      obtain ⟨x2, e2, f2, k0, k1⟩ := m_qOpens (x := 20) n16 q1 (by omega) (by omega)
      have e2' : f_X12_qOpens x1 173 (20 : Int32) (kI x1 173 2) = some x2 := e2
      rw [if_pos y, e2', kb_s, kl_e]
      unfold f_X12_qPartTold_b183
      by_cases z : k' = 0
      · obtain ⟨m2, c2⟩ := k0 z
        refine Or.inr ⟨0, _, by omega, rfl, (F1.tr f2).sI _ (Or.inl ⟨rfl, by omega⟩), Or.inr (Or.inl ⟨(4, blE (tyN h) n s'.1), ?_, m2.at2 _, s'.2.2.length, by omega, by rw [kI_sI, if_neg (by omega)]; exact c2⟩)⟩
        rw [hF', lvP_c, if_pos z]
        unfold prt
        rw [if_neg (show ¬ tkT (tyN h) n s'.1 s'.2.1 = 3 by omega), if_pos y4]
        rfl
      · have q2 := k1 z
        obtain ⟨u1, u2, u3⟩ := m_takenS n16 q2.1 y4
        rw [u1]
        have q3 := q2.mv u2 u3 rfl (e' := 0) (by show s'.1 + 1 ≤ (nxt (tyN h) n s').1 + 0; omega)
        refine Or.inr ⟨n - (nxt (tyN h) n s').1 + 2, _, by omega, rfl, (F1.tr f2).tr (u2.wide fun l i z => Or.inl z), Or.inl ⟨rfl, 20 :: w', k' - 1, _, nxt (tyN h) n s', q3, ⟨wf', Or.inr (Or.inr (Or.inr (by omega)))⟩, ?_, by omega, rfl⟩⟩
        rw [hF', lvP_c, if_neg z]
        obtain ⟨k2, rfl⟩ : ∃ k2, k' = k2 + 1 := ⟨k' - 1, by omega⟩
        unfold prt
        rw [if_neg (show ¬ tkT (tyN h) n s'.1 s'.2.1 = 3 by omega), if_pos y4]
        exact dn_round (tyN h) n L w' k2 (nxt (tyN h) n s')
    · have y4 : ¬ (tkT (tyN h) n s'.1 s'.2.1 = 4 ∧ tkV (tyN h) n s'.1 = 40) := fun z => y (sg'.mpr z)
      rw [if_neg y]
      -- min, max
      have two : ∀ j c xx, (j = 20 ∧ c = 5 ∧ xx = 21) ∨ (j = 21 ∧ c = 6 ∧ xx = 22) → wI (tyN h) n s' = j → ((∃ r, f_X12_qPartTold_b78 x1 173 (1 : Int32) = some (.inr r) ∧ (kfp Wq2 g r ∧ ((∃ e, F = .inl e ∧ Qe h r n 1601 e) ∨ ∃ w' k' s', Qd h r n L w' B k' (blE (tyN h) n s'.1) 0 s' ∧ wfS w' ∧ F = pbd (lvP (tyN h) n L k' s') ((dn (tyN h) n L w').1 k') ∧ simP (tyN h) n L s' ∧ s.1 ≤ s'.1))) ∨ ∃ m2 st', m2 < m ∧ f_X12_qPartTold_b78 x1 173 (1 : Int32) = some (.inl st') ∧ (kfp Wq2 g st'.2 ∧ ((st'.1 = 1 ∧ ∃ w' k' a' s', Qd h st'.2 n L w' B k' a' 0 s' ∧ wfS w' ∧ F = pbd (lvP (tyN h) n L k' s') ((dn (tyN h) n L w').1 k') ∧ s.1 ≤ s'.1 ∧ m2 = (n - s'.1) + 2) ∨ (∃ e, F = .inl e ∧ Qe h st'.2 n 1601 e) ∨ (st'.1 = 0 ∧ ∃ w' k' s', Qd h st'.2 n L w' B k' (blE (tyN h) n s'.1) 0 s' ∧ wfS w' ∧ F = pbd (lvP (tyN h) n L k' s') ((dn (tyN h) n L w').1 k') ∧ simP (tyN h) n L s' ∧ s.1 ≤ s'.1)))) := fun j c xx hj hw => by
        have tw := wI_t (b := tyN h) (n := n) (s := s') (by omega)
        have pos := nxt_pos (tyN h) len.2 (by rw [tw]; omega)
        -- the word is passed
        have wrd : ∃ x2 fl2, f_X12_qPartTold_b78 x1 173 (1 : Int32) = f_X12_qPartTold_b101 x2 173 (1 : Int32) fl2 ∧ ((fl2 = 1 ∧ j = 20) ∨ (fl2 = 0 ∧ j = 21)) ∧ kfp Wmp x1 x2 ∧ ∃ a2, Md h x2 n a2 (.inr (nxt (tyN h) n s')) := by
          unfold f_X12_qPartTold_b78
          obtain ⟨x2, e2, f2, t1, t2⟩ := m_takes ht n16 wmin m1
          rcases hj with ⟨rfl, -, -⟩ | ⟨rfl, -, -⟩
          · rw [if_pos kk173, rf173_74 r1, if_pos (show 228 < 999999 by omega), e2, kb_s, if_pos hw]
            dsimp only
            rw [if_neg (by decide)]
            exact ⟨x2, 1, rfl, Or.inl ⟨rfl, rfl⟩, f2, _, t1 hw⟩
          · have m2 := t2 (by omega)
            have r2 := m2.1.1
            have wmax2 : Wd x2 229 21 := m2.1.2.2.2.w2 (q := 11) (by omega)
            obtain ⟨x3, a3, e3, f3, m3⟩ := m_asks ht n16 wmax2 m2
            have em : pbd (.inr s') (wW (tyN h) n 21) = .inr (nxt (tyN h) n s') := by
              rw [pbd_r]
              unfold wW
              rw [if_pos hw]
            rw [em] at m3
            rw [if_pos kk173, rf173_74 r1, if_pos (show 228 < 999999 by omega), e2, kb_s, if_neg (show ¬ wI (tyN h) n s' = 20 by omega)]
            dsimp only
            rw [if_pos rfl]
            rw [rf173_75 r2, if_pos (show 229 < 999999 by omega), e3, kb_s]
            exact ⟨x3, 0, rfl, Or.inr ⟨rfl, rfl⟩, f2.tr f3, a3, m3⟩
        obtain ⟨x2, fl2, e78, hfl, f2, a2, m2⟩ := wrd
        rw [e78]
        obtain ⟨S', hS'⟩ : ∃ S', nxt (tyN h) n s' = S' := ⟨_, rfl⟩
        rw [hS'] at m2 pos
        have cS : S'.2.2 = s'.2.2 := by rw [← hS']; rfl
        have q2 := q1.mv f2 m2 cS (e' := 0) (by omega)
        obtain ⟨x3, e3, f3, m3⟩ := m_look0 ht n16 m2
        have q3 := q2.mv f3 m3 rfl (Nat.le_refl _)
        have m3' : MdS h x3 n S' := m3
        have len3 := q3.len
        have sgp := lkI_sg S'.2.1 (Md.byte ht n16 m3) sg40
        have sgp' : lkI (tyN h) n S'.1 = (40 : Int32) ↔ tkT (tyN h) n S'.1 S'.2.1 = 4 ∧ tkV (tyN h) n S'.1 = 40 := sgp
        have F3 : kfp Wq2 g x3 := (F1.tr (f2.wide fun l i z => Or.inl z)).tr (f3.wide fun l i z => Or.inl z)
        have Fp : F = pbd (pair (tyN h) n (if k' = 0 then none else some (lvP (tyN h) n L (k' - 1))) c s') ((dn (tyN h) n L w').1 k') := by
          rw [hF', lvP_c]
          unfold prt
          rw [if_neg (show ¬ tkT (tyN h) n s'.1 s'.2.1 = 3 by omega), if_neg y4]
          rcases hj with ⟨rfl, rfl, -⟩ | ⟨rfl, rfl, -⟩
          · rw [if_pos hw]
          · rw [if_neg (by omega), if_pos hw]
        unfold f_X12_qPartTold_b101
        rw [if_pos kk173, e3, kb_s]
        dsimp only
        by_cases yp : tkT (tyN h) n S'.1 S'.2.1 = 4 ∧ tkV (tyN h) n S'.1 = 40
        · have pos2 := nxt_pos (tyN h) len3.2 (by rw [yp.1]; omega)
          have eat : kI x3 173 2 = Int32.ofNat (blE (tyN h) n S'.1) := m3.2.2.2.2.2.2.1
          have bl := blE_at (tyN h) len3.2
          rw [if_pos (sgp'.mpr yp)]
          unfold f_X12_qPartTold_b118
          rw [if_neg (by rw [eat, n32_eqm (by omega)]; exact fun z => z)]
          have b139 : ∃ x4, f_X12_qOpens x3 173 (Int32.ofNat xx) (kI x3 173 2) = some x4 ∧ kfp Wq2 x3 x4 ∧ (k' = 0 → Md h x4 n 0 (pft (tyN h) n 4 S') ∧ kI x4 173 86 = Int32.ofNat S'.2.2.length) ∧ (k' ≠ 0 → Qd h x4 n L (xx :: w') B (k' - 1) (blE (tyN h) n S'.1) 1 S') := m_qOpens (x := xx) n16 q3 (by omega) (by omega)
          obtain ⟨x4, e4, f4, k0, k1⟩ := b139
          have brn : (if fl2 = 0 then f_X12_qPartTold_b139 x3 173 (1 : Int32) (kI x3 173 2) 173 (22 : Int32) else f_X12_qPartTold_b139 x3 173 (1 : Int32) (kI x3 173 2) 173 (21 : Int32)) = f_X12_qPartTold_b144 x4 173 (1 : Int32) := by
            unfold f_X12_qPartTold_b139
            rcases hj with ⟨rfl, rfl, rfl⟩ | ⟨rfl, rfl, rfl⟩
            · have f1 : fl2 = 1 := by rcases hfl with z | z; exact z.1; have := z.2; omega
              have e4' : f_X12_qOpens x3 173 (21 : Int32) (kI x3 173 2) = some x4 := e4
              rw [f1, if_neg (by decide), if_pos kk173, e4', kb_s]
            · have f1 : fl2 = 0 := by rcases hfl with z | z; have := z.2; omega; exact z.1
              have e4' : f_X12_qOpens x3 173 (22 : Int32) (kI x3 173 2) = some x4 := e4
              rw [f1, if_pos rfl, if_pos kk173, e4', kb_s]
          rw [brn]
          unfold f_X12_qPartTold_b144 f_X12_qPartTold_b183
          by_cases z : k' = 0
          · obtain ⟨m4, c4⟩ := k0 z
            obtain ⟨x5, a5, e5, f5, m5⟩ := m_asksSign (c := 40) (r := pft (tyN h) n 4 S') ht n16 sg40 m4
            have e5' : f_X12_asksSign x4 173 (40 : Int32) = some x5 := e5
            rw [if_pos kk173, e5', kb_s]
            refine Or.inr ⟨0, _, by omega, rfl, (F3.tr f4).tr (f5.wide fun l i z => Or.inl z), Or.inr (Or.inl ⟨(4, blE (tyN h) n S'.1), ?_, m5, S'.2.2.length, by omega, (f5.2.2.1 _ _ (by unfold Wmp; omega)).trans c4⟩)⟩
            rw [Fp, if_pos z]
            unfold pair
            rw [hS', if_pos yp]
            rfl
          · have q4 := k1 z
            obtain ⟨x5, a5, e5, f5, m5⟩ := m_asksSign (c := 40) (r := .inr S') ht n16 sg40 q4.1
            have e5' : f_X12_asksSign x4 173 (40 : Int32) = some x5 := e5
            have em : pbd (.inr S') (wS (tyN h) n 40) = .inr (nxt (tyN h) n S') := by
              rw [pbd_r]
              unfold wS
              rw [if_pos yp]
            rw [em] at m5
            rw [if_pos kk173, e5', kb_s]
            have q5 := q4.mv f5 m5 rfl (e' := 0) (by show S'.1 + 1 ≤ (nxt (tyN h) n S').1 + 0; omega)
            refine Or.inr ⟨n - (nxt (tyN h) n S').1 + 2, _, by omega, rfl, (F3.tr f4).tr (f5.wide fun l i z => Or.inl z), Or.inl ⟨rfl, xx :: w', k' - 1, a5, nxt (tyN h) n S', q5, ⟨wf', Or.inr (Or.inr (Or.inr (by omega)))⟩, ?_, by omega, rfl⟩⟩
            rw [Fp, if_neg z]
            obtain ⟨k2, rfl⟩ : ∃ k2, k' = k2 + 1 := ⟨k' - 1, by omega⟩
            unfold pair
            rw [hS', if_pos yp]
            exact dn_pair (tyN h) n L w' k2 c xx (by rcases hj with ⟨-, u, v⟩ | ⟨-, u, v⟩; exact Or.inl ⟨v, u⟩; exact Or.inr ⟨v, u⟩) (nxt (tyN h) n S')
        · rw [if_neg (fun z => yp (sgp'.mp z))]
          unfold f_X12_qPartTold_b118 f_X12_qPartTold_b144 f_X12_qPartTold_b183
          obtain ⟨x5, a5, e5, f5, m5⟩ := m_asksSign (c := 40) (r := .inr S') ht n16 sg40 m3
          have e5' : f_X12_asksSign x3 173 (40 : Int32) = some x5 := e5
          have em : pbd (.inr S') (wS (tyN h) n 40) = pft (tyN h) n 1 S' := by
            rw [pbd_r]
            unfold wS
            rw [if_neg yp]
          rw [em] at m5
          rw [if_pos rfl, if_pos kk173, e5', kb_s]
          refine Or.inr ⟨0, _, by omega, rfl, F3.tr (f5.wide fun l i z => Or.inl z), Or.inr (Or.inl ⟨(1, blE (tyN h) n S'.1), ?_, q3.bad n16 f5 m5 (by omega) (by omega)⟩)⟩
          rw [Fp]
          unfold pair
          rw [hS', if_neg yp]
          rfl
      by_cases a20 : wI (tyN h) n s' = 20
      · rw [if_pos a20]
        exact two 20 5 21 (Or.inl ⟨rfl, rfl, rfl⟩) a20
      · rw [if_neg a20]
        by_cases a21 : wI (tyN h) n s' = 21
        · rw [if_pos a21]
          exact two 21 6 22 (Or.inr ⟨rfl, rfl, rfl⟩) a21
        · rw [if_neg a21]
          by_cases a8 : wI (tyN h) n s' = 8 ∧ L = false
          · have tw := wI_t (b := tyN h) (n := n) (s := s') (by omega)
            have pos := nxt_pos (tyN h) len.2 (by rw [tw]; omega)
            obtain ⟨x2, e2, f2, k0, k1⟩ := m_qOpens (x := 60) n16 q1 (by omega) (by omega)
            have e2' : f_X12_qOpens x1 173 (60 : Int32) (kI x1 173 2) = some x2 := e2
            have Fo : F = pbd (match (if k' = 0 then none else some (lvP (tyN h) n L (k' - 1)) : Option (PS → PR)) with | none => pft (tyN h) n 4 s' | some pt => pbd (pt (nxt (tyN h) n s')) fun s2 => .inr (pem 60 s2)) ((dn (tyN h) n L w').1 k') := by
              rw [hF', lvP_c]
              unfold prt
              rw [if_neg (show ¬ tkT (tyN h) n s'.1 s'.2.1 = 3 by omega), if_neg y4, if_neg a20, if_neg a21, if_pos a8]
              generalize (if k' = 0 then none else some (lvP (tyN h) n L (k' - 1)) : Option (PS → PR)) = o
              cases o <;> rfl
            rw [if_pos a8, e2', kb_s]
            unfold f_X12_qPartTold_b183
            by_cases z : k' = 0
            · obtain ⟨m2, c2⟩ := k0 z
              obtain ⟨x5, a5, e5, f5, m5⟩ := m_qAsks (k := 8) (r := pft (tyN h) n 4 s') ht n16 m2 (by omega)
              have e5' : f_X12_qAsksWord x2 173 (8 : Int32) = some x5 := e5
              rw [e5', kb_s]
              refine Or.inr ⟨0, _, by omega, rfl, (F1.tr f2).tr (f5.wide fun l i z => Or.inl z), Or.inr (Or.inl ⟨(4, blE (tyN h) n s'.1), ?_, m5, s'.2.2.length, by omega, (f5.2.2.1 _ _ (by unfold Wmp; omega)).trans c2⟩)⟩
              rw [Fo, if_pos z]
              rfl
            · have q2 := k1 z
              obtain ⟨x5, a5, e5, f5, m5⟩ := m_qAsks (k := 8) (r := .inr s') ht n16 q2.1 (by omega)
              have e5' : f_X12_qAsksWord x2 173 (8 : Int32) = some x5 := e5
              have em : pbd (.inr s') (wW (tyN h) n (qjN 8)) = .inr (nxt (tyN h) n s') := by
                rw [pbd_r]
                unfold wW
                rw [if_pos (show wI (tyN h) n s' = qjN 8 from a8.1)]
              rw [em] at m5
              rw [e5', kb_s]
              have q5 := q2.mv f5 m5 rfl (e' := 0) (by show s'.1 + 1 ≤ (nxt (tyN h) n s').1 + 0; omega)
              refine Or.inr ⟨n - (nxt (tyN h) n s').1 + 2, _, by omega, rfl, (F1.tr f2).tr (f5.wide fun l i z => Or.inl z), Or.inl ⟨rfl, 60 :: w', k' - 1, a5, nxt (tyN h) n s', q5, ⟨wf', Or.inl rfl⟩, ?_, by omega, rfl⟩⟩
              rw [Fo, if_neg z]
              obtain ⟨k2, rfl⟩ : ∃ k2, k' = k2 + 1 := ⟨k' - 1, by omega⟩
              exact dn_of (tyN h) n L w' k2 (nxt (tyN h) n s')
          · rw [if_neg a8]
            unfold f_X12_qPartTold_b183
            exact Or.inr ⟨0, _, by omega, rfl, F1, Or.inr (Or.inr ⟨rfl, w', k', s', q1, wf', hF', ⟨y4, a20, a21, a8⟩, hs'⟩)⟩
  · refine Or.inl ⟨x, ?_, fx, Or.inl ⟨e, he, qe⟩⟩
    unfold f_X12_qPartTold_l2
    dsimp only
    by_cases y : fl = 0
    · rw [if_pos y]
    · rw [if_neg y, if_pos kk173, if_neg qe.1.bad]
  · refine Or.inl ⟨x, ?_, fx, Or.inr ⟨w', k', s', hh⟩⟩
    unfold f_X12_qPartTold_l2
    dsimp only
    rw [if_pos f0]
