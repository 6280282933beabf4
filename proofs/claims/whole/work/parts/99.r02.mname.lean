/-! the model's NAME -/
def Wmn (l i : Nat) : Prop := Wmp l i ∨ (l = 173 ∧ i = 32)
theorem m_failR {h g : KH} {n k pl : Nat} (ms : Ms h g n) (b0 : kI g 173 5 = 0) (k1 : 1 ≤ k) (k5 : k ≤ 5) : ∃ g', f_X12_fail g 173 (Int32.ofNat k) (Int32.ofNat pl) = some g' ∧ kfp Wmp g g' ∧ Md h g' n 0 (.inl (k, pl)) := by
  have f : kfp Wmp g (ksI (ksI g 173 5 (Int32.ofNat k)) 173 6 (Int32.ofNat pl)) := (kfp.rf.sI _ (by unfold Wmp; omega)).sI _ (by unfold Wmp; omega)
  refine ⟨_, ?_, f, ms.fp f fun l i z => by unfold Wmp; omega, k1, k5, by rw [kI_sI, if_neg (by omega), kI_sI, if_pos ⟨rfl, rfl⟩], by rw [kI_sI, if_pos ⟨rfl, rfl⟩]⟩
  unfold f_X12_fail
  rw [if_pos kk173, b0, if_pos rfl, kl_e, kl_e]
theorem tkZ_w {b : Nat → Nat} {n : Nat} {s : PS} (t : tkT b n s.1 s.2.1 = 2) : tkZ b n s.1 = wdE b n (blE b n s.1) - blE b n s.1 := by
  obtain ⟨-, e2, e3⟩ := tkE_w t
  unfold tkZ
  rw [if_neg (by omega), if_pos e3]
theorem wvN_b {b : Nat → Nat} {p : Nat} : ∀ k, (∀ i, i < k → isLt (b (p + i)) = true) → wvN b p k < 27 ^ 6
  | 0, _ => by rw [wvN]; decide
  | k + 1, h => by
    have a := wvN_b k fun i hi => h i (by omega)
    have c := isLt_b (h k (by omega))
    rw [wvN]
    by_cases y : k < 6
    · rw [if_pos y]
      have l : ∀ j, j ≤ 6 → j ≤ k → wvN b p j < 27 ^ j := fun j => by
        induction j with
        | zero => intro _ _; rw [wvN]; decide
        | succ j ih =>
          intro j6 jk
          have q := ih (by omega) (by omega)
          have cj := isLt_b (h j (by omega))
          rw [wvN, if_pos (by omega), Nat.pow_succ]
          omega
      have q := l k (by omega) (Nat.le_refl _)
      have p5 : 27 ^ k ≤ 27 ^ 5 := Nat.pow_le_pow_right (by omega) (by omega)
      have e6 : (27 : Nat) ^ 6 = 27 ^ 5 * 27 := rfl
      omega
    · rw [if_neg y]
      exact a
theorem m_name {h g : KH} {n a : Nat} {s : PS} (ht : Rtape h) (n16 : n ≤ 1600) (m : Md h g n a (.inr s)) : ∃ v g', f_X12_name g 173 = some (v, g') ∧ kfp Wmn g g' ∧ (∀ e, wNm (tyN h) n s = .inl e → Md h g' n 0 (.inl e)) ∧ ∀ w, wNm (tyN h) n s = .inr w → v = Int64.ofNat w.1 ∧ Md h g' n (tkE (tyN h) n s.1) (.inr (nxt (tyN h) n s)) ∧ kI g' 173 32 = Int32.ofNat (blE (tyN h) n s.1) := by
  obtain ⟨g1, e1, f1, m1⟩ := m_look0 ht n16 m
  have m1' : MdS h g1 n s := m1
  have len := m.2.1
  have bl := blE_at (tyN h) len
  have hb := Md.byte ht n16 m1
  have b37 : ∀ q, kfp Wmn g q → MdS h q n s → wNm (tyN h) n s = .inl (1, blE (tyN h) n s.1) → ∃ v g', f_X12_name_b37 q 173 = some (v, g') ∧ kfp Wmn g g' ∧ (∀ e, wNm (tyN h) n s = .inl e → Md h g' n 0 (.inl e)) ∧ ∀ w, wNm (tyN h) n s = .inr w → v = Int64.ofNat w.1 ∧ Md h g' n (tkE (tyN h) n s.1) (.inr (nxt (tyN h) n s)) ∧ kI g' 173 32 = Int32.ofNat (blE (tyN h) n s.1) := fun q fq mq hw => by
    obtain ⟨g2, e2, f2, m2⟩ := m_failS (k := 1) mq (by omega) (by omega)
    have e2' : f_X12_fail q 173 (1 : Int32) (kI q 173 2) = some g2 := e2
    unfold f_X12_name_b37
    rw [if_pos kk173, e2', kb_s]
    refine ⟨0, g2, rfl, fq.tr (f2.wide fun l i z => Or.inl z), fun e he => ?_, fun w he => ?_⟩
    · rw [hw] at he
      cases he
      exact m2
    · rw [hw] at he
      exact nomatch he
  have F1 : kfp Wmn g g1 := f1.wide fun l i z => Or.inl z
  unfold f_X12_name
  rw [if_pos kk173, m.2.2.1, if_pos rfl, e1, kb_s]
  dsimp only
  by_cases yn : n ≤ blE (tyN h) n s.1
  · have el : lkI (tyN h) n s.1 = -1 := if_pos yn
    rw [el, m_isLetter_m, kb_s, if_pos rfl]
    exact b37 g1 F1 m1' (by unfold wNm; rw [if_pos (by unfold tkT; rw [if_pos yn]; omega)])
  · have el : lkI (tyN h) n s.1 = Int32.ofNat (tyN h (blE (tyN h) n s.1)) := if_neg yn
    rw [el, m_isLetter _ (hb (by omega)), kb_s, if10]
    by_cases yl : isLt (tyN h (blE (tyN h) n s.1)) = true
    · rw [if_pos yl]
      have gl := m_glue n16 m1
      by_cases yg : s.2.1 = true ∧ blE (tyN h) n s.1 = s.1
      · rw [if_pos (gl.mpr yg)]
        exact b37 g1 F1 m1' (by unfold wNm; rw [if_pos (by unfold tkT; rw [if_neg yn, if_pos yl, if_pos yg]; omega)])
      · have t2 : tkT (tyN h) n s.1 s.2.1 = 2 := by unfold tkT; rw [if_neg yn, if_pos yl, if_neg yg]
        rw [if_neg (fun z => yg (gl.mp z)), m_isOwnHere ht n16 m1', kb_s, if10]
        by_cases yw : wI (tyN h) n s < 22
        · rw [if_pos yw]
          exact b37 g1 F1 m1' (by unfold wNm; rw [if_neg (fun u => u t2), if_pos yw])
        · rw [if_neg yw]
          obtain ⟨p, hp⟩ : ∃ p, blE (tyN h) n s.1 = p := ⟨_, rfl⟩
          obtain ⟨k, hk⟩ : ∃ k, tkZ (tyN h) n s.1 = k := ⟨_, rfl⟩
          obtain ⟨we1, -, we3⟩ := tkE_w t2
          have wz := tkZ_w t2
          obtain ⟨a1, a2, a3, a4⟩ := wdE_at (tyN h) (n := n) (s := blE (tyN h) n s.1) (by omega) yl
          have c2 : kI g1 173 2 = Int32.ofNat (blE (tyN h) n s.1) := m1.2.2.2.2.2.2.1
          rw [hk, hp] at wz
          rw [hp] at a1 a2 a3 a4 we1 c2 yn
          have eE : wdE (tyN h) n p = p + k := by omega
          rw [eE] at a1 a2 a3 a4 we1
          obtain ⟨g2, eg2⟩ : ∃ g2, g2 = ksI g1 173 32 (Int32.ofNat p) := ⟨_, rfl⟩
          have f2 : kfp (fun l i => l = 173 ∧ i = 32) g1 g2 := by rw [eg2]; exact kfp.rf.sI _ ⟨rfl, rfl⟩
          have ms2 : Ms h g2 n := m1.1.fp f2 fun l i z => by omega
          have lp : ∃ r, kloop (f_X12_name_l58 173) KF ((0 : Int64), g2) = some r ∧ ((k ≤ 6 ∧ ∃ q, r = .inl (Int64.ofNat (wvN (tyN h) p k), q) ∧ kfp (fun l i => l = 173 ∧ i = 2) g2 q ∧ kI q 173 2 = Int32.ofNat (p + k)) ∨ (6 < k ∧ ∃ q, r = .inr (0, q) ∧ kfp Wmp g2 q ∧ Md h q n 0 (.inl (1, p + 6)))) := by
            refine kloop_KF (body := f_X12_name_l58 173) (fun m st => ∃ i, i ≤ 6 ∧ i ≤ k ∧ m = 7 - i ∧ st.1 = Int64.ofNat (wvN (tyN h) p i) ∧ kfp (fun l i => l = 173 ∧ i = 2) g2 st.2 ∧ kI st.2 173 2 = Int32.ofNat (p + i)) _ (fun m st hP => ?_) (n := 7 - 0) (by omega) ⟨0, by omega, by omega, rfl, rfl, kfp.rf, by rw [f2.2.2.1 _ _ (by omega)]; exact c2⟩
            obtain ⟨v, q⟩ := st
            obtain ⟨i, i6, ik, hm, p1, p2, p3⟩ := hP
            dsimp only at p1 p2 p3
            subst p1
            have msq : Ms h q n := ms2.fp p2 fun l i z => by omega
            have q3 : kI q 173 3 = Int32.ofNat n := msq.2.1
            have q32 : kI q 173 32 = Int32.ofNat p := (p2.2.2.1 _ _ (by omega)).trans (by rw [eg2, kI_sI, if_pos ⟨rfl, rfl⟩])
            have q5 : kI q 173 5 = 0 := (p2.2.2.1 _ _ (by omega)).trans ((f2.2.2.1 _ _ (by omega)).trans m1.2.2.1)
            unfold f_X12_name_l58
            dsimp only
            rw [if_pos kk173, q3, p3]
            by_cases e0 : n ≤ p + i
            · have eik : i = k := by omega
              subst eik
              exact Or.inl ⟨_, by rw [if_pos (by rw [n32_le (by omega) (by omega)]; exact e0)], Or.inl ⟨by omega, q, rfl, p2, p3⟩⟩
            · have tb := m_byte ht msq (i := p + i) (by omega)
              rw [if_neg (by rw [n32_le (by omega) (by omega)]; exact e0), rf173_0 msq.1, if_pos (show 174 < 999999 by omega), if_pos kk174, kn174, if_neg (by rw [n32_cl (by omega)]; exact fun z => z.elim (n32_nn (by omega)) (by omega)), n32_cl (show p + i < 2147483648 by omega), tb.1, m_isLetter _ tb.2, kb_s, if10]
              by_cases eik : i = k
              · subst eik
                have nl : ¬ isLt (tyN h (p + i)) = true := fun z => a4 ⟨by omega, z⟩
                exact Or.inl ⟨_, by rw [if_neg nl], Or.inl ⟨by omega, q, rfl, p2, p3⟩⟩
              · have isl := a3 (p + i) (by omega) (by omega)
                have lb := isLt_b isl
                rw [if_pos isl, q32, n32_sub (by omega), show p + i - p = i by omega]
                by_cases e6 : i = 6
                · subst e6
                  obtain ⟨q', e', f', m'⟩ := m_failR (k := 1) (pl := p + 6) msq q5 (by omega) (by omega)
                  have e'' : f_X12_fail q 173 (1 : Int32) (Int32.ofNat (p + 6)) = some q' := e'
                  refine Or.inl ⟨.inr (0, q'), ?_, Or.inr ⟨by omega, q', rfl, (p2.wide fun l i z => by unfold Wmp; omega).tr f', m'⟩⟩
                  rw [if_pos (show Int32.ofNat 6 = (6 : Int32) from rfl), e'', kb_s]
                  rfl
                · rw [if_neg (by rw [n32_eql (by omega) (by omega)]; exact e6)]
                  refine Or.inr ⟨7 - (i + 1), (Int64.ofNat (wvN (tyN h) p (i + 1)), ksI q 173 2 (Int32.ofNat (p + (i + 1)))), by omega, ?_, i + 1, by omega, by omega, rfl, rfl, p2.sI _ ⟨rfl, rfl⟩, by rw [kI_sI, if_pos ⟨rfl, rfl⟩]⟩
                  rw [n64_mulr, n32_toI64 (by omega), n64_add, kl_e, kl_e, n32_addl, wvN, if_pos (show i < 6 by omega)]
                  have e97 : Int64.ofNat (27 * wvN (tyN h) p i + tyN h (p + i)) - (97 : Int64) + (1 : Int64) = Int64.ofNat (wvN (tyN h) p i * 27 + (tyN h (p + i) - 96)) := by
                    have s1 : Int64.ofNat (27 * wvN (tyN h) p i + tyN h (p + i)) - Int64.ofNat 97 = Int64.ofNat (27 * wvN (tyN h) p i + tyN h (p + i) - 97) := n64_sub (by omega)
                    have s2 : Int64.ofNat (27 * wvN (tyN h) p i + tyN h (p + i) - 97) + Int64.ofNat 1 = Int64.ofNat (27 * wvN (tyN h) p i + tyN h (p + i) - 97 + 1) := n64_add _ _
                    show Int64.ofNat (27 * wvN (tyN h) p i + tyN h (p + i)) - Int64.ofNat 97 + Int64.ofNat 1 = _
                    rw [s1, s2]
                    congr 1
                    omega
                  rw [e97]
                  rfl
          obtain ⟨r, er, hr⟩ := lp
          rw [kl_e]
          rw [c2, ← eg2, er, kb_s]
          rcases hr with ⟨k6, q, rfl, fq, cq⟩ | ⟨k6, q, rfl, fq, mq⟩
          · rw [ksum_l]
            have ew : wNm (tyN h) n s = .inr (wvN (tyN h) p k, k, nxt (tyN h) n s) := by
              unfold wNm
              rw [if_neg (fun u => u t2), if_neg yw, hk, if_neg (by omega), hp]
            obtain ⟨g4, eg4⟩ : ∃ g4, g4 = ksI q 173 4 (kI q 173 2) := ⟨_, rfl⟩
            have f4 : kfp (fun l i => l = 173 ∧ i = 4) q g4 := by rw [eg4]; exact kfp.rf.sI _ ⟨rfl, rfl⟩
            have F4 : kfp (fun l i => l = 173 ∧ (i = 2 ∨ i = 4 ∨ i = 32)) g1 g4 := ((f2.wide fun l i z => by omega).tr (fq.wide fun l i z => by omega)).tr (f4.wide fun l i z => by omega)
            unfold f_X12_name_b145
            dsimp only
            rw [if_pos kk173, kl_e, ← eg4]
            refine ⟨_, g4, rfl, F1.tr (F4.wide fun l i z => by unfold Wmn Wmp; omega), fun e he => ?_, fun w he => ?_⟩
            · rw [ew] at he
              exact nomatch he
            · rw [ew] at he
              cases he
              have gn : (nxt (tyN h) n s).2.1 = true := decide_eq_true (Or.inl t2)
              have te := tkE_at (tyN h) len s.2.1
              refine ⟨rfl, ⟨m1.1.fp F4 fun l i z => by omega, te.2.1, (F4.2.2.1 _ _ (by omega)).trans m1.2.2.1, (F4.2.2.1 _ _ (by omega)).trans m1.2.2.2.1, Nat.le_refl _, (blE_at (tyN h) te.2.1).1, ?_, fun _ => ?_, fun z => by rw [gn] at z; cases z⟩, ?_⟩
              · rw [f4.2.2.1 _ _ (by omega), cq, we1]
              · rw [eg4, kI_sI, if_pos ⟨rfl, rfl⟩, cq]
                show _ = Int32.ofNat (tkE (tyN h) n s.1)
                rw [we1]
              · rw [f4.2.2.1 _ _ (by omega), fq.2.2.1 _ _ (by omega), eg2, kI_sI, if_pos ⟨rfl, rfl⟩, hp]
          · rw [ksum_r]
            have ew : wNm (tyN h) n s = .inl (1, p + 6) := by
              unfold wNm
              rw [if_neg (fun u => u t2), if_neg yw, hk, if_pos k6, hp]
            refine ⟨0, q, rfl, (F1.tr (f2.wide fun l i z => by unfold Wmn; omega)).tr (fq.wide fun l i z => Or.inl z), fun e he => ?_, fun w he => ?_⟩
            · rw [ew] at he
              cases he
              exact mq
            · rw [ew] at he
              exact nomatch he
    · rw [if_neg yl]
      exact b37 g1 F1 m1' (by unfold wNm; rw [if_pos (by unfold tkT; rw [if_neg yn, if_neg yl]; split <;> (try split) <;> omega)])
