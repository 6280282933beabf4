/-! the class reads the rows of a MARK and a KIND (by mk_r07.py) -/
theorem nwN_nm {b : Nat → Nat} {n : Nat} {C : CTy} {s : PS} {w : Nat × Nat × PS} (hw : nwN b n C s = .inr w) : nmo w.1 w.2.1 := by
  unfold nwN at hw
  cases hq : wNm b n s with
  | inl e =>
    rw [hq] at hw
    exact nomatch hw
  | inr w' =>
    rw [hq] at hw
    dsimp only at hw
    by_cases z : kno C w'.1
    · rw [if_pos z] at hw
      exact nomatch hw
    · rw [if_neg z] at hw
      cases hw
      exact (wNm_ok hq).1
theorem x_readMark {h g : KH} {n c : Nat} {C : CTy} {s : PS} (ht : Rtape h) (n16 : n ≤ 1600) (hc : ctc c) (x : Xs h g n c (.inr (C, s))) : ∃ g', f_X3_readMark g 11 c = some g' ∧ kfp (fun l i => l = 8 ∨ (l = c ∧ i = 5) ∨ (c + 16 ≤ l ∧ l ≤ c + 20)) g g' ∧ Xs h g' n c (rowS (tyN h) n C 2 5 spM s) := by
  have x1 : Rx h g n (.inr s) := x.1
  have cx : Cx g c C := x.2.1
  have wf : wfC C := x.2.2
  have rg := x1.1.1
  have l6 := wf.1 2 (by omega)
  rw [if_pos rfl] at l6
  have c4 : kI g c 5 = Int32.ofNat (sel C 2).length := cx.1 2 (by omega)
  have cc : c + 25 < 100 ∧ 12 ≤ c := by rcases hc with rfl | rfl <;> omega
  unfold f_X3_readMark rowS
  rw [if_pos (ct_kk hc), c4]
  by_cases y : 5 ≤ (sel C 2).length
  · rw [if_neg (by rw [n32_ltl (by omega) (by omega)]; omega), if_pos kk11, rf11_0 rg, if_pos (show 8 < 999999 by omega), if_pos kk8, if_pos y]
    obtain ⟨q, e, f, xq⟩ := x_stopH (k := 5) ht n16 x1
    have e' : f_X7_stop g 8 (5 : Int32) (kI g 8 4) = some q := e
    rw [e', kb_s]
    exact ⟨q, rfl, f.wide fun l i z => Or.inl z, xq, (cx.fp f (fun l i z w => by omega) wf).n wf⟩
  · obtain ⟨k, hk⟩ : ∃ k, (sel C 2).length = k := ⟨_, rfl⟩
    rw [hk] at y c4 l6
    obtain ⟨L, hL⟩ : ∃ L, c + 16 + k = L := ⟨_, rfl⟩
    have hLk : kkind L = 20 ∧ klen L = 3 := by rw [← hL]; exact ct_mark hc (by omega)
    have rL : kR g (c + 15) k = L := by rw [← hL]; exact ct_rm rg hc (by omega)
    obtain ⟨g1, e1, f1, x2⟩ := x_next ht n16 x1
    have cx1 := cx.fp f1 (fun l i z w => by omega) wf
    obtain ⟨v, g2, e2, f2, n1, n2⟩ := x_takeNewName ht n16 hc wf x2 cx1
    have R0 : ∃ r0, Rx h g2 n r0 ∧ (∀ e, nwN (tyN h) n C (nxt (tyN h) n s) = .inl e → r0 = .inl e) ∧ ∀ w, nwN (tyN h) n C (nxt (tyN h) n s) = .inr w → r0 = .inr w.2.2 := by
      cases hw : nwN (tyN h) n C (nxt (tyN h) n s) with
      | inl e => exact ⟨.inl e, n1 e hw, (fun e' he => by cases he; rfl), (fun w he => nomatch he)⟩
      | inr w => exact ⟨.inr w.2.2, (n2 w hw).2, (fun e' he => nomatch he), (fun w' he => by cases he; rfl)⟩
    obtain ⟨r0, xr0, ra, rb⟩ := R0
    obtain ⟨g3, eg3⟩ : ∃ g3, g3 = ksI g2 L 0 v := ⟨_, rfl⟩
    have f3 : kfp (fun l i => l = L ∧ i = 0) g2 g3 := by rw [eg3]; exact kfp.rf.sI _ ⟨rfl, rfl⟩
    have xb0 : Rx h g3 n r0 := xr0.fp f3 fun l i z w => by omega
    obtain ⟨va1, ga1, gb1, ea1, eb1, fb1, xb1, wb1⟩ := x_num (j := 3) (lo := 1) (hi := 9) (L := L) (k := 1) ht n16 (by omega) (by omega) (by omega) (by omega) xb0
    have eq1 : f_X3_takeBehind g3 11 (3 : Int32) (1 : Int32) (9 : Int32) = some (va1, ga1) := ea1
    obtain ⟨va2, ga2, gb2, ea2, eb2, fb2, xb2, wb2⟩ := x_num (j := 4) (lo := 1) (hi := 9) (L := L) (k := 2) ht n16 (by omega) (by omega) (by omega) (by omega) xb1
    have eq2 : f_X3_takeBehind gb1 11 (4 : Int32) (1 : Int32) (9 : Int32) = some (va2, ga2) := ea2
    have F5 : kfp (fun l i => l = 8 ∨ l = L) g gb2 := (((((f1.wide fun l i z => Or.inl z).tr (f2.wide fun l i z => Or.inl z)).tr (f3.wide fun l i z => Or.inr z.1)).tr (fb1.wide fun l i z => by omega)).tr (fb2.wide fun l i z => by omega))
    have c5 : kI gb2 c 5 = Int32.ofNat k := (F5.2.2.1 _ _ (by omega)).trans c4
    obtain ⟨g6, eg6⟩ : ∃ g6, g6 = ksI gb2 c 5 (Int32.ofNat (k + 1)) := ⟨_, rfl⟩
    have f6 : kfp (fun l i => l = c ∧ i = 5) gb2 g6 := by rw [eg6]; exact kfp.rf.sI _ ⟨rfl, rfl⟩
    have F6 : kfp (fun l i => l = 8 ∨ l = L ∨ (l = c ∧ i = 5)) g g6 := (F5.wide fun l i z => by omega).tr (f6.wide fun l i z => by omega)
    have x6 := xb2.fp f6 fun l i z w => by omega
    rw [if_pos (by rw [n32_ltl (by omega) (by omega)]; omega), (ct_r rg hc).2.2.1, if_pos (show c + 15 < 999999 by omega), if_pos (ct_kt hc).2.2.1, (ct_kt hc).2.2.2.2.2, if_neg (by rw [hk, n32_cl (by omega)]; exact fun z => z.elim (n32_nn (by omega)) (by omega)), hk, n32_cl (show k < 2147483648 by omega), rL, if_pos (show L < 999999 by omega), kl_e, if_pos kk11, rf11_0 rg, if_pos (show 8 < 999999 by omega), if_pos kk8, e1, kb_s, e2, kb_s, if_pos hLk.1, hLk.2, if_neg (show ¬ 3 ≤ 0 by omega), kl_e, ← eg3, eq1, kb_s, if_neg (show ¬ 3 ≤ 1 by omega), kl_e, ← eb1, eq2, kb_s, if_neg (show ¬ 3 ≤ 2 by omega), kl_e, ← eb2, c5, n32_addl, kl_e, if_neg y]
    refine ⟨g6, by rw [eg6], F6.wide fun l i z => by omega, ?_⟩
    have cn6 : Cn g6 c := (cx.n wf).add (t := 2) (m := k) (by omega) (by rw [if_pos rfl]; omega) (fun i a b d => F6.2.2.1 _ _ (by omega)) (by rw [eg6, kI_sI, if_pos ⟨rfl, rfl⟩])
    cases hw : nwN (tyN h) n C (nxt (tyN h) n s) with
    | inl e =>
      have er := ra e hw
      subst er
      have e1 : rwS (tyN h) n C spM s = .inl e := by simp only [rwS, hw]
      rw [e1]
      exact ⟨x6, cn6⟩
    | inr w =>
      have er := rb w hw
      subst er
      obtain ⟨ve, -⟩ := n2 w hw
      have nm := (nwN_nm hw)
      cases t1 : tBh (tyN h) n 3 1 9 w.2.2 with
      | inl e =>
        have e1 : rwS (tyN h) n C spM s = .inl e := by simp only [rwS, hw, spM, rdN, t1]
        have e0 : tPR (tPR (.inr w.2.2) (tBh (tyN h) n 3 1 9)) (tBh (tyN h) n 4 1 9) = .inl e := by simp only [tPR, pbd, nbd, t1]
        rw [e0] at x6
        rw [e1]
        exact ⟨x6, cn6⟩
      | inr p1 =>
        cases t2 : tBh (tyN h) n 4 1 9 p1.2 with
        | inl e =>
          have e1 : rwS (tyN h) n C spM s = .inl e := by simp only [rwS, hw, spM, rdN, t1, t2]
          have e0 : tPR (tPR (.inr w.2.2) (tBh (tyN h) n 3 1 9)) (tBh (tyN h) n 4 1 9) = .inl e := by simp only [tPR, pbd, nbd, t1, t2]
          rw [e0] at x6
          rw [e1]
          exact ⟨x6, cn6⟩
        | inr p2 =>
          have e1 : rwS (tyN h) n C spM s = .inr ((w.1, w.2.1, [p1.1, p2.1]), p2.2) := by simp only [rwS, hw, spM, rdN, t1, t2]
          have e0 : tPR (tPR (.inr w.2.2) (tBh (tyN h) n 3 1 9)) (tBh (tyN h) n 4 1 9) = .inr p2.2 := by simp only [tPR, pbd, nbd, t1, t2]
          rw [e0] at x6
          rw [e1]
          have wv1 := wb1 w.2.2 p1.1 p1.2 rfl t1
          have wz1 : kI g6 L 1 = Int32.ofNat p1.1 := by rw [f6.2.2.1 _ _ (by omega), fb2.2.2.1 _ _ (by omega)]; exact wv1
          have wv2 := wb2 p1.2 p2.1 p2.2 (by simp only [tPR, pbd, nbd, t1]) t2
          have wz2 : kI g6 L 2 = Int32.ofNat p2.1 := by rw [f6.2.2.1 _ _ (by omega)]; exact wv2
          have wz0 : kI g6 L 0 = Int32.ofNat (w.1 * 27 ^ (6 - w.2.1)) := by rw [f6.2.2.1 _ _ (by omega), fb2.2.2.1 _ _ (by omega), fb1.2.2.1 _ _ (by omega), eg3, kI_sI, if_pos ⟨rfl, rfl⟩]; exact ve
          have ad := cx.add (g' := g6) (t := 2) (r := (w.1, w.2.1, [p1.1, p2.1])) hc (by omega) wf (by rw [hk, if_pos rfl]; omega) nm (fun l i z => F6.2.2.1 _ _ (by rw [hk] at z; omega)) (by
            rw [hk, show c + (2 + 7 * 2) + k = L by omega]
            refine ⟨wz0, fun j hj => ?_⟩
            have hj' : j < 2 := hj
            have ej : j = 0 ∨ j = 1 := by omega
            rcases ej with rfl | rfl
            · exact wz1
            · exact wz2
            ) (by rw [hk, eg6, kI_sI, if_pos ⟨rfl, rfl⟩])
          exact ⟨x6, ad.1, ad.2⟩
theorem x_readKind {h g : KH} {n c : Nat} {C : CTy} {s : PS} (ht : Rtape h) (n16 : n ≤ 1600) (hc : ctc c) (x : Xs h g n c (.inr (C, s))) : ∃ g', f_X3_readKind g 11 c = some g' ∧ kfp (fun l i => l = 8 ∨ (l = c ∧ i = 3) ∨ (c + 2 ≤ l ∧ l ≤ c + 7)) g g' ∧ Xs h g' n c (rowS (tyN h) n C 0 6 spK s) := by
  have x1 : Rx h g n (.inr s) := x.1
  have cx : Cx g c C := x.2.1
  have wf : wfC C := x.2.2
  have rg := x1.1.1
  have l6 := wf.1 0 (by omega)
  rw [if_neg (by omega)] at l6
  have c4 : kI g c 3 = Int32.ofNat (sel C 0).length := cx.1 0 (by omega)
  have cc : c + 25 < 100 ∧ 12 ≤ c := by rcases hc with rfl | rfl <;> omega
  unfold f_X3_readKind rowS
  rw [if_pos (ct_kk hc), c4]
  by_cases y : 6 ≤ (sel C 0).length
  · rw [if_neg (by rw [n32_ltl (by omega) (by omega)]; omega), if_pos kk11, rf11_0 rg, if_pos (show 8 < 999999 by omega), if_pos kk8, if_pos y]
    obtain ⟨q, e, f, xq⟩ := x_stopH (k := 5) ht n16 x1
    have e' : f_X7_stop g 8 (5 : Int32) (kI g 8 4) = some q := e
    rw [e', kb_s]
    exact ⟨q, rfl, f.wide fun l i z => Or.inl z, xq, (cx.fp f (fun l i z w => by omega) wf).n wf⟩
  · obtain ⟨k, hk⟩ : ∃ k, (sel C 0).length = k := ⟨_, rfl⟩
    rw [hk] at y c4 l6
    obtain ⟨L, hL⟩ : ∃ L, c + 2 + k = L := ⟨_, rfl⟩
    have hLk : kkind L = 20 ∧ klen L = 5 := by rw [← hL]; exact ct_kind hc (by omega)
    have rL : kR g (c + 1) k = L := by rw [← hL]; exact ct_rk rg hc (by omega)
    obtain ⟨g1, e1, f1, x2⟩ := x_next ht n16 x1
    have cx1 := cx.fp f1 (fun l i z w => by omega) wf
    obtain ⟨v, g2, e2, f2, n1, n2⟩ := x_takeNewName ht n16 hc wf x2 cx1
    have R0 : ∃ r0, Rx h g2 n r0 ∧ (∀ e, nwN (tyN h) n C (nxt (tyN h) n s) = .inl e → r0 = .inl e) ∧ ∀ w, nwN (tyN h) n C (nxt (tyN h) n s) = .inr w → r0 = .inr w.2.2 := by
      cases hw : nwN (tyN h) n C (nxt (tyN h) n s) with
      | inl e => exact ⟨.inl e, n1 e hw, (fun e' he => by cases he; rfl), (fun w he => nomatch he)⟩
      | inr w => exact ⟨.inr w.2.2, (n2 w hw).2, (fun e' he => nomatch he), (fun w' he => by cases he; rfl)⟩
    obtain ⟨r0, xr0, ra, rb⟩ := R0
    obtain ⟨g3, eg3⟩ : ∃ g3, g3 = ksI g2 L 0 v := ⟨_, rfl⟩
    have f3 : kfp (fun l i => l = L ∧ i = 0) g2 g3 := by rw [eg3]; exact kfp.rf.sI _ ⟨rfl, rfl⟩
    have xb0 : Rx h g3 n r0 := xr0.fp f3 fun l i z w => by omega
    obtain ⟨va1, ga1, gb1, ea1, eb1, fb1, xb1, wb1⟩ := x_num (j := 1) (lo := 0) (hi := 99) (L := L) (k := 1) ht n16 (by omega) (by omega) (by omega) (by omega) xb0
    have eq1 : f_X3_takeBehind g3 11 (1 : Int32) (0 : Int32) (99 : Int32) = some (va1, ga1) := ea1
    obtain ⟨va2, ga2, gb2, ea2, eb2, fb2, xb2, wb2⟩ := x_num (j := 2) (lo := 0) (hi := 99) (L := L) (k := 2) ht n16 (by omega) (by omega) (by omega) (by omega) xb1
    have eq2 : f_X3_takeBehind gb1 11 (2 : Int32) (0 : Int32) (99 : Int32) = some (va2, ga2) := ea2
    obtain ⟨va3, ga3, gb3, ea3, eb3, fb3, xb3, wb3⟩ := x_num (j := 3) (lo := 0) (hi := 9) (L := L) (k := 3) ht n16 (by omega) (by omega) (by omega) (by omega) xb2
    have eq3 : f_X3_takeBehind gb2 11 (3 : Int32) (0 : Int32) (9 : Int32) = some (va3, ga3) := ea3
    obtain ⟨va4, ga4, gb4, ea4, eb4, fb4, xb4, wb4⟩ := x_num (j := 4) (lo := 0) (hi := 9) (L := L) (k := 4) ht n16 (by omega) (by omega) (by omega) (by omega) xb3
    have eq4 : f_X3_takeBehind gb3 11 (4 : Int32) (0 : Int32) (9 : Int32) = some (va4, ga4) := ea4
    have F5 : kfp (fun l i => l = 8 ∨ l = L) g gb4 := (((((((f1.wide fun l i z => Or.inl z).tr (f2.wide fun l i z => Or.inl z)).tr (f3.wide fun l i z => Or.inr z.1)).tr (fb1.wide fun l i z => by omega)).tr (fb2.wide fun l i z => by omega)).tr (fb3.wide fun l i z => by omega)).tr (fb4.wide fun l i z => by omega))
    have c5 : kI gb4 c 3 = Int32.ofNat k := (F5.2.2.1 _ _ (by omega)).trans c4
    obtain ⟨g6, eg6⟩ : ∃ g6, g6 = ksI gb4 c 3 (Int32.ofNat (k + 1)) := ⟨_, rfl⟩
    have f6 : kfp (fun l i => l = c ∧ i = 3) gb4 g6 := by rw [eg6]; exact kfp.rf.sI _ ⟨rfl, rfl⟩
    have F6 : kfp (fun l i => l = 8 ∨ l = L ∨ (l = c ∧ i = 3)) g g6 := (F5.wide fun l i z => by omega).tr (f6.wide fun l i z => by omega)
    have x6 := xb4.fp f6 fun l i z w => by omega
    rw [if_pos (by rw [n32_ltl (by omega) (by omega)]; omega), (ct_r rg hc).1, if_pos (show c + 1 < 999999 by omega), if_pos (ct_kt hc).1, (ct_kt hc).2.2.2.1, if_neg (by rw [hk, n32_cl (by omega)]; exact fun z => z.elim (n32_nn (by omega)) (by omega)), hk, n32_cl (show k < 2147483648 by omega), rL, if_pos (show L < 999999 by omega), kl_e, if_pos kk11, rf11_0 rg, if_pos (show 8 < 999999 by omega), if_pos kk8, e1, kb_s, e2, kb_s, if_pos hLk.1, hLk.2, if_neg (show ¬ 5 ≤ 0 by omega), kl_e, ← eg3, eq1, kb_s, if_neg (show ¬ 5 ≤ 1 by omega), kl_e, ← eb1, eq2, kb_s, if_neg (show ¬ 5 ≤ 2 by omega), kl_e, ← eb2, eq3, kb_s, if_neg (show ¬ 5 ≤ 3 by omega), kl_e, ← eb3, eq4, kb_s, if_neg (show ¬ 5 ≤ 4 by omega), kl_e, ← eb4, c5, n32_addl, kl_e, if_neg y]
    refine ⟨g6, by rw [eg6], F6.wide fun l i z => by omega, ?_⟩
    have cn6 : Cn g6 c := (cx.n wf).add (t := 0) (m := k) (by omega) (by rw [if_neg (by omega)]; omega) (fun i a b d => F6.2.2.1 _ _ (by omega)) (by rw [eg6, kI_sI, if_pos ⟨rfl, rfl⟩])
    cases hw : nwN (tyN h) n C (nxt (tyN h) n s) with
    | inl e =>
      have er := ra e hw
      subst er
      have e1 : rwS (tyN h) n C spK s = .inl e := by simp only [rwS, hw]
      rw [e1]
      exact ⟨x6, cn6⟩
    | inr w =>
      have er := rb w hw
      subst er
      obtain ⟨ve, -⟩ := n2 w hw
      have nm := (nwN_nm hw)
      cases t1 : tBh (tyN h) n 1 0 99 w.2.2 with
      | inl e =>
        have e1 : rwS (tyN h) n C spK s = .inl e := by simp only [rwS, hw, spK, rdN, t1]
        have e0 : tPR (tPR (tPR (tPR (.inr w.2.2) (tBh (tyN h) n 1 0 99)) (tBh (tyN h) n 2 0 99)) (tBh (tyN h) n 3 0 9)) (tBh (tyN h) n 4 0 9) = .inl e := by simp only [tPR, pbd, nbd, t1]
        rw [e0] at x6
        rw [e1]
        exact ⟨x6, cn6⟩
      | inr p1 =>
        cases t2 : tBh (tyN h) n 2 0 99 p1.2 with
        | inl e =>
          have e1 : rwS (tyN h) n C spK s = .inl e := by simp only [rwS, hw, spK, rdN, t1, t2]
          have e0 : tPR (tPR (tPR (tPR (.inr w.2.2) (tBh (tyN h) n 1 0 99)) (tBh (tyN h) n 2 0 99)) (tBh (tyN h) n 3 0 9)) (tBh (tyN h) n 4 0 9) = .inl e := by simp only [tPR, pbd, nbd, t1, t2]
          rw [e0] at x6
          rw [e1]
          exact ⟨x6, cn6⟩
        | inr p2 =>
          cases t3 : tBh (tyN h) n 3 0 9 p2.2 with
          | inl e =>
            have e1 : rwS (tyN h) n C spK s = .inl e := by simp only [rwS, hw, spK, rdN, t1, t2, t3]
            have e0 : tPR (tPR (tPR (tPR (.inr w.2.2) (tBh (tyN h) n 1 0 99)) (tBh (tyN h) n 2 0 99)) (tBh (tyN h) n 3 0 9)) (tBh (tyN h) n 4 0 9) = .inl e := by simp only [tPR, pbd, nbd, t1, t2, t3]
            rw [e0] at x6
            rw [e1]
            exact ⟨x6, cn6⟩
          | inr p3 =>
            cases t4 : tBh (tyN h) n 4 0 9 p3.2 with
            | inl e =>
              have e1 : rwS (tyN h) n C spK s = .inl e := by simp only [rwS, hw, spK, rdN, t1, t2, t3, t4]
              have e0 : tPR (tPR (tPR (tPR (.inr w.2.2) (tBh (tyN h) n 1 0 99)) (tBh (tyN h) n 2 0 99)) (tBh (tyN h) n 3 0 9)) (tBh (tyN h) n 4 0 9) = .inl e := by simp only [tPR, pbd, nbd, t1, t2, t3, t4]
              rw [e0] at x6
              rw [e1]
              exact ⟨x6, cn6⟩
            | inr p4 =>
              have e1 : rwS (tyN h) n C spK s = .inr ((w.1, w.2.1, [p1.1, p2.1, p3.1, p4.1]), p4.2) := by simp only [rwS, hw, spK, rdN, t1, t2, t3, t4]
              have e0 : tPR (tPR (tPR (tPR (.inr w.2.2) (tBh (tyN h) n 1 0 99)) (tBh (tyN h) n 2 0 99)) (tBh (tyN h) n 3 0 9)) (tBh (tyN h) n 4 0 9) = .inr p4.2 := by simp only [tPR, pbd, nbd, t1, t2, t3, t4]
              rw [e0] at x6
              rw [e1]
              have wv1 := wb1 w.2.2 p1.1 p1.2 rfl t1
              have wz1 : kI g6 L 1 = Int32.ofNat p1.1 := by rw [f6.2.2.1 _ _ (by omega), fb4.2.2.1 _ _ (by omega), fb3.2.2.1 _ _ (by omega), fb2.2.2.1 _ _ (by omega)]; exact wv1
              have wv2 := wb2 p1.2 p2.1 p2.2 (by simp only [tPR, pbd, nbd, t1]) t2
              have wz2 : kI g6 L 2 = Int32.ofNat p2.1 := by rw [f6.2.2.1 _ _ (by omega), fb4.2.2.1 _ _ (by omega), fb3.2.2.1 _ _ (by omega)]; exact wv2
              have wv3 := wb3 p2.2 p3.1 p3.2 (by simp only [tPR, pbd, nbd, t1, t2]) t3
              have wz3 : kI g6 L 3 = Int32.ofNat p3.1 := by rw [f6.2.2.1 _ _ (by omega), fb4.2.2.1 _ _ (by omega)]; exact wv3
              have wv4 := wb4 p3.2 p4.1 p4.2 (by simp only [tPR, pbd, nbd, t1, t2, t3]) t4
              have wz4 : kI g6 L 4 = Int32.ofNat p4.1 := by rw [f6.2.2.1 _ _ (by omega)]; exact wv4
              have wz0 : kI g6 L 0 = Int32.ofNat (w.1 * 27 ^ (6 - w.2.1)) := by rw [f6.2.2.1 _ _ (by omega), fb4.2.2.1 _ _ (by omega), fb3.2.2.1 _ _ (by omega), fb2.2.2.1 _ _ (by omega), fb1.2.2.1 _ _ (by omega), eg3, kI_sI, if_pos ⟨rfl, rfl⟩]; exact ve
              have ad := cx.add (g' := g6) (t := 0) (r := (w.1, w.2.1, [p1.1, p2.1, p3.1, p4.1])) hc (by omega) wf (by rw [hk, if_neg (by omega)]; omega) nm (fun l i z => F6.2.2.1 _ _ (by rw [hk] at z; omega)) (by
                rw [hk, show c + (2 + 7 * 0) + k = L by omega]
                refine ⟨wz0, fun j hj => ?_⟩
                have hj' : j < 4 := hj
                have ej : j = 0 ∨ j = 1 ∨ j = 2 ∨ j = 3 := by omega
                rcases ej with rfl | rfl | rfl | rfl
                · exact wz1
                · exact wz2
                · exact wz3
                · exact wz4
                ) (by rw [hk, eg6, kI_sI, if_pos ⟨rfl, rfl⟩])
              exact ⟨x6, ad.1, ad.2⟩
