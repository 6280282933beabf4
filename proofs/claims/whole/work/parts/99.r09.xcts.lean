/-! the class reads a statement -/
theorem x_stm {h g : KH} {n c m : Nat} {C : CTy} {s : PS} (ht : Rtape h) (n16 : n ≤ 1600) (hc : ctc c) (hm : m < 60) (hs : tkT (tyN h) n s.1 s.2.1 ≠ 1) (x : Xs h g n c (.inr (C, s))) : ∃ g', f_X3_readInto_l13 11 c (Int32.ofNat m, g) = some (.inl (Int32.ofNat (m + 1), g')) ∧ kfq (Wcr c) g g' ∧ Xs h g' n c (stm (tyN h) n C s) := by
  have x1 : Rx h g n (.inr s) := x.1
  have cx : Cx g c C := x.2.1
  have wf : wfC C := x.2.2
  have rg := x1.1.1
  have cc : c + 25 < 100 ∧ 12 ≤ c := by rcases hc with rfl | rfl <;> omega
  have wl := wI_le (tyN h) n s
  have b228 : ∀ q, kfq (Wcr c) g q → Xs h q n c (stB (tyN h) n C s) → ∃ g', f_X3_readInto_b228 q 11 c (Int32.ofNat m) = some (.inl (Int32.ofNat (m + 1), g')) ∧ kfq (Wcr c) g g' ∧ Xs h g' n c (stm (tyN h) n C s) := fun q fq xq => by
    unfold f_X3_readInto_b228 stm
    cases hR : stB (tyN h) n C s with
    | inl e =>
      rw [hR] at xq
      have xr : Rx h q n (.inl e) := xq.1
      obtain ⟨q', e', f', x'⟩ := x_takeSign (c := 59) ht n16 (by omega) xr
      have e'' : f_X7_takeSign q 8 (59 : Int32) = some q' := e'
      rw [if_pos kk11, rf11_0 xr.1.1, if_pos (show 8 < 999999 by omega), if_pos kk8, e'', kb_s, kl_e, n32_addl]
      exact ⟨q', rfl, fq.tr (f'.wide fun l i z => Or.inl z : kfp (Wcr c) q q').q, x', fun s hs => (xq.2 s hs).same (f'.2.2.1 _ _ (by omega))⟩
    | inr r =>
      rw [hR] at xq
      have xr : Rx h q n (.inr r.2) := xq.1
      obtain ⟨q', e', f', x'⟩ := x_takeSign (c := 59) ht n16 (by omega) xr
      have e'' : f_X7_takeSign q 8 (59 : Int32) = some q' := e'
      rw [pbd_r] at x'
      rw [if_pos kk11, rf11_0 xr.1.1, if_pos (show 8 < 999999 by omega), if_pos kk8, e'', kb_s, kl_e, n32_addl]
      have cq := xq.2.1.fp f' (fun l i z w => by omega) xq.2.2
      refine ⟨q', rfl, fq.tr (f'.wide fun l i z => Or.inl z : kfp (Wcr c) q q').q, ?_⟩
      dsimp only
      cases hS : wS (tyN h) n 59 r.2 with
      | inl e =>
        rw [hS] at x'
        exact ⟨x', cq.n xq.2.2⟩
      | inr s2 =>
        rw [hS] at x'
        exact ⟨x', cq, xq.2.2⟩
  have stop : ∀ k, stB (tyN h) n C s = .inl (k, blE (tyN h) n s.1) → ∃ g', kb (f_X7_stop g 8 (Int32.ofNat k) (kI g 8 4)) (fun r => f_X3_readInto_b228 r 11 c (Int32.ofNat m)) = some (.inl (Int32.ofNat (m + 1), g')) ∧ kfq (Wcr c) g g' ∧ Xs h g' n c (stm (tyN h) n C s) := fun k hk => by
    obtain ⟨q, e, f, xq⟩ := x_stopH (k := k) ht n16 x1
    obtain ⟨g', e', fin⟩ := b228 q (f.wide fun l i z => Or.inl z : kfp (Wcr c) g q).q (by
      rw [hk]
      exact ⟨xq, (cx.fp f (fun l i z w => by omega) wf).n wf⟩)
    exact ⟨g', by rw [e, kb_s, e'], fin⟩
  obtain ⟨v, ev⟩ : ∃ v, v = (if wI (tyN h) n s = 27 then -1 else Int32.ofNat (wI (tyN h) n s)) := ⟨_, rfl⟩
  have vi : ∀ k, k < 27 → (v = Int32.ofNat k ↔ wI (tyN h) n s = k) := fun k hk => by
    rw [ev]
    by_cases y : wI (tyN h) n s = 27
    · rw [if_pos y, eq_comm, n32_eqm (by omega)]
      exact ⟨fun z => z.elim, fun z => by omega⟩
    · rw [if_neg y, n32_eq (by omega) (by omega)]
  have go : f_X7_goesOn g 8 = some (if tkT (tyN h) n s.1 s.2.1 = 1 then 0 else 1) := x_goesOn ht n16 x1
  rw [if_neg hs] at go
  have no : ∀ k, k < 27 → wI (tyN h) n s ≠ k → ¬ v = Int32.ofNat k := fun k hk z u => z ((vi k hk).mp u)
  have st1 := fun (z : wI (tyN h) n s ≠ 0 ∧ wI (tyN h) n s ≠ 5 ∧ wI (tyN h) n s ≠ 7 ∧ wI (tyN h) n s ≠ 8 ∧ wI (tyN h) n s ≠ 9 ∧ wI (tyN h) n s ≠ 10) => stop 1 (by
    unfold stB
    rw [if_neg z.1, if_neg z.2.1, if_neg z.2.2.1, if_neg z.2.2.2.1, if_neg z.2.2.2.2.1, if_neg z.2.2.2.2.2])
  unfold f_X3_readInto_l13
  dsimp only
  rw [if_neg (by rw [n32_ler (by omega) (by omega)]; omega), if_pos kk11, rf11_0 rg, if_pos (show 8 < 999999 by omega), if_pos kk8, go, kb_s, if_neg (by decide), x_wordHere ht n16 x1, kb_s, ← ev]
  by_cases y0 : wI (tyN h) n s = 0
  · rw [if_pos (show v = (0 : Int32) from (vi 0 (by omega)).mpr y0)]
    obtain ⟨q, e, f, xq⟩ := x_readKind ht n16 hc x
    rw [e, kb_s]
    exact b228 q (f.wide fun l i z => by unfold Wcr; omega : kfp (Wcr c) g q).q (by unfold stB; rw [if_pos y0]; exact xq)
  rw [if_neg (show ¬ v = (0 : Int32) from no 0 (by omega) y0)]
  by_cases y1 : wI (tyN h) n s = 1
  · rw [if_pos (show v = (1 : Int32) from (vi 1 (by omega)).mpr y1)]
    exact st1 (by omega)
  rw [if_neg (show ¬ v = (1 : Int32) from no 1 (by omega) y1)]
  by_cases y2 : wI (tyN h) n s = 2
  · rw [if_pos (show v = (2 : Int32) from (vi 2 (by omega)).mpr y2)]
    exact st1 (by omega)
  rw [if_neg (show ¬ v = (2 : Int32) from no 2 (by omega) y2)]
  by_cases y3 : wI (tyN h) n s = 3
  · rw [if_pos (show v = (3 : Int32) from (vi 3 (by omega)).mpr y3)]
    exact st1 (by omega)
  rw [if_neg (show ¬ v = (3 : Int32) from no 3 (by omega) y3)]
  by_cases y4 : wI (tyN h) n s = 4
  · rw [if_pos (show v = (4 : Int32) from (vi 4 (by omega)).mpr y4)]
    exact st1 (by omega)
  rw [if_neg (show ¬ v = (4 : Int32) from no 4 (by omega) y4)]
  by_cases y5 : wI (tyN h) n s = 5
  · rw [if_pos (show v = (5 : Int32) from (vi 5 (by omega)).mpr y5)]
    obtain ⟨q, e, f, xq⟩ := x_readTrial ht n16 hc x
    rw [e, kb_s]
    exact b228 q (f.wide fun l i z => by unfold Wcr; omega : kfp (Wcr c) g q).q (by unfold stB; rw [if_neg y0, if_pos y5]; exact xq)
  rw [if_neg (show ¬ v = (5 : Int32) from no 5 (by omega) y5)]
  by_cases y6 : wI (tyN h) n s = 6
  · rw [if_pos (show v = (6 : Int32) from (vi 6 (by omega)).mpr y6)]
    exact st1 (by omega)
  rw [if_neg (show ¬ v = (6 : Int32) from no 6 (by omega) y6)]
  by_cases y7 : wI (tyN h) n s = 7
  · rw [if_pos (show v = (7 : Int32) from (vi 7 (by omega)).mpr y7)]
    obtain ⟨q, e, f, xq⟩ := x_readMark ht n16 hc x
    rw [e, kb_s]
    exact b228 q (f.wide fun l i z => by unfold Wcr; omega : kfp (Wcr c) g q).q (by unfold stB; rw [if_neg y0, if_neg y5, if_pos y7]; exact xq)
  rw [if_neg (show ¬ v = (7 : Int32) from no 7 (by omega) y7)]
  by_cases y8 : wI (tyN h) n s = 8
  · rw [if_pos (show v = (8 : Int32) from (vi 8 (by omega)).mpr y8), if_pos (ct_kk hc)]
    have c5 := cx.2.2.2
    cases hC : C.2.2 with
    | some d =>
      rw [hC] at c5
      have eB : stB (tyN h) n C s = .inl (5, blE (tyN h) n s.1) := by
        unfold stB
        rw [if_neg y0, if_neg y5, if_neg y7, if_pos y8, hC]
      rw [if_neg (by rw [c5.1]; decide)]
      exact stop 5 eB
    | none =>
      rw [hC] at c5
      obtain ⟨g1, g3, g4, e1, -, r1, e3, r3, e4, fq, xq⟩ := x_rule ht n16 hc x hC
      rw [if_pos c5, e1, kb_s, rf11_1 r1, if_pos (show 10 < 999999 by omega), (ct_r r1 hc).2.2.2.1, if_pos (show c + 21 < 999999 by omega), if_pos kk10, e3, kb_s, rf11_1 r3, if_pos (show 10 < 999999 by omega), if_pos kk10, e4, kb_s, kl_e]
      exact b228 _ fq (by unfold stB; rw [if_neg y0, if_neg y5, if_neg y7, if_pos y8, hC]; exact xq)
  rw [if_neg (show ¬ v = (8 : Int32) from no 8 (by omega) y8)]
  by_cases y9 : wI (tyN h) n s = 9
  · rw [if_pos (show v = (9 : Int32) from (vi 9 (by omega)).mpr y9)]
    obtain ⟨w, g1, g2, e1, eg, f, xq⟩ := x_first (j := 9) (lo := 1) (hi := 99) (p := 6) ht n16 hc (Or.inl ⟨rfl, rfl, rfl, rfl⟩) x
    have e1' : f_X3_takeBehind g 11 (9 : Int32) (1 : Int32) (99 : Int32) = some (w, g1) := e1
    rw [e1', kb_s, if_pos (ct_kk hc), kl_e, ← eg]
    exact b228 g2 f.q (by unfold stB; rw [if_neg y0, if_neg y5, if_neg y7, if_neg y8, if_pos y9]; exact xq)
  rw [if_neg (show ¬ v = (9 : Int32) from no 9 (by omega) y9)]
  by_cases y10 : wI (tyN h) n s = 10
  · rw [if_pos (show v = (10 : Int32) from (vi 10 (by omega)).mpr y10)]
    obtain ⟨w, g1, g2, e1, eg, f, xq⟩ := x_first (j := 10) (lo := 0) (hi := 9999) (p := 7) ht n16 hc (Or.inr ⟨rfl, rfl, rfl, rfl⟩) x
    have e1' : f_X3_takeBehind g 11 (10 : Int32) (0 : Int32) (9999 : Int32) = some (w, g1) := e1
    rw [e1', kb_s, if_pos (ct_kk hc), kl_e, ← eg]
    exact b228 g2 f.q (by unfold stB; rw [if_neg y0, if_neg y5, if_neg y7, if_neg y8, if_neg y9, if_pos y10]; exact xq)
  rw [if_neg (show ¬ v = (10 : Int32) from no 10 (by omega) y10)]
  exact st1 (by omega)
