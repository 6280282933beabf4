/-! the class takes a new name -/
theorem Cx.fp {W : Nat → Nat → Prop} {g g' : KH} {c : Nat} {C : CTy} (x : Cx g c C) (f : kfp W g g') (hd : ∀ l i, (l = c ∧ 3 ≤ i ∧ i ≤ 8) ∨ (c + 2 ≤ l ∧ l ≤ c + 20) ∨ (l = c + 21 ∧ i = 2) ∨ l = c + 22 → ¬ W l i) (wf : wfC C) : Cx g' c C := by
  obtain ⟨x1, x2, ⟨x3, x4⟩, x5⟩ := x
  have I : ∀ l i, (l = c ∧ 3 ≤ i ∧ i ≤ 8) ∨ (c + 2 ≤ l ∧ l ≤ c + 20) ∨ (l = c + 21 ∧ i = 2) ∨ l = c + 22 → kI g' l i = kI g l i := fun l i z => f.2.2.1 _ _ (hd l i z)
  refine ⟨fun s hs => (I _ _ (by omega)).trans (x1 s hs), fun s hs k hk => ?_, ⟨(I _ _ (by omega)).trans x3, (I _ _ (by omega)).trans x4⟩, ?_⟩
  · have l6 := wf.1 s hs
    have lb : c + 2 ≤ c + (2 + 7 * s) + k ∧ c + (2 + 7 * s) + k ≤ c + 20 := by
      split at l6 <;> omega
    obtain ⟨a, b⟩ := x2 s hs k hk
    exact ⟨(I _ _ (by omega)).trans a, fun j hj => (I _ _ (by omega)).trans (b j hj)⟩
  · cases hC : C.2.2 with
    | none =>
      rw [hC] at x5
      exact (I _ _ (by omega)).trans x5
    | some d =>
      rw [hC] at x5
      exact ⟨(I _ _ (by omega)).trans x5.1, (I _ _ (by omega)).trans x5.2.1, fun i hi => (I _ _ (by omega)).trans (x5.2.2 i hi)⟩
/-- counts alone: what is left of a court behind a fault -/
def Cn (g : KH) (c : Nat) : Prop := ∀ s, s < 3 → cn g c (3 + s) (if s = 2 then 5 else 6)
theorem Cx.n {g : KH} {c : Nat} {C : CTy} (x : Cx g c C) (wf : wfC C) : Cn g c := fun s hs => cn_of (x.1 s hs) (wf.1 s hs) (by split <;> omega)
theorem x_hasName_ex {g : KH} (hr : kRefs g) {c : Nat} (hc : ctc c) (x : Cn g c) (v : Int32) : ∃ r, f_X2_hasName g c v = some r ∧ (r = 0 ∨ r = 1) := by
  obtain ⟨r, e, hh⟩ := x_hasName hr hc (N := fun s => kN g c (3 + s)) (fun s hs => ⟨(x s hs).1, (x s hs).2⟩) v
  refine ⟨r, e, ?_⟩
  rcases hh with ⟨h1, -⟩ | ⟨h1, -⟩
  · exact Or.inl h1
  · exact Or.inr h1
theorem x_takeNewName_l {h g : KH} {n c : Nat} {e : Nat × Nat} (hc : ctc c) (x : Rx h g n (.inl e)) (cn0 : Cn g c) : ∃ v, f_X3_takeNewName g 11 c = some (v, g) := by
  have rg := x.1.1
  have h3 : kI g 8 3 = 6 := x.2.1
  have nh : f_X7_nameHere g 8 = some (kI g 8 6, g) := by
    unfold f_X7_nameHere f_X7_nameHere_b23 f_X7_nameHere_b56
    rw [if_pos kk8, x_wordHere_l x, kb_s, h3, if_neg (by decide), if_pos kk8, x_stop_l x, kb_s, if_pos kk8]
  obtain ⟨r, e1, h01⟩ := x_hasName_ex rg hc cn0 (kI g 8 6)
  have b31 : f_X3_takeNewName_b31 g 11 (kI g 8 6) = some (kI g 8 6, g) := by
    unfold f_X3_takeNewName_b31
    rw [if_pos kk11, rf11_0 rg, if_pos (show 8 < 999999 by omega), if_pos kk8, x_next_l x, kb_s]
  refine ⟨kI g 8 6, ?_⟩
  unfold f_X3_takeNewName
  rw [if_pos kk11, rf11_0 rg, if_pos (show 8 < 999999 by omega), if_pos kk8, nh, kb_s, if_pos (ct_kk hc), e1, kb_s]
  dsimp only
  rcases h01 with h0 | h0
  · rw [if_pos h0, b31]
  · rw [if_neg (by rw [h0]; decide), rf11_0 rg, if_pos (show 8 < 999999 by omega), if_pos kk8, x_stop_l x, kb_s, b31]
theorem x_takeNewName {h g : KH} {n c : Nat} {C : CTy} {s : PS} (ht : Rtape h) (n16 : n ≤ 1600) (hc : ctc c) (wf : wfC C) (x : Rx h g n (.inr s)) (cx : Cx g c C) : ∃ v g', f_X3_takeNewName g 11 c = some (v, g') ∧ kfp (fun l _ => l = 8) g g' ∧ (∀ e, nwN (tyN h) n C s = .inl e → Rx h g' n (.inl e)) ∧ ∀ w, nwN (tyN h) n C s = .inr w → v = Int32.ofNat (w.1 * 27 ^ (6 - w.2.1)) ∧ Rx h g' n (.inr w.2.2) := by
  have rg := x.1.1
  have c8 : c ≠ 8 ∧ c + 22 < 100 := by rcases hc with rfl | rfl <;> omega
  obtain ⟨v, g1, e1, f1, k1, k2⟩ := x_nameHere ht n16 x
  have r1 := rg.fp f1
  have cx1 : Cx g1 c C := cx.fp f1 (fun l i z q => by rcases hc with rfl | rfl <;> omega) wf
  have b31 : ∀ q v r, Rx h q n r → ∃ q', f_X3_takeNewName_b31 q 11 v = some (v, q') ∧ kfp (fun l _ => l = 8) q q' ∧ Rx h q' n (pbd r fun s => .inr (nxt (tyN h) n s)) := fun q v r xq => by
    obtain ⟨q', e', f', x'⟩ := x_nextR ht n16 xq
    have rq := xq.1.1
    unfold f_X3_takeNewName_b31
    rw [if_pos kk11, rf11_0 rq, if_pos (show 8 < 999999 by omega), if_pos kk8, e', kb_s]
    exact ⟨q', rfl, f', x'⟩
  unfold f_X3_takeNewName
  rw [if_pos kk11, rf11_0 rg, if_pos (show 8 < 999999 by omega), if_pos kk8, e1, kb_s, if_pos (ct_kk hc)]
  dsimp only
  cases hw : wNm (tyN h) n s with
  | inl e =>
    have x1 := k1 e hw
    have en : nwN (tyN h) n C s = .inl e := by
      unfold nwN
      rw [hw]
    obtain ⟨r, e2, h01⟩ := x_hasName_ex r1 hc (cx1.n wf) v
    obtain ⟨q', e3, f3, x3⟩ := b31 g1 v _ x1
    rw [e2, kb_s]
    refine ⟨v, q', ?_, f1.tr f3, fun e' he => ?_, fun w he => ?_⟩
    · rcases h01 with h0 | h0
      · rw [if_pos h0, e3]
      · rw [if_neg (by rw [h0]; decide), rf11_0 r1, if_pos (show 8 < 999999 by omega), if_pos kk8, x_stop_l x1, kb_s, e3]
    · rw [en] at he
      cases he
      exact x3
    · rw [en] at he
      exact nomatch he
  | inr w =>
    obtain ⟨eg, ev⟩ := k2 w hw
    subst eg
    obtain ⟨nm, tv, en, -⟩ := wNm_ok hw
    rw [tv] at ev
    obtain ⟨r, e2, hh⟩ := x_known rg hc wf cx nm
    rw [ev, e2, kb_s]
    rcases hh with ⟨h0, nk⟩ | ⟨h0, yk⟩
    · have e4 : nwN (tyN h) n C s = .inr w := by
        unfold nwN
        rw [hw]
        exact if_neg nk
      obtain ⟨q', e3, f3, x3⟩ := b31 g1 (Int32.ofNat (w.1 * 27 ^ (6 - w.2.1))) _ x
      refine ⟨_, q', by rw [if_pos h0, e3], f3, fun e' he => ?_, fun w' he => ?_⟩
      · rw [e4] at he
        exact nomatch he
      · rw [e4] at he
        cases he
        rw [en]
        exact ⟨rfl, x3⟩
    · have e4 : nwN (tyN h) n C s = .inl (3, blE (tyN h) n s.1) := by
        unfold nwN
        rw [hw]
        exact if_pos yk
      obtain ⟨q1, e5, f5, x5⟩ := x_stopH (k := 3) ht n16 x
      have e5' : f_X7_stop g1 8 (3 : Int32) (kI g1 8 4) = some q1 := e5
      obtain ⟨q', e3, f3, x3⟩ := b31 q1 (Int32.ofNat (w.1 * 27 ^ (6 - w.2.1))) _ x5
      refine ⟨_, q', by rw [if_neg (by rw [h0]; decide), rf11_0 rg, if_pos (show 8 < 999999 by omega), if_pos kk8, e5', kb_s, e3], f5.tr f3, fun e' he => ?_, fun w' he => ?_⟩
      · rw [e4] at he
        cases he
        exact x3
      · rw [e4] at he
        exact nomatch he
