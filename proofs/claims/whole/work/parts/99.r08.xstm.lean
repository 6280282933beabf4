/-! frames that let the grammar's code go; the class reads a rule, FIRST, PRICE -/
def kfq (W : Nat → Nat → Prop) (g g' : KH) : Prop := kfp W (ksR g 10 1 (kR g' 10 1)) g'
theorem ksR_id (g : KH) (l i : Nat) : ksR g l i (kR g l i) = g := KH_ext rfl (fun _ _ => rfl) (fun _ _ => rfl) (fun a b => by
  rw [kR_sR]
  by_cases y : a = l ∧ b = i
  · rw [if_pos y, y.1, y.2]
  · rw [if_neg y])
theorem kfp.q {W : Nat → Nat → Prop} {g g' : KH} (f : kfp W g g') : kfq W g g' := by
  unfold kfq
  rw [f.2.1 10 1, ksR_id]
  exact f
theorem kfq.I {W : Nat → Nat → Prop} {g g' : KH} (f : kfq W g g') {l i : Nat} (h : ¬ W l i) : kI g' l i = kI g l i := f.2.2.1 l i h
theorem kfq.L {W : Nat → Nat → Prop} {g g' : KH} (f : kfq W g g') {l i : Nat} (h : ¬ W l i) : kL g' l i = kL g l i := f.2.2.2 l i h
theorem kfq.wide {W V : Nat → Nat → Prop} {g g' : KH} (f : kfq W g g') (h : ∀ l i, W l i → V l i) : kfq V g g' := kfp.wide f h
theorem kfq.tr {W : Nat → Nat → Prop} {a b d : KH} (x : kfq W a b) (y : kfq W b d) : kfq W a d := by
  obtain ⟨x1, x2, x3, x4⟩ := x
  obtain ⟨y1, y2, y3, y4⟩ := y
  refine ⟨y1.trans x1, fun l i => ?_, fun l i z => (y3 l i z).trans (x3 l i z), fun l i z => (y4 l i z).trans (x4 l i z)⟩
  rw [y2 l i, kR_sR, kR_sR]
  by_cases u : l = 10 ∧ i = 1
  · rw [if_pos u, if_pos u]
  · rw [if_neg u, if_neg u, x2 l i, kR_sR, if_neg u]
def Wcr (c l i : Nat) : Prop := l = 8 ∨ (l = 10 ∧ i = 2) ∨ (l = c ∧ 3 ≤ i ∧ i ≤ 8) ∨ (c + 2 ≤ l ∧ l ≤ c + 20) ∨ (l = c + 21 ∧ i = 2) ∨ l = c + 22
theorem x_first {h g : KH} {n c j lo hi p : Nat} {C : CTy} {s : PS} (ht : Rtape h) (n16 : n ≤ 1600) (hc : ctc c) (hj : (j = 9 ∧ lo = 1 ∧ hi = 99 ∧ p = 6) ∨ (j = 10 ∧ lo = 0 ∧ hi = 9999 ∧ p = 7)) (x : Xs h g n c (.inr (C, s))) : ∃ v g1 g2, f_X3_takeBehind g 11 (Int32.ofNat j) (Int32.ofNat lo) (Int32.ofNat hi) = some (v, g1) ∧ g2 = ksI g1 c p v ∧ kfp (Wcr c) g g2 ∧ Xs h g2 n c (match tBh (tyN h) n j lo hi s with
    | .inl e => .inl e
    | .inr v => .inr ((C.1, (if p = 6 then v.1 else C.2.1.1, if p = 7 then v.1 else C.2.1.2), C.2.2), v.2)) := by
  have x1 : Rx h g n (.inr s) := x.1
  have cx : Cx g c C := x.2.1
  have wf : wfC C := x.2.2
  have cc : c + 25 < 100 ∧ 12 ≤ c := by rcases hc with rfl | rfl <;> omega
  obtain ⟨v, g1, g2, e1, eg, f, x2, w2⟩ := x_num (j := j) (lo := lo) (hi := hi) (L := c) (k := p) ht n16 (by omega) (by omega) (by omega) (by omega) x1
  refine ⟨v, g1, g2, e1, eg, f.wide fun l i z => by unfold Wcr; omega, ?_⟩
  have I : ∀ l i, l ≠ 8 → ¬ (l = c ∧ i = p) → kI g2 l i = kI g l i := fun l i a b => f.2.2.1 _ _ (by omega)
  cases t : tBh (tyN h) n j lo hi s with
  | inl e =>
    have e0 : tPR (.inr s) (tBh (tyN h) n j lo hi) = .inl e := by simp only [tPR, pbd, nbd, t]
    rw [e0] at x2
    exact ⟨x2, fun s hs => (cx.n wf s hs).same (I _ _ (by omega) (by omega))⟩
  | inr w =>
    have e0 : tPR (.inr s) (tBh (tyN h) n j lo hi) = .inr w.2 := by simp only [tPR, pbd, nbd, t]
    rw [e0] at x2
    have wv := w2 s w.1 w.2 rfl t
    obtain ⟨y1, y2, ⟨y3, y4⟩, y5⟩ := cx
    refine ⟨x2, ⟨fun s hs => (I _ _ (by omega) (by omega)).trans (y1 s hs), fun s hs k hk => ?_, ⟨?_, ?_⟩, ?_⟩, wf⟩
    · have l6 := wf.1 s hs
      have hk' : k < (sel C s).length := hk
      have lb : c + 2 ≤ c + (2 + 7 * s) + k ∧ c + (2 + 7 * s) + k ≤ c + 20 := by
        split at l6 <;> omega
      obtain ⟨a, b⟩ := y2 s hs k hk
      exact ⟨(I _ _ (by omega) (by omega)).trans a, fun j hj => (I _ _ (by omega) (by omega)).trans (b j hj)⟩
    · show kI g2 c 6 = Int32.ofNat (if p = 6 then w.1 else C.2.1.1)
      rcases hj with ⟨-, -, -, rfl⟩ | ⟨-, -, -, rfl⟩
      · rw [if_pos rfl]
        exact wv
      · rw [if_neg (by omega)]
        exact (I _ _ (by omega) (by omega)).trans y3
    · show kI g2 c 7 = Int32.ofNat (if p = 7 then w.1 else C.2.1.2)
      rcases hj with ⟨-, -, -, rfl⟩ | ⟨-, -, -, rfl⟩
      · rw [if_neg (by omega)]
        exact (I _ _ (by omega) (by omega)).trans y4
      · rw [if_pos rfl]
        exact wv
    · dsimp only
      cases hC : C.2.2 with
      | none =>
        rw [hC] at y5
        exact (I _ _ (by omega) (by omega)).trans y5
      | some d =>
        rw [hC] at y5
        exact ⟨(I _ _ (by omega) (by omega)).trans y5.1, (I _ _ (by omega) (by omega)).trans y5.2.1, fun i hi => (I _ _ (by omega) (by omega)).trans (y5.2.2 i hi)⟩
theorem x_rule {h g : KH} {n c : Nat} {C : CTy} {s : PS} (ht : Rtape h) (n16 : n ≤ 1600) (hc : ctc c) (x : Xs h g n c (.inr (C, s))) (h0 : C.2.2 = none) : ∃ g1 g3 g4, f_X7_next g 8 = some g1 ∧ kR g1 10 1 = kR g 10 1 ∧ kRefs g1 ∧ f_X4_writeTo g1 10 (c + 21) 0 = some g3 ∧ kRefs g3 ∧ f_X4_readTest g3 10 0 = some g4 ∧ kfq (Wcr c) g (ksI g4 c 8 1) ∧ Xs h (ksI g4 c 8 1) n c (match tst (tyN h) n (lvF (tyN h) n true 6) (tkE (tyN h) n s.1, (nxt (tyN h) n s).2.1, []) with
    | .inl e => .inl e
    | .inr s2 => .inr ((C.1, C.2.1, some s2.2.2), s2)) := by
  have x1 : Rx h g n (.inr s) := x.1
  have cx : Cx g c C := x.2.1
  have wf : wfC C := x.2.2
  have cc : c + 25 < 100 ∧ 12 ≤ c := by rcases hc with rfl | rfl <;> omega
  have cv : c + 21 = 4 ∨ c + 21 = 33 ∨ c + 21 = 59 := by rcases hc with rfl | rfl <;> omega
  obtain ⟨g1, e1, f1, x2⟩ := x_next ht n16 x1
  have r1 := x2.1.1
  obtain ⟨h0', eh0⟩ : ∃ h0', h0' = ksR g1 10 1 (c + 21) := ⟨_, rfl⟩
  have r0 : kRefs h0' := by rw [eh0]; exact r1.r10 cv
  obtain ⟨g3, eg3⟩ : ∃ g3, g3 = ksI (ksI h0' (c + 21) 2 0) 10 2 (0 : Int32) := ⟨_, rfl⟩
  have f3 : kfp (Wcr c) h0' g3 := by rw [eg3]; exact (kfp.rf.sI _ (by unfold Wcr; omega)).sI _ (by unfold Wcr; omega)
  have r3 := r0.fp f3
  have I3 : ∀ l i, l ≠ c + 21 → l ≠ 10 → kI g3 l i = kI g1 l i := fun l i a b => by rw [eg3, kI_sI, if_neg (by omega), kI_sI, if_neg (by omega), eh0, kI_sR]
  have x3 : Rx h g3 n (.inr (tkE (tyN h) n s.1, (nxt (tyN h) n s).2.1, [])) := by
    obtain ⟨⟨-, b2, b3, b4⟩, c1, c2, c3, c4⟩ := x2
    unfold Tk at c2
    refine ⟨⟨r3, (I3 _ _ (by omega) (by omega)).trans b2, fun i => (I3 _ _ (by omega) (by omega)).trans (b3 i), fun j hj => (I3 _ _ (by omega) (by omega)).trans (b4 j hj)⟩, c1, ?_, (I3 _ _ (by omega) (by omega)).trans c3, (I3 _ _ (by omega) (by omega)).trans c4⟩
    unfold Tk
    rw [I3 8 2 (by omega) (by omega), I3 8 3 (by omega) (by omega), I3 8 4 (by omega) (by omega), I3 8 5 (by omega) (by omega), I3 8 6 (by omega) (by omega)]
    exact c2
  have gx3 : Gx h g3 n (c + 21) true (.inr (tkE (tyN h) n s.1, (nxt (tyN h) n s).2.1, [])) := ⟨x3, ⟨(f3.2.1 _ _).trans (by rw [eh0, kR_sR, if_pos ⟨rfl, rfl⟩]), by rw [eg3, kI_sI, if_pos ⟨rfl, rfl⟩]; rfl, cv⟩, by rw [eg3, kI_sI, if_neg (by omega), kI_sI, if_pos ⟨rfl, rfl⟩]; rfl, Nat.zero_le _, fun i hi => absurd hi (Nat.not_lt_zero _)⟩
  obtain ⟨g4, e4, f4, gx4⟩ := x_readTest ht n16 gx3
  rw [pbd_r] at gx4
  obtain ⟨g5, eg5⟩ : ∃ g5, g5 = ksI g4 c 8 (1 : Int32) := ⟨_, rfl⟩
  have f5 : kfp (fun l i => l = c ∧ i = 8) g4 g5 := by rw [eg5]; exact kfp.rf.sI _ ⟨rfl, rfl⟩
  have F0 : kfp (Wcr c) h0' g5 := (f3.tr (f4.wide fun l i z => by unfold Wg at z; unfold Wcr; omega)).tr (f5.wide fun l i z => by unfold Wcr; omega)
  have fq : kfq (Wcr c) g1 g5 := by
    have e : kR g5 10 1 = c + 21 := (F0.2.1 _ _).trans (by rw [eh0, kR_sR, if_pos ⟨rfl, rfl⟩])
    unfold kfq
    rw [e, ← eh0]
    exact F0
  refine ⟨g1, g3, g4, e1, f1.2.1 _ _, r1, by rw [eg3, eh0]; exact x_writeTo g1 cv (Or.inl rfl), r3, e4, ?_⟩
  rw [← eg5]
  refine ⟨((f1.wide fun l i z => by unfold Wcr; omega : kfp (Wcr c) g g1).q).tr fq, ?_⟩
  have I : ∀ l i, l ≠ 8 → l ≠ 10 → ¬ (l = c ∧ i = 8) → ¬ (l = c + 21 ∧ i = 2) → l ≠ c + 22 → kI g5 l i = kI g l i := fun l i a b d e u => by
    rw [f5.2.2.1 _ _ (by omega), f4.2.2.1 _ _ (by unfold Wg; omega)]
    rw [eg3, kI_sI, if_neg (by omega), kI_sI, if_neg (by omega), eh0, kI_sR]
    exact f1.2.2.1 _ _ (by omega)
  obtain ⟨z1, z2, z3⟩ := gx4
  have z5 := z1.fp f5 fun l i z w => by omega
  cases t : tst (tyN h) n (lvF (tyN h) n true 6) (tkE (tyN h) n s.1, (nxt (tyN h) n s).2.1, []) with
  | inl e =>
    rw [t] at z5
    exact ⟨z5, fun s hs => (cx.n wf s hs).same (I _ _ (by omega) (by omega) (by omega) (by omega) (by omega))⟩
  | inr s2 =>
    rw [t] at z5 z3
    obtain ⟨y1, y2, ⟨y3, y4⟩, y5⟩ := cx
    refine ⟨z5, ⟨fun s hs => (I _ _ (by omega) (by omega) (by omega) (by omega) (by omega)).trans (y1 s hs), fun s hs k hk => ?_, ⟨(I _ _ (by omega) (by omega) (by omega) (by omega) (by omega)).trans y3, (I _ _ (by omega) (by omega) (by omega) (by omega) (by omega)).trans y4⟩, ?_⟩, wf⟩
    · have l6 := wf.1 s hs
      have hk' : k < (sel C s).length := hk
      have lb : c + 2 ≤ c + (2 + 7 * s) + k ∧ c + (2 + 7 * s) + k ≤ c + 20 := by
        split at l6 <;> omega
      obtain ⟨a, b⟩ := y2 s hs k hk
      exact ⟨(I _ _ (by omega) (by omega) (by omega) (by omega) (by omega)).trans a, fun j hj => (I _ _ (by omega) (by omega) (by omega) (by omega) (by omega)).trans (b j hj)⟩
    · exact ⟨by rw [eg5, kI_sI, if_pos ⟨rfl, rfl⟩], (f5.2.2.1 _ _ (by omega)).trans z3.1, fun i hi => (f5.2.2.1 _ _ (by omega)).trans (z3.2.2 i hi)⟩
