/-! the class reads a row's parts -/
theorem wvN_nmo {b : Nat → Nat} {p : Nat} : ∀ k, 1 ≤ k → k ≤ 6 → (∀ i, i < k → isLt (b (p + i)) = true) → nmo (wvN b p k) k
  | 0, h, _, _ => absurd h (by omega)
  | 1, _, _, h => by
    have c := isLt_b (h 0 (by omega))
    rw [Nat.add_zero] at c
    refine ⟨by omega, by omega, ?_, ?_, ?_⟩
    all_goals rw [wvN, if_pos (by omega), wvN, Nat.add_zero]
    all_goals omega
  | k + 2, _, h6, h => by
    obtain ⟨-, -, a3, a4, a5⟩ := wvN_nmo (b := b) (p := p) (k + 1) (by omega) (by omega) fun i hi => h i (by omega)
    have c := isLt_b (h (k + 1) (by omega))
    have e1 : (27 : Nat) ^ (k + 2) = 27 ^ (k + 1) * 27 := Nat.pow_succ ..
    have e2 : (27 : Nat) ^ (k + 1) = 27 ^ k * 27 := Nat.pow_succ ..
    rw [show k + 1 - 1 = k by omega] at a3
    refine ⟨by omega, by omega, ?_, ?_, ?_⟩
    all_goals rw [wvN, if_pos (by omega)]
    · rw [show k + 2 - 1 = k + 1 by omega]
      omega
    · omega
    · omega
theorem wNm_ok {b : Nat → Nat} {n : Nat} {s : PS} {w : Nat × Nat × PS} (h : wNm b n s = .inr w) : nmo w.1 w.2.1 ∧ tkV b n s.1 = w.1 * 27 ^ (6 - w.2.1) ∧ w.2.2 = nxt b n s ∧ tkT b n s.1 s.2.1 = 2 := by
  unfold wNm at h
  by_cases y : tkT b n s.1 s.2.1 ≠ 2
  · rw [if_pos y] at h
    exact nomatch h
  · rw [if_neg y] at h
    by_cases z : wI b n s < 22
    · rw [if_pos z] at h
      exact nomatch h
    · rw [if_neg z] at h
      by_cases u : 6 < tkZ b n s.1
      · rw [if_pos u] at h
        exact nomatch h
      · rw [if_neg u] at h
        cases h
        have t2 : tkT b n s.1 s.2.1 = 2 := by omega
        obtain ⟨e1, e2, e3⟩ := tkE_w t2
        have wz := tkZ_w t2
        obtain ⟨a1, a2, a3, a4⟩ := wdE_at b (n := n) e2 e3
        refine ⟨wvN_nmo _ (by omega) (by omega) fun i hi => a3 _ (by omega) (by omega), ?_, rfl, t2⟩
        have tv : tkV b n s.1 = flN (wvN b (blE b n s.1) (tkZ b n s.1)) (tkZ b n s.1) := by unfold tkV; rw [if_neg (by omega), if_pos e3]
        rw [tv]
        unfold flN
        rw [if_pos (by omega)]
def tPR (r : PR) (f : PS → (Nat × Nat) ⊕ (Nat × PS)) : PR := pbd r fun s => nbd (f s)
theorem x_takeBehind {h g : KH} {n j lo hi : Nat} {r : PR} (ht : Rtape h) (n16 : n ≤ 1600) (hj : j < 27) (hhi : hi < 10000) (hlo : lo < 10000) (x : Rx h g n r) : ∃ v g', f_X3_takeBehind g 11 (Int32.ofNat j) (Int32.ofNat lo) (Int32.ofNat hi) = some (v, g') ∧ kfp (fun l _ => l = 8) g g' ∧ Rx h g' n (tPR r (tBh (tyN h) n j lo hi)) ∧ ∀ s w s', r = .inr s → tBh (tyN h) n j lo hi s = .inr (w, s') → v = Int32.ofNat w := by
  have rg := x.1.1
  obtain ⟨g1, e1, f1, x1⟩ := x_takeWord ht n16 hj x
  have r1 := x1.1.1
  unfold f_X3_takeBehind
  rw [if_pos kk11, rf11_0 rg, if_pos (show 8 < 999999 by omega), if_pos kk8, e1, kb_s, rf11_0 r1, if_pos (show 8 < 999999 by omega), if_pos kk8]
  cases hr : pbd r (wW (tyN h) n j) with
  | inl e =>
    rw [hr] at x1
    rw [x_takeNumber_l x1, kb_s]
    refine ⟨_, g1, rfl, f1, ?_, fun s w s' hs hw => ?_⟩
    · have : tPR r (tBh (tyN h) n j lo hi) = .inl e := by
        unfold tPR
        cases r with
        | inl e0 => exact hr
        | inr s =>
          rw [pbd_r] at hr ⊢
          unfold tBh
          rw [hr]
          rfl
      rw [this]
      exact x1
    · subst hs
      rw [pbd_r] at hr
      unfold tBh at hw
      rw [hr] at hw
      exact nomatch hw
  | inr s1 =>
    rw [hr] at x1
    obtain ⟨v, g2, e2, f2, x2, v2⟩ := x_takeNumber ht n16 hhi hlo x1
    rw [e2, kb_s]
    obtain ⟨s0, hs0, hw0⟩ := pbd_inr hr
    subst hs0
    have et : tBh (tyN h) n j lo hi s0 = wNum (tyN h) n lo hi s1 := by
      unfold tBh
      rw [hw0]
    refine ⟨v, g2, rfl, f1.tr f2, ?_, fun s w s' hs hw => ?_⟩
    · unfold tPR
      rw [pbd_r, et]
      exact x2
    · cases hs
      rw [et] at hw
      exact v2 w s' hw
/-- a row as the class holds it; the court being read -/
def rwX (g : KH) (l : Nat) (r : Row) : Prop := kI g l 0 = Int32.ofNat (r.1 * 27 ^ (6 - r.2.1)) ∧ ∀ j, j < r.2.2.length → kI g l (j + 1) = Int32.ofNat (r.2.2.getD j 0)
def Cx (g : KH) (c : Nat) (C : CTy) : Prop := (∀ s, s < 3 → kI g c (3 + s) = Int32.ofNat (sel C s).length) ∧ (∀ s, s < 3 → ∀ k, k < (sel C s).length → rwX g (c + (2 + 7 * s) + k) ((sel C s).getD k (0, 0, []))) ∧ (kI g c 6 = Int32.ofNat C.2.1.1 ∧ kI g c 7 = Int32.ofNat C.2.1.2) ∧ (match C.2.2 with
  | none => kI g c 8 = 0
  | some d => kI g c 8 = 1 ∧ kI g (c + 21) 2 = Int32.ofNat d.length ∧ ∀ i, i < d.length → kI g (c + 22) i = csI (d.getD i 0))
def wfC (C : CTy) : Prop := (∀ s, s < 3 → (sel C s).length ≤ if s = 2 then 5 else 6) ∧ ∀ s, s < 3 → ∀ r, r ∈ sel C s → nmo r.1 r.2.1
theorem row_mem {l : List Row} {k : Nat} (hk : k < l.length) : l.getD k (0, 0, []) ∈ l := by
  rw [List.getD_eq_getElem?_getD, List.getElem?_eq_getElem hk]
  exact List.getElem_mem hk
theorem row_at {l : List Row} {r : Row} (hr : r ∈ l) : ∃ k, k < l.length ∧ l.getD k (0, 0, []) = r := by
  obtain ⟨k, hk, e⟩ := List.getElem_of_mem hr
  refine ⟨k, hk, ?_⟩
  rw [List.getD_eq_getElem?_getD, List.getElem?_eq_getElem hk]
  exact e
/-- known to the class: a name that the text told before -/
theorem x_known {g : KH} (hr : kRefs g) {c : Nat} (hc : ctc c) {C : CTy} (wf : wfC C) (cx : Cx g c C) {v m : Nat} (nm : nmo v m) : ∃ r, f_X2_hasName g c (Int32.ofNat (v * 27 ^ (6 - m))) = some r ∧ ((r = 0 ∧ ¬ kno C v) ∨ (r = 1 ∧ kno C v)) := by
  have fv := nm.fill
  obtain ⟨r, e, hh⟩ := x_hasName hr hc (N := fun s => (sel C s).length) (fun s hs => ⟨cx.1 s hs, wf.1 s hs⟩) (Int32.ofNat (v * 27 ^ (6 - m)))
  refine ⟨r, e, ?_⟩
  have at1 : ∀ s, s < 3 → ∀ k, k < (sel C s).length → (nmX g c (fun s => (sel C s).length) s k = Int32.ofNat (v * 27 ^ (6 - m)) ↔ ((sel C s).getD k (0, 0, [])).1 = v) := fun s hs k hk => by
    have nk := wf.2 s hs _ (row_mem hk)
    have fk := nk.fill
    unfold nmX
    rw [if_pos hk, (cx.2.1 s hs k hk).1, n32_eq (by omega) (by omega)]
    exact nmo_inj nk nm
  rcases hh with ⟨h1, h2⟩ | ⟨h1, s, hs, k, hk, h2⟩
  · refine Or.inl ⟨h1, fun z => ?_⟩
    obtain ⟨s, hs, r', hr', ev⟩ := z
    obtain ⟨k, hk, ek⟩ := row_at hr'
    have l6 : (sel C s).length ≤ 6 := by
      have := wf.1 s hs
      split at this <;> omega
    exact h2 s hs k (by omega) ((at1 s hs k hk).mpr (by rw [ek]; exact ev))
  · refine Or.inr ⟨h1, s, hs, ?_⟩
    by_cases y : k < (sel C s).length
    · exact ⟨_, row_mem y, (at1 s hs k y).mp h2⟩
    · unfold nmX at h2
      rw [if_neg y] at h2
      exact absurd h2.symm (by rw [n32_eqm (by omega)]; exact fun z => z)
