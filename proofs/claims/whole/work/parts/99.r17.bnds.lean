/-! bounds of what a COURT tells, all of it -/
def spS (s : Nat) : List (Nat × Nat × Nat) := if s = 0 then spK else if s = 1 then spT else spM
def mxS (s : Nat) : Nat := if s = 2 then 5 else 6
def rwB (s : Nat) (r : Row) : Prop := nmo r.1 r.2.1 ∧ r.2.2.length = (spS s).length ∧ ∀ j, j < (spS s).length → ((spS s).getD j (0, 0, 0)).2.1 ≤ r.2.2.getD j 0 ∧ r.2.2.getD j 0 ≤ ((spS s).getD j (0, 0, 0)).2.2
def wfB (C : CTy) : Prop := (∀ s, s < 3 → (sel C s).length ≤ mxS s) ∧ (∀ s, s < 3 → ∀ r, r ∈ sel C s → rwB s r) ∧ (1 ≤ C.2.1.1 ∧ C.2.1.1 ≤ 99 ∧ C.2.1.2 ≤ 9999) ∧ ∀ d, C.2.2 = some d → d.length ≤ 1600 ∧ rtl true d [] = some [1]
theorem sel_CT0 (s : Nat) : sel CT0 s = [] := by
  unfold sel CT0
  split
  · rfl
  · split <;> rfl
theorem wfB_0 : wfB CT0 := by
  refine ⟨fun s _ => ?_, fun s _ r hr => ?_, ⟨?_, ?_, ?_⟩, fun d hd => ?_⟩
  · rw [sel_CT0]
    exact Nat.zero_le _
  · rw [sel_CT0] at hr
    exact absurd hr (by simp)
  · show 1 ≤ 50
    omega
  · show 50 ≤ 99
    omega
  · show 1000 ≤ 9999
    omega
  · exact nomatch hd
theorem wfB.c {C : CTy} (w : wfB C) : wfC C := ⟨fun s hs => w.1 s hs, fun s hs r hr => (w.2.1 s hs r hr).1⟩
theorem wfB.add {C : CTy} {t : Nat} {r : Row} (w : wfB C) (ht : t < 3) (hl : (sel C t).length < mxS t) (hr : rwB t r) : wfB (addR C t r) := by
  refine ⟨fun s hs => ?_, fun s hs r' hr' => ?_, w.2.2.1, w.2.2.2⟩
  · rw [sel_add ht r s hs]
    by_cases y : s = t
    · subst y
      rw [if_pos rfl, List.length_append]
      show (sel C s).length + 1 ≤ _
      omega
    · rw [if_neg y]
      exact w.1 s hs
  · rw [sel_add ht r s hs] at hr'
    by_cases y : s = t
    · subst y
      rw [if_pos rfl] at hr'
      rcases List.mem_append.mp hr' with z | z
      · exact w.2.1 s hs r' z
      · have : r' = r := by simpa using z
        rw [this]
        exact hr
    · rw [if_neg y] at hr'
      exact w.2.1 s hs r' hr'
theorem rwS_b {b : Nat → Nat} {n t : Nat} {C : CTy} {s : PS} {r : Row × PS} (hs : s.1 ≤ n) (e : rwS b n C (spS t) s = .inr r) : rwB t r.1 ∧ r.2.1 ≤ n := by
  unfold rwS at e
  cases hw : nwN b n C (nxt b n s) with
  | inl e0 =>
    rw [hw] at e
    exact nomatch e
  | inr w =>
    rw [hw] at e
    dsimp only at e
    cases hd : rdN b n (spS t) w.2.2 with
    | inl e0 =>
      rw [hd] at e
      exact nomatch e
    | inr l =>
      rw [hd] at e
      cases e
      obtain ⟨a1, a2⟩ := rdN_b _ _ _ hd
      exact ⟨⟨nwN_nm hw, a1, a2⟩, rdN_le _ _ _ (nwN_le (nxt_le hs) hw) hd⟩
theorem rowS_b {b : Nat → Nat} {n t : Nat} {C : CTy} {s : PS} {r : CTy × PS} (w : wfB C) (ht : t < 3) (hs : s.1 ≤ n) (e : rowS b n C t (mxS t) (spS t) s = .inr r) : wfB r.1 ∧ r.2.1 ≤ n := by
  unfold rowS at e
  by_cases y : mxS t ≤ (sel C t).length
  · rw [if_pos y] at e
    exact nomatch e
  · rw [if_neg y] at e
    cases hr : rwS b n C (spS t) s with
    | inl e0 =>
      rw [hr] at e
      exact nomatch e
    | inr q =>
      rw [hr] at e
      cases e
      obtain ⟨a1, a2⟩ := rwS_b hs hr
      exact ⟨w.add ht (by omega) a1, a2⟩
theorem stB_b {b : Nat → Nat} {n : Nat} {C : CTy} {s : PS} {r : CTy × PS} (n16 : n ≤ 1600) (w : wfB C) (hs : s.1 ≤ n) (e : stB b n C s = .inr r) : wfB r.1 ∧ r.2.1 ≤ n := by
  unfold stB at e
  by_cases y0 : wI b n s = 0
  · rw [if_pos y0] at e
    exact rowS_b (t := 0) w (by omega) hs e
  rw [if_neg y0] at e
  by_cases y5 : wI b n s = 5
  · rw [if_pos y5] at e
    exact rowS_b (t := 1) w (by omega) hs e
  rw [if_neg y5] at e
  by_cases y7 : wI b n s = 7
  · rw [if_pos y7] at e
    exact rowS_b (t := 2) w (by omega) hs e
  rw [if_neg y7] at e
  obtain ⟨w1, w2, w3, w4⟩ := w
  by_cases y8 : wI b n s = 8
  · rw [if_pos y8] at e
    cases hC : C.2.2 with
    | some d =>
      rw [hC] at e
      exact nomatch e
    | none =>
      rw [hC] at e
      dsimp only at e
      cases t : tst b n (lvF b n true 6) (tkE b n s.1, (nxt b n s).2.1, []) with
      | inl e0 =>
        rw [t] at e
        exact nomatch e
      | inr s2 =>
        rw [t] at e
        cases e
        have le : tkE b n s.1 ≤ n := (tkE_at b hs s.2.1).2.1
        obtain ⟨a1, a2, d, a3, a4, a5⟩ := tst_g (lvF_g b n true 6) _ _ le t
        have a6 : s2.2.2 = d := a3
        have a7 : d.length + tkE b n s.1 ≤ s2.1 := a4
        refine ⟨⟨w1, w2, w3, fun d' hd => ?_⟩, a2⟩
        have hd' : some s2.2.2 = some d' := hd
        cases hd'
        rw [a6]
        exact ⟨by omega, a5 [] (by decide)⟩
  rw [if_neg y8] at e
  by_cases y9 : wI b n s = 9
  · rw [if_pos y9] at e
    cases t : tBh b n 9 1 99 s with
    | inl e0 =>
      rw [t] at e
      exact nomatch e
    | inr v =>
      rw [t] at e
      cases e
      have vb := tBh_b t
      exact ⟨⟨w1, w2, ⟨vb.1, vb.2, w3.2.2⟩, w4⟩, tBh_le hs t⟩
  rw [if_neg y9] at e
  by_cases y10 : wI b n s = 10
  · rw [if_pos y10] at e
    cases t : tBh b n 10 0 9999 s with
    | inl e0 =>
      rw [t] at e
      exact nomatch e
    | inr v =>
      rw [t] at e
      cases e
      have vb := tBh_b t
      exact ⟨⟨w1, w2, ⟨w3.1, w3.2.1, vb.2⟩, w4⟩, tBh_le hs t⟩
  rw [if_neg y10] at e
  exact nomatch e
theorem stm_b {b : Nat → Nat} {n : Nat} {C : CTy} {s : PS} {r : CTy × PS} (n16 : n ≤ 1600) (w : wfB C) (hs : s.1 ≤ n) (e : stm b n C s = .inr r) : wfB r.1 ∧ r.2.1 ≤ n := by
  unfold stm at e
  cases h1 : stB b n C s with
  | inl e0 =>
    rw [h1] at e
    exact nomatch e
  | inr q =>
    rw [h1] at e
    dsimp only at e
    obtain ⟨a1, a2⟩ := stB_b n16 w hs h1
    cases h2 : wS b n 59 q.2 with
    | inl e0 =>
      rw [h2] at e
      exact nomatch e
    | inr s2 =>
      rw [h2] at e
      cases e
      exact ⟨a1, wS_le a2 h2⟩
theorem cts_b {b : Nat → Nat} {n : Nat} (n16 : n ≤ 1600) : ∀ f m (C : CTy) (s : PS) (r : Nat × CTy), wfB C → s.1 ≤ n → cts b n f m C s = .inr r → wfB r.2 ∧ r.1 ≤ m + f
  | 0, m, C, s, r, w, hs, e => by
    rw [cts] at e
    by_cases y : tkT b n s.1 s.2.1 = 1
    · rw [if_pos y] at e
      cases e
      exact ⟨w, Nat.le_refl _⟩
    · rw [if_neg y] at e
      exact nomatch e
  | f + 1, m, C, s, r, w, hs, e => by
    rw [cts] at e
    by_cases y : tkT b n s.1 s.2.1 = 1
    · rw [if_pos y] at e
      cases e
      exact ⟨w, by show m ≤ m + (f + 1); omega⟩
    · rw [if_neg y] at e
      cases h1 : stm b n C s with
      | inl e0 =>
        rw [h1] at e
        exact nomatch e
      | inr q =>
        rw [h1] at e
        dsimp only at e
        obtain ⟨a1, a2⟩ := stm_b n16 w hs h1
        obtain ⟨b1, b2⟩ := cts_b n16 f (m + 1) q.1 q.2 r a1 a2 e
        exact ⟨b1, by omega⟩
