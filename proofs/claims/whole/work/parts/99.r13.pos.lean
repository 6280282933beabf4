/-! places within the text -/
theorem nxt_le {b : Nat → Nat} {n : Nat} {s : PS} (h : s.1 ≤ n) : (nxt b n s).1 ≤ n := (tkE_at b h s.2.1).2.1
theorem wS_le {b : Nat → Nat} {n c : Nat} {s s' : PS} (h : s.1 ≤ n) (e : wS b n c s = .inr s') : s'.1 ≤ n := by
  unfold wS at e
  split at e
  · cases e
    exact nxt_le h
  · exact nomatch e
theorem tBh_le {b : Nat → Nat} {n j lo hi : Nat} {s : PS} {v : Nat × PS} (h : s.1 ≤ n) (e : tBh b n j lo hi s = .inr v) : v.2.1 ≤ n := by
  unfold tBh at e
  cases hw : wW b n j s with
  | inl e0 =>
    rw [hw] at e
    exact nomatch e
  | inr s1 =>
    rw [hw] at e
    have e1 : wNum b n lo hi s1 = .inr v := e
    have h1 : s1.1 ≤ n := by
      unfold wW at hw
      split at hw
      · cases hw
        exact nxt_le h
      · exact nomatch hw
    rw [(wNum_nx e1).1]
    exact nxt_le h1
theorem rdN_le {b : Nat → Nat} {n : Nat} : ∀ (sp : List (Nat × Nat × Nat)) (s : PS) (l : List Nat × PS), s.1 ≤ n → rdN b n sp s = .inr l → l.2.1 ≤ n
  | [], s, l, h, e => by
    cases e
    exact h
  | x :: r, s, l, h, e => by
    unfold rdN at e
    cases t : tBh b n x.1 x.2.1 x.2.2 s with
    | inl e0 =>
      rw [t] at e
      exact nomatch e
    | inr v =>
      rw [t] at e
      dsimp only at e
      cases u : rdN b n r v.2 with
      | inl e0 =>
        rw [u] at e
        exact nomatch e
      | inr q =>
        rw [u] at e
        cases e
        exact rdN_le r v.2 q (tBh_le h t) u
theorem nwN_le {b : Nat → Nat} {n : Nat} {C : CTy} {s : PS} {w : Nat × Nat × PS} (h : s.1 ≤ n) (e : nwN b n C s = .inr w) : w.2.2.1 ≤ n := by
  unfold nwN at e
  cases hq : wNm b n s with
  | inl e0 =>
    rw [hq] at e
    exact nomatch e
  | inr w' =>
    rw [hq] at e
    dsimp only at e
    by_cases z : kno C w'.1
    · rw [if_pos z] at e
      exact nomatch e
    · rw [if_neg z] at e
      cases e
      rw [(wNm_ok hq).2.2.1]
      exact nxt_le h
