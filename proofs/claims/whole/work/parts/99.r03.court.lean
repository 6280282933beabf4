/-! the text of a COURT, as the document has it; whether the class knows a name -/
abbrev Row : Type := Nat × Nat × List Nat
/-- kinds, tests, marks; first, price; the rule -/
abbrev CTy : Type := (List Row × List Row × List Row) × (Nat × Nat) × Option (List Nat)
def sel (C : CTy) (s : Nat) : List Row := if s = 0 then C.1.1 else if s = 1 then C.1.2.1 else C.1.2.2
def kno (C : CTy) (v : Nat) : Prop := ∃ s, s < 3 ∧ ∃ r, r ∈ sel C s ∧ r.1 = v
def CT0 : CTy := (([], [], []), (50, 1000), none)
def tBh (b : Nat → Nat) (n j lo hi : Nat) (s : PS) : (Nat × Nat) ⊕ (Nat × PS) := match wW b n j s with
  | .inl e => .inl e
  | .inr s1 => wNum b n lo hi s1
def rdN (b : Nat → Nat) (n : Nat) : List (Nat × Nat × Nat) → PS → (Nat × Nat) ⊕ (List Nat × PS)
  | [], s => .inr ([], s)
  | x :: r, s => match tBh b n x.1 x.2.1 x.2.2 s with
    | .inl e => .inl e
    | .inr v => match rdN b n r v.2 with
      | .inl e => .inl e
      | .inr l => .inr (v.1 :: l.1, l.2)

noncomputable def nwN (b : Nat → Nat) (n : Nat) (C : CTy) (s : PS) : (Nat × Nat) ⊕ (Nat × Nat × PS) := match wNm b n s with
  | .inl e => .inl e
  | .inr w => @ite ((Nat × Nat) ⊕ (Nat × Nat × PS)) (kno C w.1) (Classical.propDecidable _) (.inl (3, blE b n s.1)) (.inr w)
noncomputable def rwS (b : Nat → Nat) (n : Nat) (C : CTy) (sp : List (Nat × Nat × Nat)) (s : PS) : (Nat × Nat) ⊕ (Row × PS) := match nwN b n C (nxt b n s) with
  | .inl e => .inl e
  | .inr w => match rdN b n sp w.2.2 with
    | .inl e => .inl e
    | .inr l => .inr ((w.1, w.2.1, l.1), l.2)
def addR (C : CTy) (s : Nat) (r : Row) : CTy := ((if s = 0 then C.1.1 ++ [r] else C.1.1, if s = 1 then C.1.2.1 ++ [r] else C.1.2.1, if s = 2 then C.1.2.2 ++ [r] else C.1.2.2), C.2)
def spK : List (Nat × Nat × Nat) := [(1, 0, 99), (2, 0, 99), (3, 0, 9), (4, 0, 9)]
def spT : List (Nat × Nat × Nat) := [(6, 0, 99)]
def spM : List (Nat × Nat × Nat) := [(3, 1, 9), (4, 1, 9)]
noncomputable def rowS (b : Nat → Nat) (n : Nat) (C : CTy) (t mx : Nat) (sp : List (Nat × Nat × Nat)) (s : PS) : (Nat × Nat) ⊕ (CTy × PS) :=
  if mx ≤ (sel C t).length then .inl (5, blE b n s.1) else match rwS b n C sp s with
  | .inl e => .inl e
  | .inr r => .inr (addR C t r.1, r.2)
noncomputable def stB (b : Nat → Nat) (n : Nat) (C : CTy) (s : PS) : (Nat × Nat) ⊕ (CTy × PS) :=
  if wI b n s = 0 then rowS b n C 0 6 spK s
  else if wI b n s = 5 then rowS b n C 1 6 spT s
  else if wI b n s = 7 then rowS b n C 2 5 spM s
  else if wI b n s = 8 then (match C.2.2 with
    | some _ => .inl (5, blE b n s.1)
    | none => match tst b n (lvF b n true 6) (tkE b n s.1, (nxt b n s).2.1, []) with
      | .inl e => .inl e
      | .inr s2 => .inr ((C.1, C.2.1, some s2.2.2), s2))
  else if wI b n s = 9 then (match tBh b n 9 1 99 s with
    | .inl e => .inl e
    | .inr v => .inr ((C.1, (v.1, C.2.1.2), C.2.2), v.2))
  else if wI b n s = 10 then (match tBh b n 10 0 9999 s with
    | .inl e => .inl e
    | .inr v => .inr ((C.1, (C.2.1.1, v.1), C.2.2), v.2))
  else .inl (1, blE b n s.1)
noncomputable def stm (b : Nat → Nat) (n : Nat) (C : CTy) (s : PS) : (Nat × Nat) ⊕ (CTy × PS) := match stB b n C s with
  | .inl e => .inl e
  | .inr r => match wS b n 59 r.2 with
    | .inl e => .inl e
    | .inr s2 => .inr (r.1, s2)
noncomputable def cts (b : Nat → Nat) (n : Nat) : Nat → Nat → CTy → PS → (Nat × Nat) ⊕ (Nat × CTy)
  | 0, m, C, s => if tkT b n s.1 s.2.1 = 1 then .inr (m, C) else .inl (5, blE b n s.1)
  | f + 1, m, C, s => if tkT b n s.1 s.2.1 = 1 then .inr (m, C) else match stm b n C s with
    | .inl e => .inl e
    | .inr r => cts b n f (m + 1) r.1 r.2
/-- the class looks for a name -/
def nmX (h : KH) (c : Nat) (N : Nat → Nat) (s k : Nat) : Int32 := if k < N s then kI h (c + (2 + 7 * s) + k) 0 else -1
theorem x_nameAt {h : KH} (hr : kRefs h) {c : Nat} (hc : ctc c) {N : Nat → Nat} (hn : ∀ s, s < 3 → kI h c (3 + s) = Int32.ofNat (N s) ∧ N s ≤ if s = 2 then 5 else 6) {s k : Nat} (hs : s < 3) (hk : k < 6) : f_X2_nameOf h c (Int32.ofNat s) (Int32.ofNat k) = some (nmX h c N s k) := by
  obtain ⟨a, b⟩ := hn s hs
  have b6 : N s ≤ 6 := by split at b <;> omega
  unfold nmX
  by_cases y : k < N s
  · rw [if_pos y]
    exact x_nameOf_y hr hc hs a b y
  · rw [if_neg y]
    exact x_nameOf_n hr hc hs a b6 (by rw [n32_toInt (by omega)]; omega)
theorem x_hasName {h : KH} (hr : kRefs h) {c : Nat} (hc : ctc c) {N : Nat → Nat} (hn : ∀ s, s < 3 → kI h c (3 + s) = Int32.ofNat (N s) ∧ N s ≤ if s = 2 then 5 else 6) (v : Int32) : ∃ r, f_X2_hasName h c v = some r ∧ ((r = 0 ∧ ∀ s, s < 3 → ∀ k, k < 6 → nmX h c N s k ≠ v) ∨ (r = 1 ∧ ∃ s, s < 3 ∧ ∃ k, k < 6 ∧ nmX h c N s k = v)) := by
  have inner : ∀ s, s < 3 → ∃ r, kloop (f_X2_hasName_l9 h c v (Int32.ofNat s)) KF (0 : Int32) = some r ∧ ((r = .inl () ∧ ∀ k, k < 6 → nmX h c N s k ≠ v) ∨ (r = .inr (.inr (.inr 1)) ∧ ∃ k, k < 6 ∧ nmX h c N s k = v)) := fun s hs => by
    refine kloop_KF (body := f_X2_hasName_l9 h c v (Int32.ofNat s)) (fun m x => ∃ k, k ≤ 6 ∧ m = 6 - k ∧ x = Int32.ofNat k ∧ ∀ j, j < k → nmX h c N s j ≠ v) _ (fun m x hP => ?_) (n := 6 - 0) (by omega) ⟨0, by omega, rfl, rfl, fun j hj => absurd hj (Nat.not_lt_zero _)⟩
    obtain ⟨k, k6, hm, rfl, hj⟩ := hP
    unfold f_X2_hasName_l9
    by_cases y : 6 ≤ k
    · exact Or.inl ⟨_, by rw [if_pos (by rw [n32_ler (by omega) (by omega)]; exact y)], Or.inl ⟨rfl, fun j hj6 => hj j (by omega)⟩⟩
    · rw [if_neg (by rw [n32_ler (by omega) (by omega)]; exact y), if_pos (ct_kk hc), x_nameAt hr hc hn hs (by omega), kb_s]
      by_cases z : nmX h c N s k = v
      · exact Or.inl ⟨.inr (.inr (.inr 1)), by rw [if_pos z]; rfl, Or.inr ⟨rfl, k, by omega, z⟩⟩
      · refine Or.inr ⟨6 - (k + 1), Int32.ofNat (k + 1), by omega, by rw [if_neg z, kl_e, n32_addl], k + 1, by omega, rfl, rfl, fun j hj6 => ?_⟩
        by_cases u : j = k
        · rw [u]
          exact z
        · exact hj j (by omega)
  obtain ⟨r, er, hr'⟩ : ∃ r, kloop (f_X2_hasName_l2 h c v) KF (0 : Int32) = some r ∧ ((r = .inl () ∧ ∀ s, s < 3 → ∀ k, k < 6 → nmX h c N s k ≠ v) ∨ (r = .inr 1 ∧ ∃ s, s < 3 ∧ ∃ k, k < 6 ∧ nmX h c N s k = v)) := by
    refine kloop_KF (body := f_X2_hasName_l2 h c v) (fun m x => ∃ s, s ≤ 3 ∧ m = 3 - s ∧ x = Int32.ofNat s ∧ ∀ j, j < s → ∀ k, k < 6 → nmX h c N j k ≠ v) _ (fun m x hP => ?_) (n := 3 - 0) (by omega) ⟨0, by omega, rfl, rfl, fun j hj => absurd hj (Nat.not_lt_zero _)⟩
    obtain ⟨s, s3, hm, rfl, hj⟩ := hP
    unfold f_X2_hasName_l2
    by_cases y : 3 ≤ s
    · exact Or.inl ⟨_, by rw [if_pos (by rw [n32_ler (by omega) (by omega)]; exact y)], Or.inl ⟨rfl, fun j hj6 => hj j (by omega)⟩⟩
    · obtain ⟨r, e, hh⟩ := inner s (by omega)
      rw [if_neg (by rw [n32_ler (by omega) (by omega)]; exact y), e, kb_s]
      rcases hh with ⟨rfl, h1⟩ | ⟨rfl, k, h1, h2⟩
      · refine Or.inr ⟨3 - (s + 1), Int32.ofNat (s + 1), by omega, by rw [ksum_l, kl_e, n32_addl], s + 1, by omega, rfl, rfl, fun j hj6 => ?_⟩
        by_cases u : j = s
        · rw [u]
          exact h1
        · exact hj j (by omega)
      · exact Or.inl ⟨.inr 1, by rw [ksum_r], Or.inr ⟨rfl, s, by omega, k, h1, h2⟩⟩
  unfold f_X2_hasName
  rw [er, kb_s]
  rcases hr' with ⟨rfl, h1⟩ | ⟨rfl, h1⟩
  · exact ⟨0, by rw [ksum_l], Or.inl ⟨rfl, h1⟩⟩
  · exact ⟨1, by rw [ksum_r], Or.inr ⟨rfl, h1⟩⟩
theorem nmo_inj {v n v' n' : Nat} (a : nmo v n) (b : nmo v' n') : v * 27 ^ (6 - n) = v' * 27 ^ (6 - n') ↔ v = v' := by
  have key : ∀ {v n v' n' : Nat}, nmo v n → nmo v' n' → n < n' → v * 27 ^ (6 - n) = v' * 27 ^ (6 - n') → False := fun {v n v' n'} a b hl e => by
    obtain ⟨a1, a2, a3, a4, a5⟩ := a
    obtain ⟨b1, b2, b3, b4, b5⟩ := b
    have p : 27 ^ (6 - n) = 27 ^ (n' - n) * 27 ^ (6 - n') := by rw [← Nat.pow_add]; congr 1; omega
    rw [p, ← Nat.mul_assoc] at e
    have e2 := Nat.eq_of_mul_eq_mul_right (Nat.pow_pos (by omega)) e
    have q : 27 ^ (n' - n) = 27 ^ (n' - n - 1) * 27 := by rw [← Nat.pow_succ]; congr 1; omega
    rw [q, ← Nat.mul_assoc] at e2
    apply b5
    rw [← e2]
    exact Nat.mul_mod_left _ _
  constructor
  · intro e
    rcases Nat.lt_trichotomy n n' with u | u | u
    · exact (key a b u e).elim
    · subst u
      exact Nat.eq_of_mul_eq_mul_right (Nat.pow_pos (by omega)) e
    · exact (key b a u e.symm).elim
  · intro e
    subst e
    have hn : n = n' := by
      obtain ⟨a1, a2, a3, a4, a5⟩ := a
      obtain ⟨b1, b2, b3, b4, b5⟩ := b
      rcases Nat.lt_trichotomy n n' with u | u | u
      · have := Nat.pow_le_pow_right (n := 27) (by omega) (show n ≤ n' - 1 by omega)
        omega
      · exact u
      · have := Nat.pow_le_pow_right (n := 27) (by omega) (show n' ≤ n - 1 by omega)
        omega
    rw [hn]
