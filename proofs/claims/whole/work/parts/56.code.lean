/-! codes of a TEST or SUM: what they tell, and of which sort; a code is the model's number -/
def rclip (v : Int) : Int := if 1000000 < v then 1000000 else if v < -1000000 then -1000000 else v
def rdiv (a b : Int) : Int := if b = 0 then 0 else if a.tmod b = 0 then a.tdiv b else if a < 0 ↔ b < 0 then a.tdiv b else a.tdiv b - 1
def rjoin (c : Nat) (a b : Int) : Int :=
  if c = 1 then rclip (a + b) else if c = 2 then rclip (a - b) else if c = 3 then rclip (a * b) else if c = 4 then rdiv a b
  else if c = 5 then (if a < b then a else b) else if c = 6 then (if b < a then a else b)
  else if c = 7 then (if a < b then 1 else 0) else if c = 8 then (if b < a then 1 else 0) else if c = 9 then (if a = b then 1 else 0)
  else if c = 10 then a * b else (if 0 < a + b then 1 else 0)
/-- one code on a pile, the last first; pv: the parts, yv: yields' -/
def rstep (pv : Nat → Int) (yv : Int → Int) (c : Nat) (st : List Int) : List Int :=
  if 1000 ≤ c then ((c - 1000 : Nat) : Int) :: st
  else if c = 60 then (match st with | n :: r => yv n :: r | [] => [])
  else if 40 ≤ c then pv (c - 40) :: st
  else if c = 13 then 1 :: st
  else if c = 12 then (match st with | n :: r => (1 - n) :: r | [] => [])
  else (match st with | b :: a :: r => rjoin c a b :: r | _ => [])
/-- the same for sorts: 0 SUM, 1 TEST; L: in the law -/
def rty (L : Bool) (c : Nat) (st : List Nat) : Option (List Nat) :=
  if 1000 ≤ c then (if c ≤ 10999 then some (0 :: st) else none)
  else if c = 60 then (if L = true then none else (match st with | 0 :: r => some (0 :: r) | _ => none))
  else if 40 ≤ c then (if (L = true ∧ c < 45) ∨ (L = false ∧ c < 48 ∧ (c = 42 ∨ c = 43 ∨ 45 ≤ c)) then some (0 :: st) else none)
  else if c = 13 then some (1 :: st)
  else if c = 12 then (match st with | 1 :: r => some (1 :: r) | _ => none)
  else if 1 ≤ c ∧ c ≤ 6 then (match st with | 0 :: 0 :: r => some (0 :: r) | _ => none)
  else if 7 ≤ c ∧ c ≤ 9 then (match st with | 0 :: 0 :: r => some (1 :: r) | _ => none)
  else if c = 10 ∨ c = 11 then (match st with | 1 :: 1 :: r => some (1 :: r) | _ => none)
  else none
def rtf (L : Bool) (cd : Nat → Nat) (i : Nat) : Nat → List Nat → Option (List Nat)
  | 0, st => some st
  | k + 1, st => (rtf L cd i k st).bind fun s => (rty L (cd (i + k)) s).bind fun s' => if s'.length ≤ 60 then some s' else none
def rev (pv : Nat → Int) (yv : Int → Int) (cd : Nat → Nat) : Nat → List Int
  | 0 => []
  | i + 1 => rstep pv yv (cd i) (rev pv yv cd i)
/-- a value of its sort -/
def vo (t : Nat) (v : Int) : Prop := if t = 1 then v = 0 ∨ v = 1 else -1000000 ≤ v ∧ v ≤ 1000000
def vok : List Nat → List Int → Prop
  | [], [] => True
  | t :: ts, v :: vs => vo t v ∧ vok ts vs
  | _, _ => False
theorem vok_len : ∀ (ts : List Nat) (vs : List Int), vok ts vs → ts.length = vs.length
  | [], [], _ => rfl
  | _ :: ts, _ :: vs, h => by
    simp only [List.length_cons]
    rw [vok_len ts vs h.2]
  | [], _ :: _, h => h.elim
  | _ :: _, [], h => h.elim
/-- the ways a code can be of its sort -/
theorem rty_cases {L : Bool} {c : Nat} {ts ts' : List Nat} (h : rty L c ts = some ts') :
    (1000 ≤ c ∧ c ≤ 10999 ∧ ts' = 0 :: ts) ∨ (c = 60 ∧ L = false ∧ ∃ r, ts = 0 :: r ∧ ts' = 0 :: r) ∨ (40 ≤ c ∧ c < 48 ∧ ((L = true ∧ c < 45) ∨ (L = false ∧ (c = 42 ∨ c = 43 ∨ 45 ≤ c))) ∧ ts' = 0 :: ts) ∨ (c = 13 ∧ ts' = 1 :: ts) ∨ (c = 12 ∧ ∃ r, ts = 1 :: r ∧ ts' = 1 :: r) ∨
    (1 ≤ c ∧ c ≤ 6 ∧ ∃ r, ts = 0 :: 0 :: r ∧ ts' = 0 :: r) ∨ (7 ≤ c ∧ c ≤ 9 ∧ ∃ r, ts = 0 :: 0 :: r ∧ ts' = 1 :: r) ∨ ((c = 10 ∨ c = 11) ∧ ∃ r, ts = 1 :: 1 :: r ∧ ts' = 1 :: r) := by
  unfold rty at h
  by_cases h1 : 1000 ≤ c
  · rw [if_pos h1] at h
    by_cases h2 : c ≤ 10999
    · rw [if_pos h2] at h
      exact Or.inl ⟨h1, h2, (Option.some.inj h).symm⟩
    · rw [if_neg h2] at h
      cases h
  · rw [if_neg h1] at h
    by_cases h2 : c = 60
    · rw [if_pos h2] at h
      right; left
      by_cases h3 : L = true
      · rw [if_pos h3] at h
        cases h
      · rw [if_neg h3] at h
        refine ⟨h2, by simpa using h3, ?_⟩
        match ts, h with
        | 0 :: r, h => exact ⟨r, rfl, (Option.some.inj h).symm⟩
        | (n + 1) :: r, h => cases h
        | [], h => cases h
    · rw [if_neg h2] at h
      by_cases h3 : 40 ≤ c
      · rw [if_pos h3] at h
        right; right; left
        by_cases h4 : (L = true ∧ c < 45) ∨ (L = false ∧ c < 48 ∧ (c = 42 ∨ c = 43 ∨ 45 ≤ c))
        · rw [if_pos h4] at h
          refine ⟨h3, ?_, ?_, (Option.some.inj h).symm⟩
          · rcases h4 with h4 | h4 <;> omega
          · rcases h4 with h4 | h4
            · exact Or.inl h4
            · exact Or.inr ⟨h4.1, h4.2.2⟩
        · rw [if_neg h4] at h
          cases h
      · rw [if_neg h3] at h
        right; right; right
        by_cases h4 : c = 13
        · rw [if_pos h4] at h
          exact Or.inl ⟨h4, (Option.some.inj h).symm⟩
        · rw [if_neg h4] at h
          right
          by_cases h5 : c = 12
          · rw [if_pos h5] at h
            left
            refine ⟨h5, ?_⟩
            match ts, h with
            | 1 :: r, h => exact ⟨r, rfl, (Option.some.inj h).symm⟩
            | 0 :: r, h => cases h
            | (n + 2) :: r, h => cases h
            | [], h => cases h
          · rw [if_neg h5] at h
            right
            by_cases h6 : 1 ≤ c ∧ c ≤ 6
            · rw [if_pos h6] at h
              left
              refine ⟨h6.1, h6.2, ?_⟩
              match ts, h with
              | 0 :: 0 :: r, h => exact ⟨r, rfl, (Option.some.inj h).symm⟩
              | 0 :: (n + 1) :: r, h => cases h
              | [0], h => cases h
              | (n + 1) :: r, h => cases h
              | [], h => cases h
            · rw [if_neg h6] at h
              right
              by_cases h7 : 7 ≤ c ∧ c ≤ 9
              · rw [if_pos h7] at h
                left
                refine ⟨h7.1, h7.2, ?_⟩
                match ts, h with
                | 0 :: 0 :: r, h => exact ⟨r, rfl, (Option.some.inj h).symm⟩
                | 0 :: (n + 1) :: r, h => cases h
                | [0], h => cases h
                | (n + 1) :: r, h => cases h
                | [], h => cases h
              · rw [if_neg h7] at h
                right
                by_cases h8 : c = 10 ∨ c = 11
                · rw [if_pos h8] at h
                  refine ⟨h8, ?_⟩
                  match ts, h with
                  | 1 :: 1 :: r, h => exact ⟨r, rfl, (Option.some.inj h).symm⟩
                  | 1 :: 0 :: r, h => cases h
                  | 1 :: (n + 2) :: r, h => cases h
                  | [1], h => cases h
                  | 0 :: r, h => cases h
                  | (n + 2) :: r, h => cases h
                  | [], h => cases h
                · rw [if_neg h8] at h
                  cases h
theorem rclip_ok (v : Int) : -1000000 ≤ rclip v ∧ rclip v ≤ 1000000 := by
  unfold rclip
  by_cases h1 : 1000000 < v
  · rw [if_pos h1]; omega
  · rw [if_neg h1]
    by_cases h2 : v < -1000000
    · rw [if_pos h2]; omega
    · rw [if_neg h2]; omega
theorem tdiv_b {a b : Int} (ha : -1000000 ≤ a ∧ a ≤ 1000000) : -1000000 ≤ a.tdiv b ∧ a.tdiv b ≤ 1000000 := by
  have h : (a.tdiv b).natAbs = a.natAbs / b.natAbs := Int.natAbs_tdiv a b
  have h2 : a.natAbs / b.natAbs ≤ a.natAbs := Nat.div_le_self _ _
  rw [← h] at h2
  omega
theorem rdiv_ok {a b : Int} (ha : -1000000 ≤ a ∧ a ≤ 1000000) : -1000000 ≤ rdiv a b ∧ rdiv a b ≤ 1000000 := by
  have t := tdiv_b (b := b) ha
  unfold rdiv
  by_cases h1 : b = 0
  · rw [if_pos h1]; omega
  · rw [if_neg h1]
    by_cases h2 : a.tmod b = 0
    · rw [if_pos h2]; exact t
    · rw [if_neg h2]
      by_cases h3 : a < 0 ↔ b < 0
      · rw [if_pos h3]; exact t
      · rw [if_neg h3]
        have h : (a.tdiv b).natAbs = a.natAbs / b.natAbs := Int.natAbs_tdiv a b
        have hb : 2 ≤ b.natAbs := by
          refine Classical.byContradiction fun y => h2 ?_
          have e : b = 1 ∨ b = -1 := by omega
          rcases e with rfl | rfl
          · exact Int.tmod_one a
          · rw [Int.tmod_neg]
            exact Int.tmod_one a
        have h4 : a.natAbs / b.natAbs ≤ a.natAbs / 2 := Nat.div_le_div_left hb (by omega)
        rw [← h] at h4
        omega
theorem rj1 (a b : Int) : rjoin 1 a b = (rclip (a + b)) := by
  unfold rjoin
  rw [if_pos rfl]
theorem rj2 (a b : Int) : rjoin 2 a b = (rclip (a - b)) := by
  unfold rjoin
  rw [if_neg (show ¬ (2 = 1) by decide), if_pos rfl]
theorem rj3 (a b : Int) : rjoin 3 a b = (rclip (a * b)) := by
  unfold rjoin
  rw [if_neg (show ¬ (3 = 1) by decide), if_neg (show ¬ (3 = 2) by decide), if_pos rfl]
theorem rj4 (a b : Int) : rjoin 4 a b = (rdiv a b) := by
  unfold rjoin
  rw [if_neg (show ¬ (4 = 1) by decide), if_neg (show ¬ (4 = 2) by decide), if_neg (show ¬ (4 = 3) by decide), if_pos rfl]
theorem rj5 (a b : Int) : rjoin 5 a b = (if a < b then a else b) := by
  unfold rjoin
  rw [if_neg (show ¬ (5 = 1) by decide), if_neg (show ¬ (5 = 2) by decide), if_neg (show ¬ (5 = 3) by decide), if_neg (show ¬ (5 = 4) by decide), if_pos rfl]
theorem rj6 (a b : Int) : rjoin 6 a b = (if b < a then a else b) := by
  unfold rjoin
  rw [if_neg (show ¬ (6 = 1) by decide), if_neg (show ¬ (6 = 2) by decide), if_neg (show ¬ (6 = 3) by decide), if_neg (show ¬ (6 = 4) by decide), if_neg (show ¬ (6 = 5) by decide), if_pos rfl]
theorem rj7 (a b : Int) : rjoin 7 a b = (if a < b then 1 else 0) := by
  unfold rjoin
  rw [if_neg (show ¬ (7 = 1) by decide), if_neg (show ¬ (7 = 2) by decide), if_neg (show ¬ (7 = 3) by decide), if_neg (show ¬ (7 = 4) by decide), if_neg (show ¬ (7 = 5) by decide), if_neg (show ¬ (7 = 6) by decide), if_pos rfl]
theorem rj8 (a b : Int) : rjoin 8 a b = (if b < a then 1 else 0) := by
  unfold rjoin
  rw [if_neg (show ¬ (8 = 1) by decide), if_neg (show ¬ (8 = 2) by decide), if_neg (show ¬ (8 = 3) by decide), if_neg (show ¬ (8 = 4) by decide), if_neg (show ¬ (8 = 5) by decide), if_neg (show ¬ (8 = 6) by decide), if_neg (show ¬ (8 = 7) by decide), if_pos rfl]
theorem rj9 (a b : Int) : rjoin 9 a b = (if a = b then 1 else 0) := by
  unfold rjoin
  rw [if_neg (show ¬ (9 = 1) by decide), if_neg (show ¬ (9 = 2) by decide), if_neg (show ¬ (9 = 3) by decide), if_neg (show ¬ (9 = 4) by decide), if_neg (show ¬ (9 = 5) by decide), if_neg (show ¬ (9 = 6) by decide), if_neg (show ¬ (9 = 7) by decide), if_neg (show ¬ (9 = 8) by decide), if_pos rfl]
theorem rj10 (a b : Int) : rjoin 10 a b = (a * b) := by
  unfold rjoin
  rw [if_neg (show ¬ (10 = 1) by decide), if_neg (show ¬ (10 = 2) by decide), if_neg (show ¬ (10 = 3) by decide), if_neg (show ¬ (10 = 4) by decide), if_neg (show ¬ (10 = 5) by decide), if_neg (show ¬ (10 = 6) by decide), if_neg (show ¬ (10 = 7) by decide), if_neg (show ¬ (10 = 8) by decide), if_neg (show ¬ (10 = 9) by decide), if_pos rfl]
theorem rj11 (a b : Int) : rjoin 11 a b = (if 0 < a + b then 1 else 0) := by
  unfold rjoin
  rw [if_neg (show ¬ (11 = 1) by decide), if_neg (show ¬ (11 = 2) by decide), if_neg (show ¬ (11 = 3) by decide), if_neg (show ¬ (11 = 4) by decide), if_neg (show ¬ (11 = 5) by decide), if_neg (show ¬ (11 = 6) by decide), if_neg (show ¬ (11 = 7) by decide), if_neg (show ¬ (11 = 8) by decide), if_neg (show ¬ (11 = 9) by decide), if_neg (show ¬ (11 = 10) by decide)]
theorem rjoin_ok {c : Nat} {a b : Int} (hc : 1 ≤ c ∧ c ≤ 6) (ha : -1000000 ≤ a ∧ a ≤ 1000000) (hb : -1000000 ≤ b ∧ b ≤ 1000000) : -1000000 ≤ rjoin c a b ∧ rjoin c a b ≤ 1000000 := by
  have e : c = 1 ∨ c = 2 ∨ c = 3 ∨ c = 4 ∨ c = 5 ∨ c = 6 := by omega
  rcases e with rfl | rfl | rfl | rfl | rfl | rfl
  · rw [rj1]; exact rclip_ok _
  · rw [rj2]; exact rclip_ok _
  · rw [rj3]; exact rclip_ok _
  · rw [rj4]; exact rdiv_ok ha
  · rw [rj5]
    by_cases z : a < b
    · rw [if_pos z]; exact ha
    · rw [if_neg z]; exact hb
  · rw [rj6]
    by_cases z : b < a
    · rw [if_pos z]; exact ha
    · rw [if_neg z]; exact hb
theorem rjoin_b {c : Nat} {a b : Int} (hc : 7 ≤ c ∧ c ≤ 9) : rjoin c a b = 0 ∨ rjoin c a b = 1 := by
  have e : c = 7 ∨ c = 8 ∨ c = 9 := by omega
  rcases e with rfl | rfl | rfl
  · show (if a < b then (1 : Int) else 0) = 0 ∨ (if a < b then (1 : Int) else 0) = 1
    by_cases z : a < b
    · rw [if_pos z]; exact Or.inr rfl
    · rw [if_neg z]; exact Or.inl rfl
  · show (if b < a then (1 : Int) else 0) = 0 ∨ (if b < a then (1 : Int) else 0) = 1
    by_cases z : b < a
    · rw [if_pos z]; exact Or.inr rfl
    · rw [if_neg z]; exact Or.inl rfl
  · show (if a = b then (1 : Int) else 0) = 0 ∨ (if a = b then (1 : Int) else 0) = 1
    by_cases z : a = b
    · rw [if_pos z]; exact Or.inr rfl
    · rw [if_neg z]; exact Or.inl rfl
theorem rjoin_c {c : Nat} {a b : Int} (hc : c = 10 ∨ c = 11) (ha : a = 0 ∨ a = 1) (hb : b = 0 ∨ b = 1) : rjoin c a b = 0 ∨ rjoin c a b = 1 := by
  rcases hc with rfl | rfl <;> rcases ha with rfl | rfl <;> rcases hb with rfl | rfl <;> decide
/-- the parts of a law, of a question -/
def pal (L : Bool) (k : Nat) : Prop := (L = true ∧ k < 5) ∨ (L = false ∧ k < 8 ∧ (k = 2 ∨ k = 3 ∨ 5 ≤ k))
theorem rstep_ok {L : Bool} {pv : Nat → Int} {yv : Int → Int} (hp : ∀ k, pal L k → -1000000 ≤ pv k ∧ pv k ≤ 1000000) (hy : ∀ n, -1000000 ≤ yv n ∧ yv n ≤ 1000000) {c : Nat} {ts ts' : List Nat} {vs : List Int} (h : rty L c ts = some ts') (hv : vok ts vs) : vok ts' (rstep pv yv c vs) := by
  rcases rty_cases h with ⟨h1, h2, rfl⟩ | ⟨rfl, h2, r, rfl, rfl⟩ | ⟨h1, h2, h3, rfl⟩ | ⟨rfl, rfl⟩ | ⟨rfl, r, rfl, rfl⟩ | ⟨h1, h2, r, rfl, rfl⟩ | ⟨h1, h2, r, rfl, rfl⟩ | ⟨h1, r, rfl, rfl⟩
  · unfold rstep
    rw [if_pos h1]
    refine ⟨?_, hv⟩
    show -1000000 ≤ ((c - 1000 : Nat) : Int) ∧ ((c - 1000 : Nat) : Int) ≤ 1000000
    omega
  · match vs, hv with
    | n :: vs, hv => exact ⟨hy n, hv.2⟩
  · unfold rstep
    rw [if_neg (by omega), if_neg (by omega), if_pos h1]
    refine ⟨hp (c - 40) ?_, hv⟩
    unfold pal
    rcases h3 with h3 | h3
    · exact Or.inl ⟨h3.1, by omega⟩
    · exact Or.inr ⟨h3.1, by omega, by omega⟩
  · exact ⟨Or.inr rfl, hv⟩
  · match vs, hv with
    | n :: vs, hv =>
      have h0 : n = 0 ∨ n = 1 := hv.1
      refine ⟨?_, hv.2⟩
      show 1 - n = 0 ∨ 1 - n = 1
      omega
  · match vs, hv with
    | b :: a :: vs, hv =>
      unfold rstep
      rw [if_neg (by omega), if_neg (by omega), if_neg (by omega), if_neg (by omega), if_neg (by omega)]
      exact ⟨rjoin_ok ⟨h1, h2⟩ hv.2.1 hv.1, hv.2.2⟩
  · match vs, hv with
    | b :: a :: vs, hv =>
      unfold rstep
      rw [if_neg (by omega), if_neg (by omega), if_neg (by omega), if_neg (by omega), if_neg (by omega)]
      exact ⟨rjoin_b ⟨h1, h2⟩, hv.2.2⟩
  · match vs, hv with
    | b :: a :: vs, hv =>
      unfold rstep
      rw [if_neg (by omega), if_neg (by omega), if_neg (by omega), if_neg (by omega), if_neg (by omega)]
      exact ⟨rjoin_c h1 hv.2.1 hv.1, hv.2.2⟩
theorem rtf_step {L : Bool} {cd : Nat → Nat} {i k : Nat} {st s' : List Nat} (h : rtf L cd i (k + 1) st = some s') : ∃ s, rtf L cd i k st = some s ∧ rty L (cd (i + k)) s = some s' ∧ s'.length ≤ 60 := by
  unfold rtf at h
  match h1 : rtf L cd i k st, h with
  | some s, h =>
    have h : (rty L (cd (i + k)) s).bind (fun s' => if s'.length ≤ 60 then some s' else none) = some s' := h
    match h2 : rty L (cd (i + k)) s, h with
    | some s2, h =>
      have h : (if s2.length ≤ 60 then some s2 else none) = some s' := h
      by_cases z : s2.length ≤ 60
      · rw [if_pos z] at h
        cases h
        exact ⟨s, rfl, h2, z⟩
      · rw [if_neg z] at h
        cases h
theorem rtf_pre {L : Bool} {cd : Nat → Nat} {i : Nat} {st : List Nat} : ∀ (n : Nat) {s : List Nat}, rtf L cd i n st = some s → ∀ k, k ≤ n → ∃ s', rtf L cd i k st = some s'
  | 0, s, h, k, hk => by
    rw [show k = 0 by omega]
    exact ⟨s, h⟩
  | n + 1, s, h, k, hk => by
    by_cases e : k = n + 1
    · rw [e]; exact ⟨s, h⟩
    · obtain ⟨s1, h1, -⟩ := rtf_step h
      exact rtf_pre n h1 k (by omega)
theorem rev_ok {L : Bool} {pv : Nat → Int} {yv : Int → Int} {cd : Nat → Nat} (hp : ∀ k, pal L k → -1000000 ≤ pv k ∧ pv k ≤ 1000000) (hy : ∀ n, -1000000 ≤ yv n ∧ yv n ≤ 1000000) : ∀ (n : Nat) {s : List Nat}, rtf L cd 0 n [] = some s → vok s (rev pv yv cd n)
  | 0, s, h => by
    cases h
    exact trivial
  | n + 1, s, h => by
    obtain ⟨s1, h1, h2, -⟩ := rtf_step h
    rw [Nat.zero_add] at h2
    exact rstep_ok hp hy h2 (rev_ok hp hy n h1)
