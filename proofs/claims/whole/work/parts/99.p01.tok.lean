/-! the words, numbers and signs of a text, and the little language, as the document has them -/
def skN (c : Nat → Bool) (n : Nat) : Nat → Nat → Nat
  | 0, p => p
  | f + 1, p => if p < n ∧ c p = true then skN c n f (p + 1) else p
theorem skN_at {c : Nat → Bool} {n : Nat} : ∀ f p, n ≤ p + f → (p ≤ skN c n f p ∧ (p ≤ n → skN c n f p ≤ n)) ∧ (∀ i, p ≤ i → i < skN c n f p → i < n ∧ c i = true) ∧ ¬ (skN c n f p < n ∧ c (skN c n f p) = true)
  | 0, p, h => by
    rw [skN]
    exact ⟨⟨Nat.le_refl _, fun z => z⟩, fun i a b => absurd b (by omega), fun z => by have := z.1; omega⟩
  | f + 1, p, h => by
    rw [skN]
    by_cases y : p < n ∧ c p = true
    · rw [if_pos y]
      obtain ⟨⟨a1, a2⟩, a3, a4⟩ := skN_at (c := c) (n := n) f (p + 1) (by omega)
      refine ⟨⟨by omega, fun z => a2 (by have := y.1; omega)⟩, fun i b1 b2 => ?_, a4⟩
      by_cases z : i = p
      · rw [z]
        exact y
      · exact a3 i (by omega) b2
    · rw [if_neg y]
      exact ⟨⟨Nat.le_refl _, fun z => z⟩, fun i a b => absurd b (by omega), y⟩
def isBl (x : Nat) : Bool := decide (x = 10 ∨ x = 32)
def isLt (x : Nat) : Bool := decide (97 ≤ x ∧ x ≤ 122)
def isDg (x : Nat) : Bool := decide (48 ≤ x ∧ x ≤ 57)
def blE (b : Nat → Nat) (n p : Nat) : Nat := skN (fun i => isBl (b i)) n n p
def wdE (b : Nat → Nat) (n p : Nat) : Nat := skN (fun i => isLt (b i)) n n p
def dgE (b : Nat → Nat) (n p : Nat) : Nat := skN (fun i => isDg (b i)) n n p
/-- the first six letters as one number -/
def wvN (b : Nat → Nat) (s : Nat) : Nat → Nat
  | 0 => 0
  | k + 1 => if k < 6 then wvN b s k * 27 + (b (s + k) - 96) else wvN b s k
def flN (v k : Nat) : Nat := if k ≤ 6 then v * 27 ^ (6 - k) else 0
/-- the first four digits as a number -/
def nvN (b : Nat → Nat) (s : Nat) : Nat → Nat
  | 0 => 0
  | k + 1 => if k < 4 then nvN b s k * 10 + (b (s + k) - 48) else nvN b s k
def tkT (b : Nat → Nat) (n p : Nat) (g : Bool) : Nat := if n ≤ blE b n p then 1 else if isLt (b (blE b n p)) = true then (if g = true ∧ blE b n p = p then 5 else 2) else if isDg (b (blE b n p)) = true then (if g = true ∧ blE b n p = p then 5 else 3) else 4
def tkE (b : Nat → Nat) (n p : Nat) : Nat := if n ≤ blE b n p then blE b n p else if isLt (b (blE b n p)) = true then wdE b n (blE b n p) else if isDg (b (blE b n p)) = true then dgE b n (blE b n p) else blE b n p + 1
def tkZ (b : Nat → Nat) (n p : Nat) : Nat := if n ≤ blE b n p then 0 else if isLt (b (blE b n p)) = true then wdE b n (blE b n p) - blE b n p else if isDg (b (blE b n p)) = true then dgE b n (blE b n p) - blE b n p else 0
def tkV (b : Nat → Nat) (n p : Nat) : Nat := if n ≤ blE b n p then 0 else if isLt (b (blE b n p)) = true then flN (wvN b (blE b n p) (tkZ b n p)) (tkZ b n p) else if isDg (b (blE b n p)) = true then nvN b (blE b n p) (tkZ b n p) else b (blE b n p)
theorem blE_at (b : Nat → Nat) {n p : Nat} (h : p ≤ n) : p ≤ blE b n p ∧ blE b n p ≤ n := by
  obtain ⟨⟨a1, a2⟩, -⟩ := skN_at (c := fun i => isBl (b i)) (n := n) n p (by omega)
  exact ⟨a1, a2 h⟩
theorem wdE_at (b : Nat → Nat) {n s : Nat} (h : s < n) (l : isLt (b s) = true) : s < wdE b n s ∧ wdE b n s ≤ n ∧ (∀ i, s ≤ i → i < wdE b n s → isLt (b i) = true) ∧ ¬ (wdE b n s < n ∧ isLt (b (wdE b n s)) = true) := by
  obtain ⟨⟨a1, a2⟩, a3, a4⟩ := skN_at (c := fun i => isLt (b i)) (n := n) n s (by omega)
  refine ⟨?_, a2 (by omega), fun i x y => (a3 i x y).2, a4⟩
  refine Classical.byContradiction fun z => ?_
  have e : skN (fun i => isLt (b i)) n n s = s := by
    unfold wdE at z
    omega
  rw [e] at a4
  exact a4 ⟨h, l⟩
theorem dgE_at (b : Nat → Nat) {n s : Nat} (h : s < n) (l : isDg (b s) = true) : s < dgE b n s ∧ dgE b n s ≤ n ∧ (∀ i, s ≤ i → i < dgE b n s → isDg (b i) = true) ∧ ¬ (dgE b n s < n ∧ isDg (b (dgE b n s)) = true) := by
  obtain ⟨⟨a1, a2⟩, a3, a4⟩ := skN_at (c := fun i => isDg (b i)) (n := n) n s (by omega)
  refine ⟨?_, a2 (by omega), fun i x y => (a3 i x y).2, a4⟩
  refine Classical.byContradiction fun z => ?_
  have e : skN (fun i => isDg (b i)) n n s = s := by
    unfold dgE at z
    omega
  rw [e] at a4
  exact a4 ⟨h, l⟩
theorem tkE_at (b : Nat → Nat) {n p : Nat} (h : p ≤ n) (g : Bool) : p ≤ tkE b n p ∧ tkE b n p ≤ n ∧ (tkT b n p g ≠ 1 → p < tkE b n p ∧ blE b n p < n) := by
  obtain ⟨a, c⟩ := blE_at b h
  unfold tkE tkT
  by_cases y : n ≤ blE b n p
  · rw [if_pos y, if_pos y]
    exact ⟨a, c, fun z => absurd rfl z⟩
  · rw [if_neg y, if_neg y]
    by_cases l : isLt (b (blE b n p)) = true
    · rw [if_pos l]
      have := wdE_at b (n := n) (s := blE b n p) (by omega) l
      exact ⟨by omega, this.2.1, fun _ => ⟨by omega, by omega⟩⟩
    · rw [if_neg l]
      by_cases d : isDg (b (blE b n p)) = true
      · rw [if_pos d]
        have := dgE_at b (n := n) (s := blE b n p) (by omega) d
        exact ⟨by omega, this.2.1, fun _ => ⟨by omega, by omega⟩⟩
      · rw [if_neg d]
        exact ⟨by omega, by omega, fun _ => ⟨by omega, by omega⟩⟩
/-- the words of the language, as numbers -/
def nmC (j : Nat) : Nat := ([162899424, 180595170, 335201490, 296961066, 86875065, 290023902, 115686468, 187429545, 363612934, 91245096, 239327919, 117481374, 296972217, 212302449, 189554391, 284147433, 224799543, 21867813, 209249973, 20962395, 191594322, 187539624, 173106882, 218819934, 295344468, 194895963, 174878163] : List Nat).getD j 0
/-- which of the words a number is: 27 where it is none -/
def whN6 (v : Nat) : Nat → Nat
  | 0 => 27
  | k + 1 => if nmC (26 - k) = v then 26 - k else whN6 v k
def wIx (b : Nat → Nat) (n p : Nat) (g : Bool) : Nat := if tkT b n p g = 2 then whN6 (tkV b n p) 27 else 27
abbrev PS := Nat × Bool × List Nat
abbrev PR := (Nat × Nat) ⊕ PS
def pbd (r : PR) (f : PS → PR) : PR := match r with
  | .inl e => .inl e
  | .inr s => f s
theorem pbd_l (e : Nat × Nat) (f : PS → PR) : pbd (.inl e) f = .inl e := rfl
theorem pbd_r (s : PS) (f : PS → PR) : pbd (.inr s) f = f s := rfl
theorem pbd_a (r : PR) (f g : PS → PR) : pbd (pbd r f) g = pbd r fun s => pbd (f s) g := by
  cases r <;> rfl
def nxt (b : Nat → Nat) (n : Nat) (s : PS) : PS := (tkE b n s.1, decide (tkT b n s.1 s.2.1 = 2 ∨ tkT b n s.1 s.2.1 = 3), s.2.2)
def isS (b : Nat → Nat) (n c : Nat) (s : PS) : Prop := tkT b n s.1 s.2.1 = 4 ∧ tkV b n s.1 = c
def wI (b : Nat → Nat) (n : Nat) (s : PS) : Nat := wIx b n s.1 s.2.1
def pem (c : Nat) (s : PS) : PS := (s.1, s.2.1, s.2.2 ++ [c])
def pft (b : Nat → Nat) (n k : Nat) (s : PS) : PR := .inl (k, blE b n s.1)
def wS (b : Nat → Nat) (n c : Nat) (s : PS) : PR := if tkT b n s.1 s.2.1 = 4 ∧ tkV b n s.1 = c then .inr (nxt b n s) else pft b n 1 s
/-- a number between bounds: what it is, and what is behind it -/
def wNum (b : Nat → Nat) (n lo hi : Nat) (s : PS) : (Nat × Nat) ⊕ (Nat × PS) :=
  if tkT b n s.1 s.2.1 ≠ 3 then .inl (1, blE b n s.1)
  else if 4 < tkZ b n s.1 then .inl (1, blE b n s.1 + 4)
  else if tkV b n s.1 < lo ∨ hi < tkV b n s.1 then .inl (2, blE b n s.1)
  else .inr (tkV b n s.1, nxt b n s)
/-- the code of a value's word; 0 where it may not stand -/
def vcN (L : Bool) (j : Nat) : Nat :=
  if j = 6 then 42 else if j = 11 then 43
  else if L = true then (if j = 1 then 40 else if j = 2 then 41 else if j = 12 then 44 else 0)
  else (if j = 13 then 45 else if j = 14 then 46 else if j = 15 then 47 else 0)
def opP (b : Nat → Nat) (n : Nat) (s : PS) : Nat := if tkT b n s.1 s.2.1 = 4 ∧ tkV b n s.1 = 42 then 3 else if tkT b n s.1 s.2.1 = 4 ∧ tkV b n s.1 = 47 then 4 else 0
def opA (b : Nat → Nat) (n : Nat) (s : PS) : Nat := if tkT b n s.1 s.2.1 = 4 ∧ tkV b n s.1 = 43 then 1 else if tkT b n s.1 s.2.1 = 4 ∧ tkV b n s.1 = 45 then 2 else 0
def opC (b : Nat → Nat) (n : Nat) (s : PS) : Nat := if tkT b n s.1 s.2.1 = 4 ∧ tkV b n s.1 = 60 then 7 else if tkT b n s.1 s.2.1 = 4 ∧ tkV b n s.1 = 62 then 8 else if tkT b n s.1 s.2.1 = 4 ∧ tkV b n s.1 = 61 then 9 else 0
def opN (b : Nat → Nat) (n : Nat) (s : PS) : Nat := if wI b n s = 17 then 10 else 0
def opO (b : Nat → Nat) (n : Nat) (s : PS) : Nat := if wI b n s = 16 then 11 else 0
def lpB (b : Nat → Nat) (n : Nat) (op : PS → Nat) (it : PS → PR) : Nat → PS → PR
  | 0, s => .inr s
  | f + 1, s => if op s = 0 then .inr s else pbd (it (nxt b n s)) fun s2 => lpB b n op it f (pem (op s) s2)
def prd (b : Nat → Nat) (n : Nat) (pt : PS → PR) (s : PS) : PR := pbd (pt s) (lpB b n (opP b n) pt 1600)
def smm (b : Nat → Nat) (n : Nat) (pt : PS → PR) (s : PS) : PR := pbd (prd b n pt s) (lpB b n (opA b n) (prd b n pt) 1600)
def pair (b : Nat → Nat) (n : Nat) (sub : Option (PS → PR)) (c : Nat) (s : PS) : PR :=
  if tkT b n (nxt b n s).1 (nxt b n s).2.1 = 4 ∧ tkV b n (nxt b n s).1 = 40 then (match sub with
    | none => pft b n 4 (nxt b n s)
    | some pt => pbd (smm b n pt (nxt b n (nxt b n s))) fun s2 => pbd (wS b n 44 s2) fun s3 => pbd (smm b n pt s3) fun s4 => pbd (wS b n 41 s4) fun s5 => .inr (pem c s5))
  else pft b n 1 (nxt b n s)
def prt (b : Nat → Nat) (n : Nat) (L : Bool) (sub : Option (PS → PR)) (s : PS) : PR :=
  if tkT b n s.1 s.2.1 = 3 then (match wNum b n 0 9999 s with
    | .inl e => .inl e
    | .inr v => .inr (pem (1000 + v.1) v.2))
  else if tkT b n s.1 s.2.1 = 4 ∧ tkV b n s.1 = 40 then (match sub with
    | none => pft b n 4 s
    | some pt => pbd (smm b n pt (nxt b n s)) (wS b n 41))
  else if wI b n s = 20 then pair b n sub 5 s
  else if wI b n s = 21 then pair b n sub 6 s
  else if wI b n s = 8 ∧ L = false then (match sub with
    | none => pft b n 4 s
    | some pt => pbd (pt (nxt b n s)) fun s2 => .inr (pem 60 s2))
  else if vcN L (wI b n s) = 0 then pft b n 1 s
  else .inr (pem (vcN L (wI b n s)) (nxt b n s))
def lvP (b : Nat → Nat) (n : Nat) (L : Bool) : Nat → PS → PR
  | 0 => prt b n L none
  | k + 1 => prt b n L (some (lvP b n L k))
def both (b : Nat → Nat) (n : Nat) (fc : PS → PR) (s : PS) : PR := pbd (fc s) (lpB b n (opN b n) fc 1600)
def tst (b : Nat → Nat) (n : Nat) (fc : PS → PR) (s : PS) : PR := pbd (both b n fc s) (lpB b n (opO b n) (both b n fc) 1600)
def fct (b : Nat → Nat) (n : Nat) (sub : Option (PS → PR)) (sm : PS → PR) (s : PS) : PR :=
  if wI b n s = 18 then (match sub with
    | none => pft b n 4 s
    | some fc => pbd (fc (nxt b n s)) fun s2 => .inr (pem 12 s2))
  else if tkT b n s.1 s.2.1 = 4 ∧ tkV b n s.1 = 91 then (match sub with
    | none => pft b n 4 s
    | some fc => pbd (tst b n fc (nxt b n s)) (wS b n 93))
  else if wI b n s = 19 then .inr (pem 13 (nxt b n s))
  else pbd (sm s) fun s1 => if opC b n s1 = 0 then pft b n 1 s1 else pbd (sm (nxt b n s1)) fun s2 => .inr (pem (opC b n s1) s2)
def lvF (b : Nat → Nat) (n : Nat) (L : Bool) : Nat → PS → PR
  | 0 => fct b n none (smm b n (lvP b n L 0))
  | k + 1 => fct b n (some (lvF b n L k)) (smm b n (lvP b n L (k + 1)))
