/-! what waits, as what is still to be read -/
theorem lpB_fuel {b : Nat → Nat} {n : Nat} {L : Bool} {t D : Nat} {op : PS → Nat} {it : PS → PR} (hi : Pg b n L t D it) (ho : ∀ s, op s ≠ 0 → tkT b n s.1 s.2.1 ≠ 1) : ∀ f f' (s : PS), s.1 ≤ n → n ≤ s.1 + f → n ≤ s.1 + f' → lpB b n op it f s = lpB b n op it f' s
  | 0, f', s, h, h1, h2 => by
    have o : op s = 0 := Classical.byContradiction fun z => by
      have := nxt_pos b h (ho s z)
      omega
    cases f' with
    | zero => rfl
    | succ f' => rw [lpB, lpB, if_pos o]
  | f + 1, 0, s, h, h1, h2 => by
    have o : op s = 0 := Classical.byContradiction fun z => by
      have := nxt_pos b h (ho s z)
      omega
    rw [lpB, lpB, if_pos o]
  | f + 1, f' + 1, s, h, h1, h2 => by
    rw [lpB, lpB]
    by_cases o : op s = 0
    · rw [if_pos o, if_pos o]
    · rw [if_neg o, if_neg o]
      obtain ⟨a1, a2⟩ := nxt_pos b h (ho s o)
      cases e : it (nxt b n s) with
      | inl x => rfl
      | inr s2 =>
        obtain ⟨b1, b2, -⟩ := hi _ _ a2 e
        rw [pbd_r, pbd_r]
        exact lpB_fuel hi ho f f' (pem (op s) s2) b2 (by show n ≤ s2.1 + f; omega) (by show n ≤ s2.1 + f'; omega)
theorem lp_0 {b : Nat → Nat} {n : Nat} {op : PS → Nat} {it : PS → PR} {s : PS} (o : op s = 0) : lpB b n op it 1600 s = .inr s := by
  rw [lpB, if_pos o]
theorem lp_1 {b : Nat → Nat} {n : Nat} {L : Bool} {t D : Nat} {op : PS → Nat} {it : PS → PR} (hi : Pg b n L t D it) (ho : ∀ s, op s ≠ 0 → tkT b n s.1 s.2.1 ≠ 1) {s : PS} (h : s.1 ≤ n) (n16 : n ≤ 1600) (o : op s ≠ 0) : lpB b n op it 1600 s = pbd (it (nxt b n s)) fun s2 => lpB b n op it 1600 (pem (op s) s2) := by
  have e : lpB b n op it 1600 s = pbd (it (nxt b n s)) fun s2 => lpB b n op it 1599 (pem (op s) s2) := by
    rw [lpB, if_neg o]
  rw [e]
  obtain ⟨a1, a2⟩ := nxt_pos b h (ho s o)
  cases ei : it (nxt b n s) with
  | inl x => rw [pbd_l, pbd_l]
  | inr s2 =>
    obtain ⟨b1, b2, -⟩ := hi _ _ a2 ei
    rw [pbd_r, pbd_r]
    exact lpB_fuel hi ho 1599 1600 (pem (op s) s2) b2 (by show n ≤ s2.1 + 1599; omega) (by show n ≤ s2.1 + 1600; omega)
theorem opP_t {b : Nat → Nat} {n : Nat} {s : PS} (h : opP b n s ≠ 0) : tkT b n s.1 s.2.1 ≠ 1 := by
  unfold opP at h
  by_cases a : tkT b n s.1 s.2.1 = 4 ∧ tkV b n s.1 = 42
  · omega
  · rw [if_neg a] at h
    by_cases c : tkT b n s.1 s.2.1 = 4 ∧ tkV b n s.1 = 47
    · omega
    · rw [if_neg c] at h
      exact absurd rfl h
theorem opA_t {b : Nat → Nat} {n : Nat} {s : PS} (h : opA b n s ≠ 0) : tkT b n s.1 s.2.1 ≠ 1 := by
  unfold opA at h
  by_cases a : tkT b n s.1 s.2.1 = 4 ∧ tkV b n s.1 = 43
  · omega
  · rw [if_neg a] at h
    by_cases c : tkT b n s.1 s.2.1 = 4 ∧ tkV b n s.1 = 45
    · omega
    · rw [if_neg c] at h
      exact absurd rfl h
def plp (b : Nat → Nat) (n : Nat) (L : Bool) (k : Nat) : PS → PR := lpB b n (opP b n) (lvP b n L k) 1600
def slp (b : Nat → Nat) (n : Nat) (L : Bool) (k : Nat) : PS → PR := lpB b n (opA b n) (prd b n (lvP b n L k)) 1600
abbrev DT : Type := (Nat → PS → PR) × (Nat → PS → PR) × (Nat → PS → PR)
def pSm (b : Nat → Nat) (n : Nat) (L : Bool) (x : Nat) (r : DT) (k : Nat) (s : PS) : PR :=
  if x = 20 then pbd (wS b n 41 s) (r.1 (k + 1))
  else if x = 21 then pbd (wS b n 44 s) fun s3 => pbd (smm b n (lvP b n L k) s3) fun s4 => pbd (wS b n 41 s4) fun s5 => r.1 (k + 1) (pem 5 s5)
  else if x = 22 then pbd (wS b n 44 s) fun s3 => pbd (smm b n (lvP b n L k) s3) fun s4 => pbd (wS b n 41 s4) fun s5 => r.1 (k + 1) (pem 6 s5)
  else if x = 23 then pbd (wS b n 41 s) fun s5 => r.1 (k + 1) (pem 5 s5)
  else pbd (wS b n 41 s) fun s5 => r.1 (k + 1) (pem 6 s5)
def pQm (b : Nat → Nat) (n : Nat) (L : Bool) (x : Nat) (r : DT) (k : Nat) (s : PS) : PR :=
  if x = 1 ∨ x = 2 then pbd (slp b n L k (pem x s)) (r.2.2 k) else pbd (slp b n L k s) (pSm b n L x r k)
def pPm (b : Nat → Nat) (n : Nat) (L : Bool) (x : Nat) (r : DT) (k : Nat) (s : PS) : PR :=
  if x = 60 then r.1 (k + 1) (pem 60 s) else if x = 3 ∨ x = 4 then pbd (plp b n L k (pem x s)) (r.2.1 k) else pbd (plp b n L k s) (pQm b n L x r k)
def dn (b : Nat → Nat) (n : Nat) (L : Bool) : List Nat → DT
  | [] => (fun k s => pbd (plp b n L k s) fun s => pbd (slp b n L k s) .inr, fun k s => pbd (slp b n L k s) .inr, fun _ s => .inr s)
  | x :: w => (pPm b n L x (dn b n L w), pQm b n L x (dn b n L w), pSm b n L x (dn b n L w))
def rkN : List Nat → Nat
  | [] => 0
  | x :: _ => if x = 60 then 3 else if x = 3 ∨ x = 4 then 2 else if x = 1 ∨ x = 2 then 1 else 0
theorem rkN_c (x : Nat) (w : List Nat) : rkN (x :: w) = if x = 60 then 3 else if x = 3 ∨ x = 4 then 2 else if x = 1 ∨ x = 2 then 1 else 0 := rfl
def wfS : List Nat → Prop
  | [] => True
  | x :: w => wfS w ∧ (x = 60 ∨ ((x = 3 ∨ x = 4) ∧ rkN w ≤ 1) ∨ ((x = 1 ∨ x = 2) ∧ rkN w = 0) ∨ (20 ≤ x ∧ x ≤ 24))
def cnO : List Nat → Nat
  | [] => 0
  | x :: w => cnO w + if 12 ≤ x then 1 else 0
section
variable (b : Nat → Nat) (n : Nat) (L : Bool) (w : List Nat)
theorem smm_eq (k : Nat) (s : PS) : smm b n (lvP b n L k) s = pbd (lvP b n L k s) fun s => pbd (plp b n L k s) (slp b n L k) := by
  show pbd (pbd (lvP b n L k s) (plp b n L k)) (slp b n L k) = _
  rw [pbd_a]
theorem dn_round (k : Nat) (s : PS) : pbd (pbd (smm b n (lvP b n L k) s) (wS b n 41)) ((dn b n L w).1 (k + 1)) = pbd (lvP b n L k s) ((dn b n L (20 :: w)).1 k) := by
  rw [smm_eq, pbd_a, pbd_a]
  congr 1
  funext s1
  show _ = pPm b n L 20 (dn b n L w) k s1
  unfold pPm
  rw [if_neg (by omega), if_neg (by omega), pbd_a]
  congr 1
theorem dn_pair (k c x : Nat) (hx : (x = 21 ∧ c = 5) ∨ (x = 22 ∧ c = 6)) (s : PS) : pbd (pbd (smm b n (lvP b n L k) s) fun s2 => pbd (wS b n 44 s2) fun s3 => pbd (smm b n (lvP b n L k) s3) fun s4 => pbd (wS b n 41 s4) fun s5 => .inr (pem c s5)) ((dn b n L w).1 (k + 1)) = pbd (lvP b n L k s) ((dn b n L (x :: w)).1 k) := by
  rw [smm_eq, pbd_a, pbd_a]
  congr 1
  funext s1
  show _ = pPm b n L x (dn b n L w) k s1
  unfold pPm
  rw [if_neg (by omega), if_neg (by omega), pbd_a]
  congr 1
  funext s2
  unfold pQm
  rw [if_neg (by omega)]
  congr 1
  funext s3
  rw [pbd_a]
  unfold pSm
  rcases hx with ⟨rfl, rfl⟩ | ⟨rfl, rfl⟩
  · rw [if_neg (by omega), if_pos rfl]
    congr 1
    funext s4
    rw [pbd_a]
    congr 1
    funext s5
    rw [pbd_a]
    rfl
  · rw [if_neg (by omega), if_neg (by omega), if_pos rfl]
    congr 1
    funext s4
    rw [pbd_a]
    congr 1
    funext s5
    rw [pbd_a]
    rfl
theorem dn_comma (k c x : Nat) (hx : (x = 23 ∧ c = 5) ∨ (x = 24 ∧ c = 6)) (s : PS) : (pbd (smm b n (lvP b n L k) s) fun s4 => pbd (wS b n 41 s4) fun s5 => (dn b n L w).1 (k + 1) (pem c s5)) = pbd (lvP b n L k s) ((dn b n L (x :: w)).1 k) := by
  rw [smm_eq, pbd_a]
  congr 1
  funext s1
  show _ = pPm b n L x (dn b n L w) k s1
  unfold pPm
  rw [if_neg (by omega), if_neg (by omega), pbd_a]
  congr 1
  funext s2
  unfold pQm
  rw [if_neg (by omega)]
  congr 1
  funext s3
  unfold pSm
  rcases hx with ⟨rfl, rfl⟩ | ⟨rfl, rfl⟩
  · rw [if_neg (by omega), if_neg (by omega), if_neg (by omega), if_pos rfl]
  · rw [if_neg (by omega), if_neg (by omega), if_neg (by omega), if_neg (by omega)]
theorem dn_of (k : Nat) (s : PS) : pbd (pbd (lvP b n L k s) fun s2 => .inr (pem 60 s2)) ((dn b n L w).1 (k + 1)) = pbd (lvP b n L k s) ((dn b n L (60 :: w)).1 k) := by
  rw [pbd_a]
  congr 1
/-- what is dropped first: products -/
def dM (w : List Nat) (s : PS) : List Nat × PS := match w with
  | [] => ([], s)
  | x :: w' => if x = 3 ∨ x = 4 then (w', pem x s) else (x :: w', s)
def dA (w : List Nat) (s : PS) : List Nat × PS := match w with
  | [] => ([], s)
  | x :: w' => if x = 1 ∨ x = 2 then (w', pem x s) else (x :: w', s)
theorem P_eq (k : Nat) (s : PS) (h : rkN w ≤ 2) : (dn b n L w).1 k s = pbd (plp b n L k (dM w s).2) ((dn b n L (dM w s).1).2.1 k) := by
  cases w with
  | nil => rfl
  | cons x w' =>
    have x60 : x ≠ 60 := fun z => by
      rw [z] at h
      rw [rkN_c] at h
      rw [if_pos rfl] at h
      omega
    show pPm b n L x (dn b n L w') k s = _
    unfold pPm dM
    rw [if_neg x60]
    by_cases y : x = 3 ∨ x = 4
    · simp only [if_pos y]
    · simp only [if_neg y]
      rfl
theorem Q_eq (k : Nat) (s : PS) : (dn b n L w).2.1 k s = pbd (slp b n L k (dA w s).2) ((dn b n L (dA w s).1).2.2 k) := by
  cases w with
  | nil => rfl
  | cons x w' =>
    show pQm b n L x (dn b n L w') k s = _
    unfold pQm dA
    by_cases y : x = 1 ∨ x = 2
    · simp only [if_pos y]
    · simp only [if_neg y]
      rfl
theorem dM_1 (s : PS) : (dM w s).2.1 = s.1 ∧ (dM w s).2.2.1 = s.2.1 := by
  cases w with
  | nil => exact ⟨rfl, rfl⟩
  | cons x w' =>
    unfold dM
    by_cases y : x = 3 ∨ x = 4
    · simp only [if_pos y]
      exact ⟨rfl, rfl⟩
    · simp only [if_neg y]
      exact ⟨trivial, trivial⟩
theorem dA_1 (s : PS) : (dA w s).2.1 = s.1 ∧ (dA w s).2.2.1 = s.2.1 := by
  cases w with
  | nil => exact ⟨rfl, rfl⟩
  | cons x w' =>
    unfold dA
    by_cases y : x = 1 ∨ x = 2
    · simp only [if_pos y]
      exact ⟨rfl, rfl⟩
    · simp only [if_neg y]
      exact ⟨trivial, trivial⟩
theorem P_mul (k : Nat) (s : PS) (h : rkN w ≤ 2) (hs : s.1 ≤ n) (n16 : n ≤ 1600) (o : opP b n s ≠ 0) : (dn b n L w).1 k s = pbd (lvP b n L k (nxt b n (dM w s).2)) ((dn b n L (opP b n s :: (dM w s).1)).1 k) := by
  obtain ⟨m1, m2⟩ := dM_1 w s
  have oe : opP b n (dM w s).2 = opP b n s := by
    unfold opP
    rw [m1, m2]
  have c34 : opP b n s = 3 ∨ opP b n s = 4 := by
    unfold opP at o ⊢
    by_cases a : tkT b n s.1 s.2.1 = 4 ∧ tkV b n s.1 = 42
    · rw [if_pos a]; exact Or.inl rfl
    · rw [if_neg a] at o ⊢
      by_cases d : tkT b n s.1 s.2.1 = 4 ∧ tkV b n s.1 = 47
      · rw [if_pos d]; exact Or.inr rfl
      · rw [if_neg d] at o
        exact absurd rfl o
  rw [P_eq b n L w k s h]
  unfold plp
  rw [lp_1 (lvP_g b n L k) (fun s z => opP_t z) (by rw [m1]; exact hs) n16 (by rw [oe]; exact o), oe, pbd_a]
  congr 1
  funext s2
  show _ = pPm b n L (opP b n s) (dn b n L (dM w s).1) k s2
  unfold pPm
  rw [if_neg (by omega), if_pos c34]
  rfl
theorem P_drop (k : Nat) (s : PS) (h : rkN w ≤ 2) (o : opP b n s = 0) : (dn b n L w).1 k s = (dn b n L (dM w s).1).2.1 k (dM w s).2 := by
  obtain ⟨m1, m2⟩ := dM_1 w s
  have oe : opP b n (dM w s).2 = 0 := by
    rw [← o]
    unfold opP
    rw [m1, m2]
  rw [P_eq b n L w k s h]
  unfold plp
  rw [lp_0 oe]
  rfl
theorem Q_add (k : Nat) (s : PS) (hs : s.1 ≤ n) (n16 : n ≤ 1600) (o : opA b n s ≠ 0) : (dn b n L w).2.1 k s = pbd (lvP b n L k (nxt b n (dA w s).2)) ((dn b n L (opA b n s :: (dA w s).1)).1 k) := by
  obtain ⟨m1, m2⟩ := dA_1 w s
  have oe : opA b n (dA w s).2 = opA b n s := by
    unfold opA
    rw [m1, m2]
  have c12 : opA b n s = 1 ∨ opA b n s = 2 := by
    unfold opA at o ⊢
    by_cases a : tkT b n s.1 s.2.1 = 4 ∧ tkV b n s.1 = 43
    · rw [if_pos a]; exact Or.inl rfl
    · rw [if_neg a] at o ⊢
      by_cases d : tkT b n s.1 s.2.1 = 4 ∧ tkV b n s.1 = 45
      · rw [if_pos d]; exact Or.inr rfl
      · rw [if_neg d] at o
        exact absurd rfl o
  rw [Q_eq b n L w k s]
  unfold slp
  rw [lp_1 (prd_g (lvP_g b n L k)) (fun s z => opA_t z) (by rw [m1]; exact hs) n16 (by rw [oe]; exact o), oe, pbd_a]
  show pbd (pbd (lvP b n L k (nxt b n (dA w s).2)) (plp b n L k)) _ = _
  rw [pbd_a]
  congr 1
  funext s2
  show _ = pPm b n L (opA b n s) (dn b n L (dA w s).1) k s2
  unfold pPm
  rw [if_neg (by omega), if_neg (by omega)]
  congr 1
  funext s3
  unfold pQm
  rw [if_pos c12]
  rfl
theorem Q_drop (k : Nat) (s : PS) (o : opA b n s = 0) : (dn b n L w).2.1 k s = (dn b n L (dA w s).1).2.2 k (dA w s).2 := by
  obtain ⟨m1, m2⟩ := dA_1 w s
  have oe : opA b n (dA w s).2 = 0 := by
    rw [← o]
    unfold opA
    rw [m1, m2]
  rw [Q_eq b n L w k s]
  unfold slp
  rw [lp_0 oe]
  rfl
end
theorem dM_wf {w : List Nat} {s : PS} (h : wfS w) (r : rkN w ≤ 2) : wfS (dM w s).1 ∧ rkN (dM w s).1 ≤ 1 ∧ cnO (dM w s).1 = cnO w ∧ (dM w s).2.2.2.length + (dM w s).1.length = s.2.2.length + w.length := by
  cases w with
  | nil => exact ⟨trivial, Nat.zero_le _, rfl, rfl⟩
  | cons x w' =>
    obtain ⟨h1, h2⟩ := h
    unfold dM
    by_cases y : x = 3 ∨ x = 4
    · simp only [if_pos y]
      refine ⟨h1, ?_, ?_, ?_⟩
      · omega
      · show _ = cnO w' + _
        rw [if_neg (by omega)]
        rfl
      · show (s.2.2 ++ [x]).length + w'.length = _
        simp only [List.length_append, List.length_cons, List.length_nil]
        omega
    · simp only [if_neg y]
      refine ⟨⟨h1, h2⟩, ?_, trivial, trivial⟩
      rw [rkN_c] at r ⊢
      by_cases z : x = 60
      · rw [if_pos z] at r
        omega
      · rw [if_neg z, if_neg y]
        split <;> omega
theorem dA_wf {w : List Nat} {s : PS} (h : wfS w) (r : rkN w ≤ 1) : wfS (dA w s).1 ∧ rkN (dA w s).1 = 0 ∧ cnO (dA w s).1 = cnO w ∧ (dA w s).2.2.2.length + (dA w s).1.length = s.2.2.length + w.length := by
  cases w with
  | nil => exact ⟨trivial, rfl, rfl, rfl⟩
  | cons x w' =>
    obtain ⟨h1, h2⟩ := h
    unfold dA
    have x60 : x ≠ 60 := fun z => by
      rw [z] at r
      rw [rkN_c] at r
      rw [if_pos rfl] at r
      omega
    have x34 : ¬ (x = 3 ∨ x = 4) := fun z => by
      rw [rkN_c] at r
      rw [if_neg x60, if_pos z] at r
      omega
    by_cases y : x = 1 ∨ x = 2
    · simp only [if_pos y]
      refine ⟨h1, ?_, ?_, ?_⟩
      · omega
      · show _ = cnO w' + _
        rw [if_neg (by omega)]
        rfl
      · show (s.2.2 ++ [x]).length + w'.length = _
        simp only [List.length_append, List.length_cons, List.length_nil]
        omega
    · simp only [if_neg y]
      refine ⟨⟨h1, h2⟩, ?_, trivial, trivial⟩
      rw [rkN_c, if_neg x60, if_neg x34, if_neg y]
theorem rk0 {x : Nat} {w : List Nat} (h : wfS (x :: w)) (r : rkN (x :: w) = 0) : 20 ≤ x ∧ x ≤ 24 := by
  obtain ⟨-, h2⟩ := h
  rw [rkN_c] at r
  by_cases x60 : x = 60
  · rw [if_pos x60] at r
    omega
  · rw [if_neg x60] at r
    by_cases x34 : x = 3 ∨ x = 4
    · rw [if_pos x34] at r
      omega
    · rw [if_neg x34] at r
      by_cases x12 : x = 1 ∨ x = 2
      · rw [if_pos x12] at r
        omega
      · omega
