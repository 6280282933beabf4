/-! what waits for a FACT: the continuations of the waiting stack in a TEST -/
def alp (b : Nat → Nat) (n : Nat) (L : Bool) (k : Nat) : PS → PR := lpB b n (opN b n) (lvF b n L k) 1600
def olp (b : Nat → Nat) (n : Nat) (L : Bool) (k : Nat) : PS → PR := lpB b n (opO b n) (both b n (lvF b n L k)) 1600
def pS2 (b : Nat → Nat) (n : Nat) (r : DT) (k : Nat) (s : PS) : PR := pbd (wS b n 93 s) (r.1 (k + 1))
def pQ2 (b : Nat → Nat) (n : Nat) (L : Bool) (x : Nat) (r : DT) (k : Nat) (s : PS) : PR :=
  if x = 11 then pbd (olp b n L k (pem x s)) (r.2.2 k) else pbd (olp b n L k s) (pS2 b n r k)
def pP2 (b : Nat → Nat) (n : Nat) (L : Bool) (x : Nat) (r : DT) (k : Nat) (s : PS) : PR :=
  if x = 12 then r.1 (k + 1) (pem 12 s) else if x = 10 then pbd (alp b n L k (pem x s)) (r.2.1 k) else pbd (alp b n L k s) (pQ2 b n L x r k)
def dt (b : Nat → Nat) (n : Nat) (L : Bool) : List Nat → DT
  | [] => (fun k s => pbd (alp b n L k s) fun s => pbd (olp b n L k s) .inr, fun k s => pbd (olp b n L k s) .inr, fun _ s => .inr s)
  | x :: w => (pP2 b n L x (dt b n L w), pQ2 b n L x (dt b n L w), pS2 b n (dt b n L w))
def rkT : List Nat → Nat
  | [] => 0
  | x :: _ => if x = 12 then 3 else if x = 10 then 2 else if x = 11 then 1 else 0
theorem rkT_c (x : Nat) (w : List Nat) : rkT (x :: w) = if x = 12 then 3 else if x = 10 then 2 else if x = 11 then 1 else 0 := rfl
def wfT : List Nat → Prop
  | [] => True
  | x :: w => wfT w ∧ (x = 12 ∨ (x = 10 ∧ rkT w ≤ 1) ∨ (x = 11 ∧ rkT w = 0) ∨ x = 25)
def tM (w : List Nat) (s : PS) : List Nat × PS := match w with
  | [] => ([], s)
  | x :: w' => if x = 10 then (w', pem x s) else (x :: w', s)
def tA (w : List Nat) (s : PS) : List Nat × PS := match w with
  | [] => ([], s)
  | x :: w' => if x = 11 then (w', pem x s) else (x :: w', s)
def tB (w : List Nat) (s : PS) : List Nat × PS := tA (tM w s).1 (tM w s).2
theorem tM_1 (w : List Nat) (s : PS) : (tM w s).2.1 = s.1 ∧ (tM w s).2.2.1 = s.2.1 := by
  cases w with
  | nil => exact ⟨rfl, rfl⟩
  | cons x w' =>
    unfold tM
    by_cases y : x = 10
    · simp only [if_pos y]
      exact ⟨rfl, rfl⟩
    · simp only [if_neg y]
      exact ⟨trivial, trivial⟩
theorem tA_1 (w : List Nat) (s : PS) : (tA w s).2.1 = s.1 ∧ (tA w s).2.2.1 = s.2.1 := by
  cases w with
  | nil => exact ⟨rfl, rfl⟩
  | cons x w' =>
    unfold tA
    by_cases y : x = 11
    · simp only [if_pos y]
      exact ⟨rfl, rfl⟩
    · simp only [if_neg y]
      exact ⟨trivial, trivial⟩
theorem tB_1 (w : List Nat) (s : PS) : (tB w s).2.1 = s.1 ∧ (tB w s).2.2.1 = s.2.1 := by
  obtain ⟨a1, a2⟩ := tM_1 w s
  obtain ⟨c1, c2⟩ := tA_1 (tM w s).1 (tM w s).2
  exact ⟨c1.trans a1, c2.trans a2⟩
theorem tM_nx (b : Nat → Nat) (n : Nat) (w : List Nat) (s : PS) : tM w (nxt b n s) = ((tM w s).1, nxt b n (tM w s).2) := by
  cases w with
  | nil => rfl
  | cons x w' =>
    unfold tM
    by_cases y : x = 10
    · simp only [if_pos y]
      rfl
    · simp only [if_neg y]
theorem tA_nx (b : Nat → Nat) (n : Nat) (w : List Nat) (s : PS) : tA w (nxt b n s) = ((tA w s).1, nxt b n (tA w s).2) := by
  cases w with
  | nil => rfl
  | cons x w' =>
    unfold tA
    by_cases y : x = 11
    · simp only [if_pos y]
      rfl
    · simp only [if_neg y]
theorem tB_nx (b : Nat → Nat) (n : Nat) (w : List Nat) (s : PS) : tB w (nxt b n s) = ((tB w s).1, nxt b n (tB w s).2) := by
  unfold tB
  rw [tM_nx]
  exact tA_nx b n _ _
theorem wfT_top {x : Nat} {w : List Nat} (h : wfT (x :: w)) (r : rkT (x :: w) ≤ 2) : (x = 10 ∧ rkT w ≤ 1) ∨ (x = 11 ∧ rkT w = 0) ∨ x = 25 := by
  rcases h.2 with y | y | y | y
  · rw [rkT_c, if_pos y] at r
    omega
  · exact Or.inl y
  · exact Or.inr (Or.inl y)
  · exact Or.inr (Or.inr y)
theorem tM_wf {w : List Nat} {s : PS} (h : wfT w) (r : rkT w ≤ 2) : wfT (tM w s).1 ∧ rkT (tM w s).1 ≤ 1 ∧ (tM w s).2.2.2.length + (tM w s).1.length = s.2.2.length + w.length := by
  cases w with
  | nil => exact ⟨trivial, Nat.zero_le _, rfl⟩
  | cons x w' =>
    unfold tM
    by_cases y : x = 10
    · simp only [if_pos y]
      refine ⟨h.1, ?_, ?_⟩
      · rcases wfT_top h r with u | u | u <;> omega
      · show (s.2.2 ++ [x]).length + w'.length = _
        simp only [List.length_append, List.length_cons, List.length_nil]
        omega
    · simp only [if_neg y]
      refine ⟨h, ?_, trivial⟩
      rw [rkT_c] at r ⊢
      by_cases z : x = 12
      · rw [if_pos z] at r
        omega
      · rw [if_neg z, if_neg y]
        split <;> omega
theorem tA_wf {w : List Nat} {s : PS} (h : wfT w) (r : rkT w ≤ 1) : wfT (tA w s).1 ∧ rkT (tA w s).1 = 0 ∧ (tA w s).2.2.2.length + (tA w s).1.length = s.2.2.length + w.length := by
  cases w with
  | nil => exact ⟨trivial, rfl, rfl⟩
  | cons x w' =>
    unfold tA
    by_cases y : x = 11
    · simp only [if_pos y]
      refine ⟨h.1, ?_, ?_⟩
      · rcases wfT_top h (by omega) with u | u | u <;> omega
      · show (s.2.2 ++ [x]).length + w'.length = _
        simp only [List.length_append, List.length_cons, List.length_nil]
        omega
    · simp only [if_neg y]
      refine ⟨h, ?_, trivial⟩
      have u := wfT_top h (by omega)
      rw [rkT_c] at r ⊢
      by_cases z : x = 10
      · rw [if_neg (by omega), if_pos z] at r
        omega
      · rw [if_neg (by omega), if_neg z, if_neg y]
theorem tB_wf {w : List Nat} {s : PS} (h : wfT w) (r : rkT w ≤ 2) : wfT (tB w s).1 ∧ rkT (tB w s).1 = 0 ∧ (tB w s).2.2.2.length + (tB w s).1.length = s.2.2.length + w.length := by
  obtain ⟨a, c, e⟩ := tM_wf (s := s) h r
  obtain ⟨a2, c2, e2⟩ := tA_wf (s := (tM w s).2) a c
  exact ⟨a2, c2, e2.trans e⟩
theorem tM_id {w : List Nat} (s : PS) (r : rkT w ≤ 1) : tM w s = (w, s) := by
  cases w with
  | nil => rfl
  | cons x w' =>
    unfold tM
    by_cases y : x = 10
    · rw [rkT_c, if_neg (by omega), if_pos y] at r
      omega
    · simp only [if_neg y]
theorem tA_id {w : List Nat} (s : PS) (r : rkT w = 0) : tA w s = (w, s) := by
  cases w with
  | nil => rfl
  | cons x w' =>
    unfold tA
    by_cases y : x = 11
    · rw [rkT_c, if_neg (by omega), if_neg (by omega), if_pos y] at r
      omega
    · simp only [if_neg y]
theorem tB_nil (s : PS) : tB [] s = ([], s) := rfl
theorem tB_10 {w : List Nat} {s : PS} (r : rkT w ≤ 1) : tB (10 :: w) s = tB w (pem 10 s) := by
  unfold tB
  rw [tM_id (pem 10 s) r]
  rfl
theorem tB_11 {w : List Nat} {s : PS} (r : rkT w = 0) : tB (11 :: w) s = tB w (pem 11 s) := by
  unfold tB
  rw [tM_id (pem 11 s) (by omega)]
  show tA (11 :: w) s = tA w (pem 11 s)
  rw [tA_id (w := w) (pem 11 s) r]
  rfl
theorem tB_25 {w : List Nat} {s : PS} : tB (25 :: w) s = (25 :: w, s) := rfl
theorem tB_top : ∀ {w : List Nat} (s : PS), wfT w → rkT w ≤ 2 → (¬ 25 ∈ w ∧ (tB w s).1 = []) ∨ (25 ∈ w ∧ ∃ w2, (tB w s).1 = 25 :: w2)
  | [], s, _, _ => Or.inl ⟨by simp, rfl⟩
  | x :: w, s, h, r => by
    rcases wfT_top h r with ⟨rfl, v⟩ | ⟨rfl, v⟩ | rfl
    · rw [tB_10 v]
      rcases tB_top (pem 10 s) h.1 (by omega) with ⟨a, c⟩ | ⟨a, c⟩
      · exact Or.inl ⟨by simp only [List.mem_cons]; exact fun z => z.elim (fun u => absurd u (by omega)) a, c⟩
      · exact Or.inr ⟨List.mem_cons_of_mem _ a, c⟩
    · rw [tB_11 v]
      rcases tB_top (pem 11 s) h.1 (by omega) with ⟨a, c⟩ | ⟨a, c⟩
      · exact Or.inl ⟨by simp only [List.mem_cons]; exact fun z => z.elim (fun u => absurd u (by omega)) a, c⟩
      · exact Or.inr ⟨List.mem_cons_of_mem _ a, c⟩
    · exact Or.inr ⟨List.mem_cons_self, w, rfl⟩
section
variable (b : Nat → Nat) (n : Nat) (L : Bool) (w : List Nat)
theorem tst_eq (k : Nat) (s : PS) : tst b n (lvF b n L k) s = pbd (lvF b n L k s) fun s => pbd (alp b n L k s) (olp b n L k) := by
  show pbd (pbd (lvF b n L k s) (alp b n L k)) (olp b n L k) = _
  rw [pbd_a]
theorem dt_sq (k : Nat) (s : PS) : pbd (pbd (tst b n (lvF b n L k) s) (wS b n 93)) ((dt b n L w).1 (k + 1)) = pbd (lvF b n L k s) ((dt b n L (25 :: w)).1 k) := by
  rw [tst_eq, pbd_a, pbd_a]
  congr 1
  funext s1
  rw [pbd_a]
  show _ = pP2 b n L 25 (dt b n L w) k s1
  unfold pP2
  rw [if_neg (by omega), if_neg (by omega)]
  have e : (fun s2 => pbd (olp b n L k s2) fun s3 => pbd (wS b n 93 s3) ((dt b n L w).1 (k + 1))) = pQ2 b n L 25 (dt b n L w) k := by
    funext s2
    unfold pQ2
    rw [if_neg (by omega)]
    rfl
  rw [← e]
theorem dt_not (k : Nat) (s : PS) : pbd (pbd (lvF b n L k s) fun s2 => .inr (pem 12 s2)) ((dt b n L w).1 (k + 1)) = pbd (lvF b n L k s) ((dt b n L (12 :: w)).1 k) := by
  rw [pbd_a]
  rfl
theorem TP_eq (k : Nat) (s : PS) (h : rkT w ≤ 2) : (dt b n L w).1 k s = pbd (alp b n L k (tM w s).2) ((dt b n L (tM w s).1).2.1 k) := by
  cases w with
  | nil => rfl
  | cons x w' =>
    have x12 : x ≠ 12 := fun z => by
      rw [rkT_c, if_pos z] at h
      omega
    show pP2 b n L x (dt b n L w') k s = _
    unfold pP2 tM
    rw [if_neg x12]
    by_cases y : x = 10
    · simp only [if_pos y]
    · simp only [if_neg y]
      rfl
theorem TQ_eq (k : Nat) (s : PS) : (dt b n L w).2.1 k s = pbd (olp b n L k (tA w s).2) ((dt b n L (tA w s).1).2.2 k) := by
  cases w with
  | nil => rfl
  | cons x w' =>
    show pQ2 b n L x (dt b n L w') k s = _
    unfold pQ2 tA
    by_cases y : x = 11
    · simp only [if_pos y]
    · simp only [if_neg y]
      rfl
theorem opN_t {s : PS} (h : opN b n s ≠ 0) : tkT b n s.1 s.2.1 ≠ 1 := by
  unfold opN at h
  by_cases a : wI b n s = 17
  · have := wI_t (b := b) (n := n) (s := s) (by omega)
    omega
  · rw [if_neg a] at h
    exact absurd rfl h
theorem opO_t {s : PS} (h : opO b n s ≠ 0) : tkT b n s.1 s.2.1 ≠ 1 := by
  unfold opO at h
  by_cases a : wI b n s = 16
  · have := wI_t (b := b) (n := n) (s := s) (by omega)
    omega
  · rw [if_neg a] at h
    exact absurd rfl h
theorem wI_p {s s' : PS} (h : s'.1 = s.1 ∧ s'.2.1 = s.2.1) : wI b n s' = wI b n s := by
  unfold wI
  rw [h.1, h.2]
theorem T_and (k : Nat) (s : PS) (h : rkT w ≤ 2) (hs : s.1 ≤ n) (n16 : n ≤ 1600) (o : wI b n s = 17) : (dt b n L w).1 k s = pbd (lvF b n L k (nxt b n (tM w s).2)) ((dt b n L (10 :: (tM w s).1)).1 k) := by
  have m := tM_1 w s
  have oe : opN b n (tM w s).2 = 10 := by
    unfold opN
    rw [wI_p b n m, if_pos o]
  rw [TP_eq b n L w k s h]
  unfold alp
  rw [lp_1 (lvF_g b n L k) (fun s z => opN_t b n z) (by rw [m.1]; exact hs) n16 (by omega), oe, pbd_a]
  congr 1
theorem TP_drop (k : Nat) (s : PS) (h : rkT w ≤ 2) (o : wI b n s ≠ 17) : (dt b n L w).1 k s = (dt b n L (tM w s).1).2.1 k (tM w s).2 := by
  have oe : opN b n (tM w s).2 = 0 := by
    unfold opN
    rw [wI_p b n (tM_1 w s), if_neg o]
  rw [TP_eq b n L w k s h]
  unfold alp
  rw [lp_0 oe]
  rfl
theorem TQ_or (k : Nat) (s : PS) (hs : s.1 ≤ n) (n16 : n ≤ 1600) (o : wI b n s = 16) : (dt b n L w).2.1 k s = pbd (lvF b n L k (nxt b n (tA w s).2)) ((dt b n L (11 :: (tA w s).1)).1 k) := by
  have m := tA_1 w s
  have oe : opO b n (tA w s).2 = 11 := by
    unfold opO
    rw [wI_p b n m, if_pos o]
  rw [TQ_eq b n L w k s]
  unfold olp
  rw [lp_1 (both_g (lvF_g b n L k)) (fun s z => opO_t b n z) (by rw [m.1]; exact hs) n16 (by omega), oe, pbd_a]
  show pbd (pbd (lvF b n L k (nxt b n (tA w s).2)) (alp b n L k)) _ = _
  rw [pbd_a]
  congr 1
theorem TQ_drop (k : Nat) (s : PS) (o : wI b n s ≠ 16) : (dt b n L w).2.1 k s = (dt b n L (tA w s).1).2.2 k (tA w s).2 := by
  have oe : opO b n (tA w s).2 = 0 := by
    unfold opO
    rw [wI_p b n (tA_1 w s), if_neg o]
  rw [TQ_eq b n L w k s]
  unfold olp
  rw [lp_0 oe]
  rfl
theorem T_or (k : Nat) (s : PS) (h : rkT w ≤ 2) (hs : s.1 ≤ n) (n16 : n ≤ 1600) (o : wI b n s = 16) : (dt b n L w).1 k s = pbd (lvF b n L k (nxt b n (tB w s).2)) ((dt b n L (11 :: (tB w s).1)).1 k) := by
  rw [TP_drop b n L w k s h (by omega), TQ_or b n L (tM w s).1 k (tM w s).2 (by rw [(tM_1 w s).1]; exact hs) n16 (by rw [wI_p b n (tM_1 w s)]; exact o)]
  rfl
theorem T_drop (k : Nat) (s : PS) (h : rkT w ≤ 2) (o : wI b n s ≠ 17) (o2 : wI b n s ≠ 16) : (dt b n L w).1 k s = (dt b n L (tB w s).1).2.2 k (tB w s).2 := by
  rw [TP_drop b n L w k s h o, TQ_drop b n L (tM w s).1 k (tM w s).2 (by rw [wI_p b n (tM_1 w s)]; exact o2)]
  rfl
end
