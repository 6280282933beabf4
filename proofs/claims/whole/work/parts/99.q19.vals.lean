/-! what a QUESTION's words tell of a test; the class's values -/
noncomputable def mqZ (h : KH) (t : Nat) : Int := if aT (WN h) 72 ≠ 0 ∧ anN h t = 0 then mrZ h (WN h) (kX (paN h (tmM h)) (2 ^ t)) (2 ^ t) else 0
noncomputable def sqN (h : KH) (t : Nat) : Nat := if anN h t = 0 ∧ aT (WN h) 72 ≠ 0 ∧ rN (WN h) (kX (paN h (tmM h)) (2 ^ t)) = aT (WN h) 72 then 1 else 0
noncomputable def pvQ (h : KH) (t p : Nat) : Int := if p = 2 then (kN h 201 (6 + t) : Int) else if p = 3 then (tmM h t : Int) else if p = 5 then (t : Int) else if p = 6 then mqZ h t else if p = 7 then (sqN h t : Int) else 0
noncomputable def yvQ (h : KH) (t : Nat) (n : Int) : Int := if 0 ≤ n ∧ n < (kN h 198 3 : Int) then ((ybN h n.toNat t 0 (tmM h t) + ybN h n.toNat t 1 (tmM h t) : Nat) : Int) else 0
theorem bit6 : ∀ t, t < 6 → ∀ k, k < 6 → (2 ^ t / 2 ^ k % 2 = if t = k then 1 else 0) := by decide
theorem and6 : ∀ t, t < 6 → ∀ m, m < 64 → (2 ^ t &&& m = 0 ↔ m / 2 ^ t % 2 = 0) := by decide +kernel
theorem hm_one {h : KH} {t : Nat} (ht : t < 6) : ∀ n, n ≤ 6 → hmN h (2 ^ t) n = if t < n then kN h 201 (6 + t) else 0
  | 0, _ => by rw [hmN, if_neg (by omega)]
  | n + 1, hn => by
    rw [hmN, bit6 t ht n (by omega), hm_one ht n (by omega)]
    by_cases y : t = n
    · subst y
      rw [if_pos rfl, if_neg (by omega), if_neg (by omega), if_pos (by omega), Nat.zero_add]
    · rw [if_neg y, if_pos rfl]
      by_cases z : t < n
      · rw [if_pos z, if_pos (by omega)]
      · rw [if_neg z, if_neg (by omega)]
theorem mqZ_b {h : KH} {c t : Nat} (rc : RC h c) (ht : t < kN h 198 4) : -1000000 ≤ mqZ h t ∧ mqZ h t ≤ 1000000 := by
  obtain ⟨hr, hc, h5, hm, -, htt, -⟩ := id rc
  have n4 := hm.2.1.1.2
  unfold mqZ
  by_cases y : aT (WN h) 72 ≠ 0 ∧ anN h t = 0
  · rw [if_pos y]
    have p6 : 2 ^ t < 64 := Nat.lt_of_lt_of_le (Nat.pow_lt_pow_right (by omega) (show t < 6 by omega)) (by omega)
    have a := mrZ_b rc (WN h) (kX (paN h (tmM h)) (2 ^ t)) (kX_lt _ p6) (2 ^ t)
    refine ⟨?_, a.2⟩
    unfold mrZ
    have e := hm_one (h := h) (show t < 6 by omega) (kN h 198 4) n4
    rw [if_pos ht] at e
    rw [e]
    have b1 := (htt t ht).1.2
    have b2 : prN h ≤ 9999 := hm.2.2.2.2.1.2
    have b3 : kN h 201 (6 + t) * prN h ≤ 99 * 9999 := Nat.mul_le_mul b1 b2
    obtain ⟨q, hq⟩ : ∃ q, q = rN (WN h) (kX (paN h (tmM h)) (2 ^ t)) * 1000000 / aT (WN h) 72 := ⟨_, rfl⟩
    rw [← hq]
    omega
  · rw [if_neg y]
    omega
theorem pvQ_b {h : KH} {c t : Nat} (rc : RC h c) (rs : RS h) (ht : t < kN h 198 4) : ∀ p, pal false p → -1000000 ≤ pvQ h t p ∧ pvQ h t p ≤ 1000000 := by
  obtain ⟨hr, hc, h5, hm, -, htt, -⟩ := id rc
  have n4 := hm.2.1.1.2
  have b1 := (htt t ht).1.2
  have b2 : tmM h t ≤ 99 := (rs.t (show t < 6 by omega)).1.2
  have b3 := mqZ_b rc ht
  have b4 : sqN h t ≤ 1 := by
    unfold sqN
    split <;> omega
  intro p _
  unfold pvQ
  repeat' split
  all_goals omega
theorem yvQ_b {h : KH} {c t : Nat} (rc : RC h c) (rr : Rrule h c) (rs : RS h) (ht : t < kN h 198 4) : ∀ n, -1000000 ≤ yvQ h t n ∧ yvQ h t n ≤ 1000000 := by
  intro n
  have n4 := rc.2.2.2.1.2.1.1.2
  have b2 : tmM h t ≤ 99 := (rs.t (show t < 6 by omega)).1.2
  unfold yvQ
  by_cases y : 0 ≤ n ∧ n < (kN h 198 3 : Int)
  · rw [if_pos y]
    have a := ybN_lt rc rr (k := n.toNat) (t := t) (tr := 0) (x := tmM h t) (by omega) ht (by omega) b2
    have b := ybN_lt rc rr (k := n.toNat) (t := t) (tr := 1) (x := tmM h t) (by omega) ht (by omega) b2
    omega
  · rw [if_neg y]
    omega
def Wk (l i : Nat) : Prop := Wscr l i ∨ l = 3 ∨ l = 6 ∨ l = 7
def Wv (c l : Nat) : Prop := l = 7 ∨ l = 168 ∨ l = 169 ∨ l = c + 23 ∨ l = c + 24 ∨ l = c + 25
theorem Wk.rc {h g : KH} {c : Nat} (rc : RC h c) (f : kfp Wk h g) : RC g c := rc.fp f fun l i z w => by
  unfold Wct at z
  unfold Wk Wscr at w
  rcases rc.2.1 with rfl | rfl <;> omega
theorem Wk.rs {h g : KH} (rs : RS h) (f : kfp Wk h g) : RS g := rs.fp f fun l i z w => by
  unfold Wk Wscr at w
  omega
theorem Wk.rr {h g : KH} {c : Nat} (rc : RC h c) (rr : Rrule h c) (f : kfp Wk h g) : Rrule g c := rr.fp f fun l i z w => by
  unfold Wk Wscr at w
  rcases rc.2.1 with rfl | rfl <;> omega
theorem Wk.eq {h g : KH} (f : kfp Wk h g) : (∀ t, tmM g t = tmM h t) ∧ (∀ t, anN g t = anN h t) ∧ hdN g = hdN h ∧ ybN g = ybN h ∧ bitsN g = bitsN h ∧ kN g 198 3 = kN h 198 3 ∧ kN g 198 4 = kN h 198 4 ∧ prN g = prN h ∧ ∀ t, kN g 201 t = kN h 201 t := by
  have I : ∀ l i, 198 ≤ l → l ≤ 207 → kI g l i = kI h l i := fun l i a b => f.2.2.1 _ _ (by unfold Wk Wscr; omega)
  have e3 := I 198 3 (by omega) (by omega)
  have e4 : kN g 198 4 = kN h 198 4 := kN_same (I 198 4 (by omega) (by omega))
  have ea : ∀ t, anN g t = anN h t := fun t => kN_same (I 207 _ (by omega) (by omega))
  refine ⟨fun t => kN_same (I 207 _ (by omega) (by omega)), ea, ?_, ybN_eq fun l i z => I _ _ (by unfold Wlw at z; omega) (by unfold Wlw at z; omega), bitsN_eq (fun l i z => I _ _ (by unfold Wlw at z; omega) (by unfold Wlw at z; omega)) e3, kN_same e3, e4, kN_same (I 203 3 (by omega) (by omega)), fun t => kN_same (I 201 _ (by omega) (by omega))⟩
  unfold hdN
  rw [e4, funext ea]
