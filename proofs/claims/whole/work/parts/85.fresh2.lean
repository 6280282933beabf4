/-- a heap on which all that the rules say is the same -/
def Law (h h' : KH) : Prop := ∀ l i, 198 ≤ l → l ≤ 206 → kI h' l i = kI h l i
theorem Law.yb {h h' : KH} (e : Law h h') : ybN h' = ybN h := ybN_eq fun l i z => e l i (by unfold Wlw at z; omega) (by unfold Wlw at z; omega)
theorem Law.bits {h h' : KH} (e : Law h h') : bitsN h' = bitsN h := bitsN_eq (fun l i z => e l i (by unfold Wlw at z; omega) (by unfold Wlw at z; omega)) (e _ _ (by omega) (by omega))
theorem Law.n {h h' : KH} (e : Law h h') {l i : Nat} (a : 198 ≤ l) (b : l ≤ 206) : kN h' l i = kN h l i := kN_same (e l i a b)
theorem Law.aw {h h' : KH} (e : Law h h') (T : Nat → Nat) (who : Nat) : ∀ n, awN h' T who n = awN h T who n
  | 0 => rfl
  | n + 1 => by rw [awN, awN, Law.aw e T who n, e.bits]
theorem Law.pa {h h' : KH} (e : Law h h') (T : Nat → Nat) : paN h' T = paN h T := by
  funext w
  unfold paN
  rw [e.n (by omega) (by omega), e.aw, e.aw]
theorem Law.wt {h h' : KH} (x : Law h h') : wtN h' = wtN h := by
  have ef : fcN h' = fcN h := by
    funext T A L cl k tr
    have eo : okH h' T A cl k tr ↔ okH h T A cl k tr := by
      unfold okH
      rw [x.n (l := 198) (i := 4) (by omega) (by omega), x.yb]
    have eq : fqN h' k tr = fqN h k tr := x.n (by omega) (by omega)
    have ep := pmN_cg (h := h) (h' := h') (fun i => x.n (l := 202) (by omega) (by omega)) L cl tr
    obtain ⟨a1, a2⟩ := fc_eq (h := h') T A L cl k tr
    obtain ⟨b1, b2⟩ := fc_eq (h := h) T A L cl k tr
    by_cases z : okH h T A cl k tr
    · rw [a1 (eo.mpr z), b1 z, eq, ep, x.n (l := 198) (i := 5) (by omega) (by omega)]
    · rw [a2 (fun y => z (eo.mp y)), b2 z]
  funext T A L w
  unfold wtN
  rw [ef, x.n (l := 198) (i := 3) (by omega) (by omega), x.n (l := 203) (i := 2) (by omega) (by omega)]
theorem Law.hm {h h' : KH} (e : Law h h') (s : Nat) (n : Nat) : hmN h' s n = hmN h s n := hmN_cg (fun t => e.n (by omega) (by omega)) n
theorem pmN_cgL (h : KH) {L L' : Nat → Nat} (l : ∀ i, i < 10 → L i = L' i) {cl : Nat} (hcl : cl < 2) (tr : Nat) : ∀ n, n ≤ 5 → pmN h L cl tr n = pmN h L' cl tr n
  | 0, _ => rfl
  | n + 1, hn => by
    rw [pmN, pmN, pmN_cgL h l hcl tr n (by omega)]
    unfold mkN
    rw [l _ (by omega)]
/-- with nothing heard, WEIGHTS don't ask how often a test was heard -/
theorem wtN_fresh {h : KH} {c : Nat} (rc : RC h c) {T A L T' A' L' : Nat → Nat} (a : ∀ t, t < 6 → A t = 0) (a' : ∀ t, t < 6 → A' t = 0) (l : ∀ i, i < 10 → L i = L' i) : wtN h T A L = wtN h T' A' L' := by
  have n4 := rc.2.2.2.1.2.1.1.2
  have n5 := rc.2.2.2.1.2.2.1.1.2
  have ef : ∀ cl k tr, cl < 2 → fcN h T A L cl k tr = fcN h T' A' L' cl k tr := fun cl k tr hcl => by
    rw [(fc_eq (h := h) T A L cl k tr).1 (fun t ht => Or.inl (a t (by omega))), (fc_eq (h := h) T' A' L' cl k tr).1 (fun t ht => Or.inl (a' t (by omega))), pmN_cgL h l hcl tr _ n5]
  funext w
  unfold wtN
  rw [ef _ _ _ (by omega), ef _ _ _ (by omega)]
/-- behind one test alone, only how often that one was heard is asked -/
theorem pa_bitT {h : KH} {c : Nat} (rc : RC h c) (rr : Rrule h c) {T : Nat → Nat} {w cl t : Nat} (z : vW h w) (hcl : cl < 2) (ht : t < kN h 198 4) (tt : T t ≤ 99) : paN h T w / 2 ^ (if cl = 0 then 6 + t else t) % 2 = ybN h (kdN w cl) t (if w / 36 = cl then 1 else 0) (T t) := by
  obtain ⟨hz, ho, hw⟩ := z
  have n3 := rc.2.2.2.1.1.1.2
  have n4 := rc.2.2.2.1.2.1.1.2
  have l2 := awN_lt h T (2 * (w % 6) + w / 36) (kN h 198 4)
  have p6 := pow6 _ n4
  unfold paN kdN
  by_cases y : cl = 0
  · rw [if_pos y, if_pos y, y, Nat.pow_add, ← Nat.div_div_eq_div_mul, show 2 ^ 6 = 64 from rfl, show (awN h T (2 * (w / 6 % 6) + (1 - w / 36)) (kN h 198 4) * 64 + awN h T (2 * (w % 6) + w / 36) (kN h 198 4)) / 64 = awN h T (2 * (w / 6 % 6) + (1 - w / 36)) (kN h 198 4) by omega, awN_bit _ _ _ _ _ ht, bits_bit rc rr hz ht (by omega) tt]
    by_cases q : w / 36 = 0
    · rw [if_pos q, q]
    · rw [if_neg q, show 1 - w / 36 = 0 by omega]
  · rw [if_neg y, if_neg y]
    have e : (awN h T (2 * (w / 6 % 6) + (1 - w / 36)) (kN h 198 4) * 64 + awN h T (2 * (w % 6) + w / 36) (kN h 198 4)) / 2 ^ t % 2 = awN h T (2 * (w % 6) + w / 36) (kN h 198 4) / 2 ^ t % 2 := by
      have p : 64 = 2 ^ (6 - t - 1) * 2 * 2 ^ t := by
        rw [← Nat.pow_succ, ← Nat.pow_add, show 6 - t - 1 + 1 + t = 6 by omega]
      rw [Nat.add_comm]
      conv => lhs; rw [p]
      rw [← Nat.mul_assoc, Nat.add_mul_div_right _ _ (Nat.pow_pos (by omega)), ← Nat.mul_assoc, Nat.add_mul_mod_self_right]
    rw [e, awN_bit _ _ _ _ _ ht, bits_bit rc rr ho ht (by omega) tt]
    by_cases q : w / 36 = cl
    · rw [if_pos q, q, show cl = 1 by omega]
    · rw [if_neg q, show w / 36 = 0 by omega]
theorem one65 : ∀ t, t < 6 → ∀ i, i < 12 → (2 ^ t * 65).testBit i = true → i = t ∨ i = 6 + t := by decide +kernel
theorem kX_one {h : KH} {c : Nat} (rc : RC h c) (rr : Rrule h c) {T T' : Nat → Nat} {t : Nat} (ht : t < kN h 198 4) (tt : T t ≤ 99) (e : T t = T' t) {w : Nat} (z : vW h w) : kX (paN h T) (2 ^ t) w = kX (paN h T') (2 ^ t) w := by
  have n4 := rc.2.2.2.1.2.1.1.2
  have tp : 2 ^ t ≤ 2 ^ 5 := Nat.pow_le_pow_right (by omega) (by omega)
  have a0 := pa_bitT rc rr (T := T) z (cl := 0) (by omega) ht tt
  have a1 := pa_bitT rc rr (T := T) z (cl := 1) (by omega) ht tt
  have b0 := pa_bitT rc rr (T := T') z (cl := 0) (by omega) ht (by omega)
  have b1 := pa_bitT rc rr (T := T') z (cl := 1) (by omega) ht (by omega)
  rw [if_pos rfl] at a0 b0
  rw [if_neg (by omega)] at a1 b1
  show paN h T w &&& (2 ^ t * 65) = paN h T' w &&& (2 ^ t * 65)
  rw [land_eq]
  intro i hi
  have i12 : i < 12 := Classical.byContradiction fun y => by rw [tb_big (by omega) (by omega)] at hi; cases hi
  rcases one65 t (by omega) i i12 hi with y | y
  · rw [y, Nat.testBit_eq_decide_div_mod_eq, Nat.testBit_eq_decide_div_mod_eq, a1, b1, e]
  · rw [y, Nat.testBit_eq_decide_div_mod_eq, Nat.testBit_eq_decide_div_mod_eq, a0, b0, e]
