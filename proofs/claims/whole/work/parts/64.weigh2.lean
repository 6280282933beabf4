/-! all WORLDS with their weights, as the class keeps them -/
noncomputable def wtN (h : KH) (T A L : Nat → Nat) (w : Nat) : Nat := if w / 6 % 6 < kN h 198 3 ∧ w % 6 < kN h 198 3 ∧ w < 72 then (if w / 36 = 0 then kN h 203 2 else 100 - kN h 203 2) * fcN h T A L 0 (w / 6 % 6) (1 - w / 36) * fcN h T A L 1 (w % 6) (w / 36) else 0
/-- how both would answer: six bits each -/
def paN (h : KH) (T : Nat → Nat) (w : Nat) : Nat := awN h T (2 * (w / 6 % 6) + (1 - w / 36)) (kN h 198 4) * 64 + awN h T (2 * (w % 6) + w / 36) (kN h 198 4)
/-- those with WEIGHT -/
def lv (W : Nat → Nat) : Nat → List Nat
  | 0 => []
  | n + 1 => if W n = 0 then lv W n else lv W n ++ [n]
def sT (W : Nat → Nat) (tr : Nat) : Nat → Nat
  | 0 => 0
  | n + 1 => sT W tr n + if n / 36 = tr then W n else 0
theorem lv_mem {W : Nat → Nat} : ∀ {n w : Nat}, w ∈ lv W n → w < n ∧ W w ≠ 0
  | 0, w, h => by cases h
  | n + 1, w, h => by
    unfold lv at h
    by_cases z : W n = 0
    · rw [if_pos z] at h
      have := lv_mem h
      exact ⟨by omega, this.2⟩
    · rw [if_neg z] at h
      rcases List.mem_append.mp h with h | h
      · have := lv_mem h
        exact ⟨by omega, this.2⟩
      · have e : w = n := by simpa using h
        rw [e]
        exact ⟨by omega, z⟩
theorem lv_len (W : Nat → Nat) : ∀ n, (lv W n).length ≤ n
  | 0 => Nat.le_refl _
  | n + 1 => by
    have := lv_len W n
    unfold lv
    by_cases z : W n = 0
    · rw [if_pos z]; omega
    · rw [if_neg z, List.length_append, List.length_singleton]; omega
theorem sT_le {W : Nat → Nat} {b : Nat} (hb : ∀ w, W w ≤ b) (tr : Nat) : ∀ n, sT W tr n ≤ n * b
  | 0 => by rw [sT]; omega
  | n + 1 => by
    have h1 := sT_le hb tr n
    have h2 := hb n
    have h3 : (n + 1) * b = n * b + b := Nat.succ_mul n b
    rw [sT]
    by_cases z : n / 36 = tr
    · rw [if_pos z]; omega
    · rw [if_neg z]; omega
theorem wt_le {h : KH} {c : Nat} (rc : RC h c) (T A L : Nat → Nat) (w : Nat) : wtN h T A L w ≤ 27960524111619 := by
  unfold wtN
  by_cases z : w / 6 % 6 < kN h 198 3 ∧ w % 6 < kN h 198 3 ∧ w < 72
  · rw [if_pos z]
    have f1 := rc.2.2.2.1.2.2.2.1.1.2
    have f2 := rc.2.2.2.1.2.2.2.1.2.1
    have h1 := fcN_le rc T A L (cl := 0) (k := w / 6 % 6) (tr := 1 - w / 36) z.1 (by omega)
    have h2 := fcN_le rc T A L (cl := 1) (k := w % 6) (tr := w / 36) z.2.1 (by omega)
    have h3 : (if w / 36 = 0 then kN h 203 2 else 100 - kN h 203 2) ≤ 99 := by
      by_cases y : w / 36 = 0
      · rw [if_pos y]; exact f1
      · rw [if_neg y]; omega
    exact Nat.le_trans (Nat.mul_le_mul (Nat.mul_le_mul h3 h1) h2) (by omega)
  · rw [if_neg z]; omega
/-- the class's table of WORLDS, as far as n -/
def Wst (g : KH) (W P : Nat → Nat) (n : Nat) : Prop := kI g 162 3 = Int32.ofNat (lv W n).length ∧ (∀ w, w < 72 → kL g 163 w = Int64.ofNat (if w < n then W w else 0)) ∧ (∀ i, i < (lv W n).length → kI g 165 i = Int32.ofNat ((lv W n).getD i 0)) ∧ (∀ w, w ∈ lv W n → kI g 164 w = Int32.ofNat (P w)) ∧ kL g 166 0 = Int64.ofNat (sT W 0 n) ∧ kL g 166 1 = Int64.ofNat (sT W 1 n)
theorem Wst.skip {g : KH} {W P : Nat → Nat} {n : Nat} (x : Wst g W P n) (z : W n = 0) : Wst g W P (n + 1) := by
  obtain ⟨x1, x2, x3, x4, x5, x6⟩ := x
  have el : lv W (n + 1) = lv W n := by rw [lv, if_pos z]
  have es : ∀ tr, sT W tr (n + 1) = sT W tr n := fun tr => by
    rw [sT, z]
    by_cases y : n / 36 = tr
    · rw [if_pos y]
      rfl
    · rw [if_neg y]
      rfl
  unfold Wst
  rw [el, es, es]
  refine ⟨x1, fun w hw => ?_, x3, x4, x5, x6⟩
  rw [x2 w hw]
  by_cases y : w = n
  · rw [if_neg (by omega), if_pos (by omega), y, z]
  · by_cases u : w < n
    · rw [if_pos u, if_pos (by omega)]
    · rw [if_neg u, if_neg (by omega)]
theorem Wst.skips {g : KH} {W P : Nat → Nat} {n : Nat} (x : Wst g W P n) : ∀ m, (∀ w, n ≤ w → w < n + m → W w = 0) → Wst g W P (n + m)
  | 0, _ => x
  | m + 1, z => (x.skips m fun w h1 h2 => z w h1 (by omega)).skip (z (n + m) (by omega) (by omega))
theorem getD_app {l : List Nat} {x i : Nat} (h : i < l.length + 1) : (l ++ [x]).getD i 0 = if i < l.length then l.getD i 0 else x := by
  by_cases z : i < l.length
  · rw [if_pos z]
    show ((l ++ [x])[i]?).getD 0 = (l[i]?).getD 0
    rw [List.getElem?_append_left z]
  · rw [if_neg z, show i = l.length by omega]
    simp
/-- a WORLD put down -/
theorem x_put10 {h g : KH} {c : Nat} (rc : RC h c) (hr : kRefs g) {T A L : Nat → Nat} (aw : Aw h g T (kN h 198 4)) {tr z o n : Nat} (htr : tr < 2) (hz : z < 6) (ho : o < 6) (en : (tr * 6 + z) * 6 + o = n) (x : Wst g (wtN h T A L) (paN h T) n) :
    ∃ g', f_X10_put g 162 (Int32.ofNat tr) (Int32.ofNat z) (Int32.ofNat o) (Int64.ofNat (wtN h T A L n)) = some g' ∧ kfp (fun l i => (163 ≤ l ∧ l ≤ 166) ∨ (l = 162 ∧ i = 3)) g g' ∧ Wst g' (wtN h T A L) (paN h T) (n + 1) := by
  have n4 := rc.2.2.2.1.2.1.1.2
  have wl := wt_le rc T A L n
  have n72 : n < 72 := by omega
  have cn72 := lv_len (wtN h T A L) n
  have hh : f_X10_put g 162 (Int32.ofNat tr) (Int32.ofNat z) (Int32.ofNat o) (Int64.ofNat (wtN h T A L n)) = if wtN h T A L n = 0 then some g else f_X10_put g 162 (Int32.ofNat tr) (Int32.ofNat z) (Int32.ofNat o) (Int64.ofNat (wtN h T A L n)) := by
    by_cases y : wtN h T A L n = 0
    · rw [if_pos y]
      unfold f_X10_put
      rw [kl_e, y, if_pos (by decide)]
    · rw [if_neg y]
  rw [hh]
  by_cases y : wtN h T A L n = 0
  · rw [if_pos y]
    exact ⟨g, rfl, kfp.rf, x.skip y⟩
  · rw [if_neg y]
    obtain ⟨x1, x2, x3, x4, x5, x6⟩ := id x
    have s0 := sT_le (wt_le rc T A L) 0 n
    have s1 := sT_le (wt_le rc T A L) 1 n
    obtain ⟨g1, e1⟩ : ∃ q, q = ksL g 163 n (Int64.ofNat (wtN h T A L n)) := ⟨_, rfl⟩
    have f1 : kfp (fun l i => (163 ≤ l ∧ l ≤ 166) ∨ (l = 162 ∧ i = 3)) g g1 := by rw [e1]; exact kfp.rf.sL _ (by omega)
    have r1 := hr.fp f1
    obtain ⟨g2, e2⟩ : ∃ q, q = ksI g1 164 n (Int32.ofNat (paN h T n)) := ⟨_, rfl⟩
    have f2 : kfp (fun l i => (163 ≤ l ∧ l ≤ 166) ∨ (l = 162 ∧ i = 3)) g g2 := by rw [e2]; exact f1.sI _ (by omega)
    have r2 := hr.fp f2
    obtain ⟨g3, e3⟩ : ∃ q, q = ksL g2 166 tr (Int64.ofNat (sT (wtN h T A L) tr n + wtN h T A L n)) := ⟨_, rfl⟩
    have f3 : kfp (fun l i => (163 ≤ l ∧ l ≤ 166) ∨ (l = 162 ∧ i = 3)) g g3 := by rw [e3]; exact f2.sL _ (by omega)
    have r3 := hr.fp f3
    obtain ⟨g4, e4⟩ : ∃ q, q = ksI (ksI g3 165 (lv (wtN h T A L) n).length (Int32.ofNat n)) 162 3 (Int32.ofNat ((lv (wtN h T A L) n).length + 1)) := ⟨_, rfl⟩
    have f4 : kfp (fun l i => (163 ≤ l ∧ l ≤ 166) ∨ (l = 162 ∧ i = 3)) g g4 := by rw [e4]; exact (f3.sI _ (by omega)).sI _ (by omega)
    have a1 : kI g1 167 (2 * z + 1 - tr) = Int32.ofNat (awN h T (2 * z + 1 - tr) (kN h 198 4)) := by rw [e1, kI_sL]; exact aw _ (by omega)
    have a2 : kI g1 167 (2 * o + tr) = Int32.ofNat (awN h T (2 * o + tr) (kN h 198 4)) := by rw [e1, kI_sL]; exact aw _ (by omega)
    have l1 := awN_lt h T (2 * z + 1 - tr) (kN h 198 4)
    have l2 := awN_lt h T (2 * o + tr) (kN h 198 4)
    have p6 := pow6 _ n4
    have ep : paN h T n = awN h T (2 * z + 1 - tr) (kN h 198 4) * 64 + awN h T (2 * o + tr) (kN h 198 4) := by
      unfold paN
      rw [show n / 6 % 6 = z by omega, show n % 6 = o by omega, show n / 36 = tr by omega, show 2 * z + (1 - tr) = 2 * z + 1 - tr by omega]
    have eor : awN h T (2 * z + 1 - tr) (kN h 198 4) * 64 ||| awN h T (2 * o + tr) (kN h 198 4) = paN h T n := by
      rw [ep]
      have := Nat.shiftLeft_add_eq_or_of_lt (i := 6) (b := awN h T (2 * o + tr) (kN h 198 4)) (by omega) (awN h T (2 * z + 1 - tr) (kN h 198 4))
      rw [Nat.shiftLeft_eq] at this
      exact this.symm
    have s66 : kL g2 166 tr = Int64.ofNat (sT (wtN h T A L) tr n) := by
      rw [e2, kL_sI, e1, kL_sL, if_neg (by omega)]
      have : tr = 0 ∨ tr = 1 := by omega
      rcases this with rfl | rfl
      · exact x5
      · exact x6
    have c62 : kI g3 162 3 = Int32.ofNat (lv (wtN h T A L) n).length := by
      rw [e3, kI_sL, e2, kI_sI, if_neg (by omega), e1, kI_sL, x1]
    have c62' : kI (ksI g3 165 (lv (wtN h T A L) n).length (Int32.ofNat n)) 162 3 = Int32.ofNat (lv (wtN h T A L) n).length := by rw [kI_sI, if_neg (by omega), c62]
    have el : lv (wtN h T A L) (n + 1) = lv (wtN h T A L) n ++ [n] := by rw [lv, if_neg y]
    refine ⟨g4, ?_, f4, ?_, fun w hw => ?_, fun i hi => ?_, fun w hw => ?_, ?_, ?_⟩
    · unfold f_X10_put
      have sh6 : ∀ a, a < 64 → Int32.ofNat a <<< ((6 : Int32) &&& 31) = Int32.ofNat (a * 64) := by decide +kernel
      rw [n32_mull, n32_add, n32_mull, n32_add, en, kl_e, if_neg (by rw [show (0 : Int64) = Int64.ofNat 0 from rfl, lgn_le0 (by omega) (by omega)]; omega), if_pos kk162, rf162_0 hr, if_pos (show 163 < 999999 by omega), if_pos kk163, kn163, if_neg (by rw [n32_le (by omega) (by omega)]; omega), rf162_2 hr, if_pos (show 165 < 999999 by omega), if_pos kk165, kn165, x1, if_neg (by rw [n32_le (by omega) (by omega)]; omega), if_neg (by rw [n32_cl (by omega)]; exact fun z => z.elim (n32_nn (by omega)) (by omega)), n32_cl (show n < 2147483648 by omega), ← e1, kl_e]
      rw [rf162_1 r1, if_pos (show 164 < 999999 by omega), rf162_5 r1, if_pos (show 167 < 999999 by omega), if_pos kk167, kn167, n32_mulr, n32_addl, n32_sub (by omega), if_neg (by rw [n32_cl (by omega)]; exact fun z => z.elim (n32_nn (by omega)) (by omega)), n32_mulr, n32_add, if_neg (by rw [n32_cl (by omega)]; exact fun z => z.elim (n32_nn (by omega)) (by omega)), if_pos kk164, kn164, if_neg (fun z => z.elim (n32_nn (by omega)) (by omega)), n32_cl (show 2 * z + 1 - tr < 2147483648 by omega), n32_cl (show 2 * o + tr < 2147483648 by omega), a1, a2, sh6 _ (by omega), n32_or, eor, ← e2, kl_e]
      rw [rf162_4 r2, if_pos (show 166 < 999999 by omega), if_pos kk166, kn166, if_neg (by rw [n32_cl (by omega)]; exact fun z => z.elim (n32_nn (by omega)) (by omega)), n32_cl (show tr < 2147483648 by omega), s66, n64_add, ← e3, kl_e]
      rw [rf162_2 r3, if_pos (show 165 < 999999 by omega), if_pos kk165, kn165, c62, if_neg (by rw [n32_cl (by omega)]; exact fun z => z.elim (n32_nn (by omega)) (by omega)), n32_cl (by omega), kl_e, c62', n32_addl, ← e4, kl_e]
    · rw [e4, kI_sI, if_pos ⟨rfl, rfl⟩, el, List.length_append, List.length_singleton]
    · rw [e4, kL_sI, kL_sI, e3, kL_sL, if_neg (by omega), e2, kL_sI, e1, kL_sL]
      by_cases u : w = n
      · rw [if_pos ⟨rfl, u⟩, if_pos (by omega), u]
      · rw [if_neg (fun q => u q.2), x2 w hw]
        by_cases q : w < n
        · rw [if_pos q, if_pos (by omega)]
        · rw [if_neg q, if_neg (by omega)]
    · rw [el, List.length_append, List.length_singleton] at hi
      rw [el, getD_app hi, e4, kI_sI, if_neg (by omega), kI_sI]
      by_cases u : i < (lv (wtN h T A L) n).length
      · rw [if_neg (by omega), if_pos u, e3, kI_sL, e2, kI_sI, if_neg (by omega), e1, kI_sL]
        exact x3 i u
      · rw [if_pos ⟨rfl, by omega⟩, if_neg u]
    · rw [e4, kI_sI, if_neg (by omega), kI_sI, if_neg (by omega), e3, kI_sL, e2, kI_sI]
      by_cases u : w = n
      · rw [if_pos ⟨rfl, u⟩, u]
      · rw [if_neg (fun q => u q.2), e1, kI_sL]
        rw [el] at hw
        rcases List.mem_append.mp hw with hw | hw
        · exact x4 w hw
        · exact absurd (by simpa using hw) u
    · rw [e4, kL_sI, kL_sI, e3, kL_sL, sT]
      by_cases u : tr = 0
      · rw [if_pos ⟨rfl, u.symm⟩, if_pos (by omega), u]
      · rw [if_neg (fun q => u q.2.symm), if_neg (by omega), e2, kL_sI, e1, kL_sL, if_neg (by omega), x5]
        rfl
    · rw [e4, kL_sI, kL_sI, e3, kL_sL, sT]
      by_cases u : tr = 1
      · rw [if_pos ⟨rfl, u.symm⟩, if_pos (by omega), u]
      · rw [if_neg (fun q => u q.2.symm), if_neg (by omega), e2, kL_sI, e1, kL_sL, if_neg (by omega), x6]
        rfl
