/-! a case by draws: what is heard, and who is more likely behind it -/
theorem Law.fqs {h h' : KH} (e : Law h h') : fqS h' = fqS h ∧ kdD h' = kdD h := by
  have a : ∀ tr, (fun k => fqN h' k tr) = fun k => fqN h k tr := fun tr => by
    funext k
    exact e.n (by omega) (by omega)
  have b : fqS h' = fqS h := by
    funext tr
    unfold fqS
    rw [a, e.n (l := 198) (i := 3) (by omega) (by omega)]
  refine ⟨b, ?_⟩
  funext tr d
  unfold kdD
  rw [a, b, e.n (l := 198) (i := 3) (by omega) (by omega)]
theorem pm_0 (h : KH) (cl tr : Nat) : ∀ n, pmN h (fun _ => 0) cl tr n = 1
  | 0 => rfl
  | n + 1 => by
    rw [pmN, pm_0 h cl tr n]
    unfold mkN
    rw [if_pos rfl]
/-- how CLAIMANT cl of a WORLD answers -/
def yB (h : KH) (T : Nat → Nat) (w cl t : Nat) : Nat := ybN h (kdN w cl) t (if w / 36 = cl then 1 else 0) (T t)
theorem kdN_0 (w : Nat) : kdN w 0 = w / 6 % 6 := if_pos rfl
theorem kdN_1 (w : Nat) : kdN w 1 = w % 6 := if_neg (by omega)
theorem yB_0 (h : KH) (T : Nat → Nat) {w : Nat} (t : Nat) : yB h T w 0 t = ybN h (w / 6 % 6) t (1 - w / 36) (T t) := by
  unfold yB
  rw [kdN_0]
  by_cases y : w / 36 = 0
  · rw [if_pos y, y]
  · rw [if_neg y, show 1 - w / 36 = 0 by omega]
theorem yB_1 (h : KH) (T : Nat → Nat) {w : Nat} (hw : w < 72) (t : Nat) : yB h T w 1 t = ybN h (w % 6) t (w / 36) (T t) := by
  unfold yB
  rw [kdN_1]
  by_cases y : w / 36 = 1
  · rw [if_pos y, y]
  · rw [if_neg y, show w / 36 = 0 by omega]
theorem yB_lt {h : KH} {c : Nat} (rc : RC h c) (rr : Rrule h c) {T : Nat → Nat} {w cl t : Nat} (z : vW h w) (hcl : cl < 2) (ht : t < kN h 198 4) (tt : T t ≤ 99) : yB h T w cl t < 2 := by
  have e : cl = 0 ∨ cl = 1 := by omega
  rcases e with rfl | rfl
  · rw [yB_0]
    exact ybN_lt rc rr z.1 ht (by omega) tt
  · rw [yB_1 h T z.2.2]
    have := z.2.2
    exact ybN_lt rc rr z.2.1 ht (by omega) tt
/-- what is heard of a WORLD by tests -/
def hdA (h : KH) (T : Nat → Nat) (s w t : Nat) : Nat := if s / 2 ^ t % 2 = 0 then 0 else 1 + (yB h T w 0 t + 2 * yB h T w 1 t)
theorem ok_hd {h : KH} {c : Nat} (rc : RC h c) (rr : Rrule h c) {T : Nat → Nat} (tl : ∀ t, t < 6 → T t ≤ 99) {s w v cl : Nat} (vw : vW h w) (vv : vW h v) (hcl : cl < 2) :
    okH h T (hdA h T s w) cl (kdN v cl) (if v / 36 = cl then 1 else 0) ↔ ∀ t, t < kN h 198 4 → s / 2 ^ t % 2 ≠ 0 → yB h T w cl t = yB h T v cl t := by
  have n4 := rc.2.2.2.1.2.1.1.2
  have key : ∀ t, t < kN h 198 4 → s / 2 ^ t % 2 ≠ 0 → (hdA h T s w t - 1) / 2 ^ cl % 2 = yB h T w cl t := fun t ht b => by
    have l0 := yB_lt rc rr (T := T) vw (cl := 0) (by omega) ht (tl t (by omega))
    have l1 := yB_lt rc rr (T := T) vw (cl := 1) (by omega) ht (tl t (by omega))
    unfold hdA
    rw [if_neg b]
    have e : cl = 0 ∨ cl = 1 := by omega
    rcases e with rfl | rfl
    · rw [Nat.pow_zero]
      omega
    · rw [Nat.pow_one]
      omega
  constructor
  · intro f t ht b
    rcases f t ht with y | y
    · refine absurd y ?_
      unfold hdA
      rw [if_neg b]
      omega
    · rw [← key t ht b, y]
      rfl
  · intro f t ht
    by_cases b : s / 2 ^ t % 2 = 0
    · exact Or.inl (if_pos b)
    · refine Or.inr ?_
      rw [key t ht b, f t ht b]
      rfl
theorem kX_hd {h : KH} {c : Nat} (rc : RC h c) (rr : Rrule h c) {T : Nat → Nat} (tl : ∀ t, t < 6 → T t ≤ 99) {s w v : Nat} (hs : s < 2 ^ kN h 198 4) (vw : vW h w) (vv : vW h v) :
    kX (paN h T) s v = kX (paN h T) s w ↔ ∀ cl, cl < 2 → ∀ t, t < kN h 198 4 → s / 2 ^ t % 2 ≠ 0 → yB h T w cl t = yB h T v cl t := by
  have n4 := rc.2.2.2.1.2.1.1.2
  have s6 : s < 64 := Nat.lt_of_lt_of_le hs (pow6 _ n4)
  have bit : ∀ u, vW h u → ∀ cl, cl < 2 → ∀ t, t < kN h 198 4 → (paN h T u).testBit (if cl = 0 then 6 + t else t) = decide (yB h T u cl t = 1) := fun u hu cl hcl t ht => by
    rw [Nat.testBit_eq_decide_div_mod_eq, pa_bitT rc rr hu hcl ht (tl t (by omega))]
    rfl
  have tb : ∀ t, s.testBit t = true ↔ s / 2 ^ t % 2 ≠ 0 := fun t => by
    rw [Nat.testBit_eq_decide_div_mod_eq]
    have : s / 2 ^ t % 2 < 2 := Nat.mod_lt _ (by omega)
    constructor
    · intro z
      have := of_decide_eq_true z
      omega
    · intro z
      exact decide_eq_true (by omega)
  show paN h T v &&& (s * 65) = paN h T w &&& (s * 65) ↔ _
  rw [land_eq]
  constructor
  · intro f cl hcl t ht b
    have l0 := yB_lt rc rr (T := T) vw hcl ht (tl t (by omega))
    have l1 := yB_lt rc rr (T := T) vv hcl ht (tl t (by omega))
    have g := f (if cl = 0 then 6 + t else t) (by
      rw [b65 s s6 _ (by split <;> omega), show (if cl = 0 then 6 + t else t) % 6 = t by split <;> omega]
      exact (tb t).mpr b)
    rw [bit v vv cl hcl t ht, bit w vw cl hcl t ht] at g
    have := decide_eq_decide.mp g
    omega
  · intro f i hi
    have i12 : i < 12 := Classical.byContradiction fun z => by rw [tb_big (by omega) (by omega)] at hi; cases hi
    rw [b65 s s6 i i12] at hi
    have ht := tb_n hs hi
    have b := (tb _).mp hi
    by_cases y : 6 ≤ i
    · have e : i = if (0 : Nat) = 0 then 6 + i % 6 else i % 6 := by rw [if_pos rfl]; omega
      rw [e, bit v vv 0 (by omega) _ ht, bit w vw 0 (by omega) _ ht, f 0 (by omega) _ ht b]
    · have e : i = if (1 : Nat) = 0 then 6 + i % 6 else i % 6 := by rw [if_neg (by omega)]; omega
      rw [e, bit v vv 1 (by omega) _ ht, bit w vw 1 (by omega) _ ht, f 1 (by omega) _ ht b]
theorem wt_vW {h : KH} {v : Nat} (z : vW h v) (T A L : Nat → Nat) : wtN h T A L v = (if v / 36 = 0 then kN h 203 2 else 100 - kN h 203 2) * fcN h T A L 0 (v / 6 % 6) (1 - v / 36) * fcN h T A L 1 (v % 6) (v / 36) := by
  unfold wtN
  exact if_pos z
theorem heardW {h : KH} {c : Nat} (rc : RC h c) (rr : Rrule h c) {T : Nat → Nat} (tl : ∀ t, t < 6 → T t ≤ 99) {s w : Nat} (hs : s < 2 ^ kN h 198 4) (vw : vW h w) (v : Nat) :
    wtN h T (hdA h T s w) (fun _ => 0) v = if kX (paN h T) s v = kX (paN h T) s w then fW h v else 0 := by
  by_cases vv : vW h v
  · have k := kX_hd rc rr tl hs vw vv
    have o0 := ok_hd rc rr tl (s := s) vw vv (cl := 0) (by omega)
    have o1 := ok_hd rc rr tl (s := s) vw vv (cl := 1) (by omega)
    rw [kdN_0, show (if v / 36 = 0 then 1 else 0) = 1 - v / 36 by split <;> omega] at o0
    rw [kdN_1, show (if v / 36 = 1 then 1 else 0) = v / 36 by have := vv.2.2; split <;> omega] at o1
    have a0 := fc_eq (h := h) T (hdA h T s w) (fun _ => 0) 0 (v / 6 % 6) (1 - v / 36)
    have a1 := fc_eq (h := h) T (hdA h T s w) (fun _ => 0) 1 (v % 6) (v / 36)
    have b0 := (fc_eq (h := h) (fun _ => 0) (fun _ => 0) (fun _ => 0) 0 (v / 6 % 6) (1 - v / 36)).1 fun t _ => Or.inl rfl
    have b1 := (fc_eq (h := h) (fun _ => 0) (fun _ => 0) (fun _ => 0) 1 (v % 6) (v / 36)).1 fun t _ => Or.inl rfl
    unfold fW
    rw [wt_vW vv, wt_vW vv, b0, b1]
    by_cases y : kX (paN h T) s v = kX (paN h T) s w
    · have f := k.mp y
      rw [if_pos y, a0.1 (o0.mpr (f 0 (by omega))), a1.1 (o1.mpr (f 1 (by omega)))]
    · rw [if_neg y]
      by_cases z : okH h T (hdA h T s w) 0 (v / 6 % 6) (1 - v / 36)
      · by_cases x : okH h T (hdA h T s w) 1 (v % 6) (v / 36)
        · refine absurd (k.mpr fun cl hcl => ?_) y
          have e : cl = 0 ∨ cl = 1 := by omega
          rcases e with rfl | rfl
          · exact o0.mp z
          · exact o1.mp x
        · rw [a1.2 x, Nat.mul_zero]
      · rw [a0.2 z, Nat.mul_zero, Nat.zero_mul]
  · have e : ∀ A L, wtN h T A L v = 0 := fun A L => by unfold wtN; exact if_neg vv
    have e2 : fW h v = 0 := by unfold fW wtN; exact if_neg vv
    rw [e, e2]
    split <;> rfl
theorem sT_gS {W V K : Nat → Nat} {k : Nat} (e : ∀ w, V w = if K w = k then W w else 0) (tr : Nat) : ∀ n, sT V tr n = gS W K tr k n
  | 0 => rfl
  | n + 1 => by
    rw [sT, gS_s, sT_gS e tr n, e n]
    by_cases y : n / 36 = tr
    · by_cases z : K n = k
      · rw [if_pos y, if_pos z, if_pos ⟨y, z⟩]
      · rw [if_pos y, if_neg z, if_neg fun x => z x.2]
    · rw [if_neg y, if_neg fun x => y x.1]
/-- who is more likely behind what a WORLD answers to tests -/
noncomputable def whN (h : KH) (T : Nat → Nat) (s w : Nat) : Nat := if gS (fW h) (kX (paN h T) s) 0 (kX (paN h T) s w) 72 < gS (fW h) (kX (paN h T) s) 1 (kX (paN h T) s w) 72 then 1 else 0
theorem whN_lt (h : KH) (T : Nat → Nat) (s w : Nat) : whN h T s w < 2 := by
  unfold whN
  split <;> omega
theorem x_answerIn {h g : KH} {c : Nat} (rc : RC h c) (rr : Rrule h c) (rg : kRefs g) {T : Nat → Nat} (aw : Aw h g T (kN h 198 4)) {tr z o t : Nat} (htr : tr < 2) (hz : z < kN h 198 3) (ho : o < kN h 198 3) (ht : t < kN h 198 4) (tt : T t ≤ 99) {w : Nat} (ew : w = 36 * tr + 6 * z + o) :
    f_X10_answerIn g 162 (Int32.ofNat tr) (Int32.ofNat z) (Int32.ofNat o) (Int32.ofNat t) = some (Int32.ofNat (yB h T w 0 t + 2 * yB h T w 1 t)) := by
  have n3 := rc.2.2.2.1.1.1.2
  have n4 := rc.2.2.2.1.2.1.1.2
  have p6 := pow6 _ n4
  have w72 : w < 72 := by omega
  have l0 := awN_lt h T (2 * z + 1 - tr) (kN h 198 4)
  have l1 := awN_lt h T (2 * o + tr) (kN h 198 4)
  have b0 := bits_bit rc rr (t := t) (x := T t) hz ht (tr := 1 - tr) (by omega) tt
  have b1 := bits_bit rc rr (t := t) (x := T t) ho ht htr tt
  rw [show 2 * z + (1 - tr) = 2 * z + 1 - tr by omega] at b0
  have y0 : yB h T w 0 t = ybN h z t (1 - tr) (T t) := by
    rw [yB_0, show w / 6 % 6 = z by omega, show w / 36 = tr by omega]
  have y1 : yB h T w 1 t = ybN h o t tr (T t) := by
    rw [yB_1 h T w72, show w % 6 = o by omega, show w / 36 = tr by omega]
  unfold f_X10_answerIn
  rw [if_pos kk162, rf162_5 rg, if_pos (show 167 < 999999 by omega), if_pos kk167, kn167, n32_mulr, n32_addl, n32_sub (by omega), if_neg (by rw [n32_cl (by omega)]; exact fun z => z.elim (n32_nn (by omega)) (by omega)), n32_cl (show 2 * z + 1 - tr < 2147483648 by omega), aw _ (by omega), n32_bit (by omega) (by omega), awN_bit _ _ _ _ _ ht, b0, kl_e, n32_mulr, n32_add, if_neg (by rw [n32_cl (by omega)]; exact fun z => z.elim (n32_nn (by omega)) (by omega)), n32_cl (show 2 * o + tr < 2147483648 by omega), aw _ (by omega), n32_bit (by omega) (by omega), awN_bit _ _ _ _ _ ht, b1, kl_e, n32_mulr, n32_add, y0, y1]
theorem x_hearLoop {h g : KH} {c : Nat} (rc : RC h c) (rr : Rrule h c) (rcg : RC g c) (law : Law h g) {T : Nat → Nat} (aw : Aw h g T (kN h 198 4)) (tl : ∀ t, t < 6 → T t ≤ 99) {tr z o s : Nat} (htr : tr < 2) (hz : z < kN h 198 3) (ho : o < kN h 198 3) (hs : s < 2 ^ kN h 198 4) {w : Nat} (ew : w = 36 * tr + 6 * z + o) (g0 : ∀ t, t < 6 → kI g 66 t = 0) :
    ∃ g', kloop (f_X11_caseBySeed_l97 0 (Int32.ofNat tr) (Int32.ofNat z) (Int32.ofNat o) (Int32.ofNat s)) KF ((0 : Int32), g) = some g' ∧ kfp (fun l i => l = 66) g g' ∧ ∀ t, t < 6 → kI g' 66 t = Int32.ofNat (hdA h T s w t) := by
  obtain ⟨rg, hc, h5, hm, -⟩ := id rcg
  have c39 := hc.lt
  have n3 := rc.2.2.2.1.1.1.2
  have n4 := rc.2.2.2.1.2.1.1.2
  have p6 := pow6 _ n4
  have e4 : kI g c 4 = Int32.ofNat (kN h 198 4) := by
    rw [hm.2.1.2, law _ _ (by omega) (by omega)]
    exact rc.2.2.2.1.2.1.1.1
  obtain ⟨g', e, f, q⟩ := kloop_inv (body := f_X11_caseBySeed_l97 0 (Int32.ofNat tr) (Int32.ofNat z) (Int32.ofNat o) (Int32.ofNat s)) (fun k x => x.1 = Int32.ofNat k ∧ kfp (fun l i => l = 66) g x.2 ∧ ∀ t, t < 6 → kI x.2 66 t = Int32.ofNat (if t < k then hdA h T s w t else 0)) (fun r => kfp (fun l i => l = 66) g r ∧ ∀ t, t < 6 → kI r 66 t = Int32.ofNat (if t < kN h 198 4 then hdA h T s w t else 0)) (kN h 198 4) (s0 := ((0 : Int32), g)) (by omega)
    ⟨rfl, kfp.rf, fun t ht => by rw [if_neg (by omega)]; exact g0 t ht⟩ (fun k x hk hP => by
      obtain ⟨x1, q⟩ := x
      obtain ⟨p1, p2, p3⟩ := hP
      dsimp only at p1 p2 p3
      subst p1
      have rq := rg.fp p2
      have q5 : kR q 0 5 = c := (p2.2.1 _ _).trans h5
      have b2 : s / 2 ^ k % 2 < 2 := Nat.mod_lt _ (by omega)
      have ea := x_answerIn rc rr rq (aw.same fun i => p2.2.2.1 _ _ (by omega)) htr hz ho hk (tl k (by omega)) ew
      unfold f_X11_caseBySeed_l97 f_X11_caseBySeed_b147
      dsimp only
      simp only [kl_e]
      rw [if_pos kk0, q5, if_pos (show c < 999999 by omega), if_pos (ct_kk hc), p2.2.2.1 _ _ (by omega), e4, if_neg (by rw [n32_le (by omega) (by omega)]; omega), n32_bit (by omega) (by omega), n32_addl]
      by_cases y : s / 2 ^ k % 2 = 0
      · refine ⟨(Int32.ofNat (k + 1), q), by rw [if_pos (by rw [y]; rfl)], rfl, p2, fun t ht => ?_⟩
        dsimp only
        rw [p3 t ht]
        by_cases u : t = k
        · rw [if_neg (by omega), if_pos (by omega), u]
          unfold hdA
          rw [if_pos y]
        · by_cases v : t < k
          · rw [if_pos v, if_pos (by omega)]
          · rw [if_neg v, if_neg (by omega)]
      · refine ⟨(Int32.ofNat (k + 1), ksI q 66 k (Int32.ofNat (1 + (yB h T w 0 k + 2 * yB h T w 1 k)))), ?_, rfl, p2.sI _ rfl, fun t ht => ?_⟩
        · rw [if_neg (by rw [n32_ne0 (by omega)]; exact y), rf0_11 rq, if_pos (show 162 < 999999 by omega), if_pos kk162, ea, kb_s, rf0_7 rq, if_pos (show 64 < 999999 by omega), if_pos kk64, rf64_4 rq, if_pos (show 66 < 999999 by omega), if_pos kk66, kn66, if_neg (by rw [n32_cl (by omega)]; exact fun z => z.elim (n32_nn (by omega)) (by omega)), n32_cl (show k < 2147483648 by omega), n32_addr]
        · dsimp only
          rw [kI_sI]
          by_cases u : t = k
          · rw [if_pos ⟨rfl, u⟩, if_pos (by omega), u]
            unfold hdA
            rw [if_neg y]
          · rw [if_neg (fun z => u z.2), p3 t ht]
            by_cases v : t < k
            · rw [if_pos v, if_pos (by omega)]
            · rw [if_neg v, if_neg (by omega)]) (fun x hP => by
      obtain ⟨x1, q⟩ := x
      obtain ⟨p1, p2, p3⟩ := hP
      dsimp only at p1 p2 p3
      subst p1
      have q5 : kR q 0 5 = c := (p2.2.1 _ _).trans h5
      refine ⟨q, ?_, p2, p3⟩
      unfold f_X11_caseBySeed_l97
      dsimp only
      rw [if_pos kk0, q5, if_pos (show c < 999999 by omega), if_pos (ct_kk hc), p2.2.2.1 _ _ (by omega), e4, if_pos (by rw [n32_le (by omega) (by omega)]; omega)])
  refine ⟨g', e, f, fun t ht => ?_⟩
  rw [q t ht]
  by_cases y : t < kN h 198 4
  · rw [if_pos y]
  · rw [if_neg y]
    unfold hdA
    rw [if_pos (bit_hi hs (by omega))]
