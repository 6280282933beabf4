/-! MERIT -/
theorem land_eq {m a b : Nat} : a &&& m = b &&& m ↔ ∀ i, m.testBit i = true → a.testBit i = b.testBit i := by
  constructor
  · intro e i hi
    have := congrArg (fun x => x.testBit i) e
    simpa [Nat.testBit_and, hi] using this
  · intro f
    refine Nat.eq_of_testBit_eq fun i => ?_
    rw [Nat.testBit_and, Nat.testBit_and]
    cases hm : m.testBit i with
    | false => simp
    | true => rw [f i hm]
theorem b65 : ∀ s, s < 64 → ∀ i, i < 12 → (s * 65).testBit i = s.testBit (i % 6) := by decide +kernel
theorem bk4 : ∀ s, s < 64 → ∀ i, i < 12 → (mk4 s 6).testBit i = s.testBit (i / 2) := by decide +kernel
theorem tb_big {x i : Nat} (hx : x < 4096) (hi : 12 ≤ i) : x.testBit i = false := by
  have : 2 ^ 12 ≤ 2 ^ i := Nat.pow_le_pow_right (by omega) hi
  exact Nat.testBit_lt_two_pow (by omega)
theorem tb_n {s n t : Nat} (hs : s < 2 ^ n) (ht : s.testBit t = true) : t < n := by
  refine Classical.byContradiction fun z => ?_
  rw [Nat.testBit_lt_two_pow (Nat.lt_of_lt_of_le hs (Nat.pow_le_pow_right (by omega) (by omega)))] at ht
  cases ht
def vW (h : KH) (w : Nat) : Prop := w / 6 % 6 < kN h 198 3 ∧ w % 6 < kN h 198 3 ∧ w < 72
theorem pa_tb {h : KH} {c : Nat} (rc : RC h c) (tl : ∀ t, t < 6 → tmM h t ≤ 99) (rr : Rrule h c) {w t : Nat} (z : vW h w) (ht : t < kN h 198 4) : (paN h (tmM h) w).testBit (6 + t) = decide (ywN h 0 t w = 1) ∧ (paN h (tmM h) w).testBit t = decide (ywN h 1 t w = 1) := by
  have a := pa_bit rc tl rr z (cl := 0) (by omega) ht
  have b := pa_bit rc tl rr z (cl := 1) (by omega) ht
  rw [if_pos rfl] at a
  rw [if_neg (by omega)] at b
  rw [Nat.testBit_eq_decide_div_mod_eq, Nat.testBit_eq_decide_div_mod_eq, a, b]
  exact ⟨rfl, rfl⟩
theorem ma_tb {h : KH} {c : Nat} (rc : RC h c) (tl : ∀ t, t < 6 → tmM h t ≤ 99) (rr : Rrule h c) {w t : Nat} (z : vW h w) (ht : t < kN h 198 4) : (maN h w (kN h 198 4)).testBit (2 * t) = decide (ywN h 0 t w = 1) ∧ (maN h w (kN h 198 4)).testBit (2 * t + 1) = decide (ywN h 1 t w = 1) := by
  have n4 := rc.2.2.2.1.2.1.1.2
  have y0 : ∀ t, ywN h 0 t w = ybN h (w / 6 % 6) t (1 - w / 36) (tmM h t) := fun t => by
    unfold ywN kdN
    rw [if_pos rfl]
    by_cases q : w / 36 = 0
    · rw [if_pos q, q]
    · rw [if_neg q, show 1 - w / 36 = 0 by omega]
  have y1 : ∀ t, ywN h 1 t w = ybN h (w % 6) t (w / 36) (tmM h t) := fun t => by
    have := z.2.2
    unfold ywN kdN
    rw [if_neg (by omega)]
    by_cases q : w / 36 = 1
    · rw [if_pos q, q]
    · rw [if_neg q, show w / 36 = 0 by omega]
  have bd : ∀ t, t < kN h 198 4 → ywN h 0 t w < 2 ∧ ywN h 1 t w < 2 := fun t ht => ⟨ywN_lt rc tl rr z ht, ywN_lt rc tl rr z ht⟩
  have m := maN_bit (h := h) (w := w) (kN h 198 4) (fun t ht => by rw [← y0, ← y1]; exact bd t ht) t ht
  rw [← y0, ← y1] at m
  have b := bd t ht
  rw [Nat.testBit_eq_decide_div_mod_eq, Nat.testBit_eq_decide_div_mod_eq, Nat.pow_succ, Nat.pow_mul, ← Nat.div_div_eq_div_mul, show 2 ^ 2 = 4 from rfl]
  have e0 : maN h w (kN h 198 4) / 4 ^ t % 2 = ywN h 0 t w := by omega
  have e1 : maN h w (kN h 198 4) / 4 ^ t / 2 % 2 = ywN h 1 t w := by omega
  rw [e0, e1]
  exact ⟨rfl, rfl⟩
theorem ma_lt {h : KH} {c : Nat} (rc : RC h c) (tl : ∀ t, t < 6 → tmM h t ≤ 99) (rr : Rrule h c) {w : Nat} (z : vW h w) : maN h w (kN h 198 4) < 4096 := by
  have n4 := rc.2.2.2.1.2.1.1.2
  have := maN_lt (h := h) (w := w) (kN h 198 4) (fun t ht => by
    refine ⟨ybN_lt rc rr z.1 ht (by omega) (tl t (by omega)), ybN_lt rc rr z.2.1 ht ?_ (tl t (by omega))⟩
    have := z.2.2
    omega)
  have p : 4 ^ kN h 198 4 ≤ 4 ^ 6 := Nat.pow_le_pow_right (by omega) n4
  omega
/-- whom the class can't tell apart behind tests, nor can the model -/
theorem key_eq {h g : KH} {c : Nat} (rc : RC h c) (tl : ∀ t, t < 6 → tmM h t ≤ 99) (rr : Rrule h c) (hm : ∀ w, vW h w → kI g 214 w = Int32.ofNat (maN h w (kN h 198 4))) {s : Nat} (hs : s < 2 ^ kN h 198 4) {w v : Nat} (hw : vW h w) (hv : vW h v) :
    (paN h (tmM h) w &&& (s * 65) = paN h (tmM h) v &&& (s * 65)) ↔ mK g s w = mK g s v := by
  have n4 := rc.2.2.2.1.2.1.1.2
  have s6 : s < 64 := Nat.lt_of_lt_of_le hs (pow6 _ n4)
  have mk := mk4_lt s s6
  have eM : ∀ x, vW h x → mK g s x = maN h x (kN h 198 4) &&& mk4 s 6 := fun x hx => by
    have l : maN h x (kN h 198 4) &&& mk4 s 6 ≤ mk4 s 6 := Nat.and_le_right
    unfold mK
    rw [hm x hx, n32_and, n32_cl (by omega)]
  rw [eM w hw, eM v hv, land_eq, land_eq]
  constructor
  · intro f i hi
    have i12 : i < 12 := Classical.byContradiction fun z => by rw [tb_big mk (by omega)] at hi; cases hi
    rw [bk4 s s6 i i12] at hi
    have ht := tb_n hs hi
    have a := pa_tb rc tl rr hw ht
    have b := pa_tb rc tl rr hv ht
    have c := ma_tb rc tl rr hw ht
    have d := ma_tb rc tl rr hv ht
    have f0 := f (6 + i / 2) (by rw [b65 s s6 _ (by omega), show (6 + i / 2) % 6 = i / 2 by omega]; exact hi)
    have f1 := f (i / 2) (by rw [b65 s s6 _ (by omega), show (i / 2) % 6 = i / 2 by omega]; exact hi)
    rw [a.1, b.1] at f0
    rw [a.2, b.2] at f1
    rcases Nat.mod_two_eq_zero_or_one i with y | y
    · rw [show i = 2 * (i / 2) by omega, c.1, d.1, f0]
    · rw [show i = 2 * (i / 2) + 1 by omega, c.2, d.2, f1]
  · intro f i hi
    have i12 : i < 12 := Classical.byContradiction fun z => by rw [tb_big (by omega) (by omega)] at hi; cases hi
    rw [b65 s s6 i i12] at hi
    have ht := tb_n hs hi
    have a := pa_tb rc tl rr hw ht
    have b := pa_tb rc tl rr hv ht
    have c := ma_tb rc tl rr hw ht
    have d := ma_tb rc tl rr hv ht
    have f0 := f (2 * (i % 6)) (by rw [bk4 s s6 _ (by omega), show 2 * (i % 6) / 2 = i % 6 by omega]; exact hi)
    have f1 := f (2 * (i % 6) + 1) (by rw [bk4 s s6 _ (by omega), show (2 * (i % 6) + 1) / 2 = i % 6 by omega]; exact hi)
    rw [c.1, d.1] at f0
    rw [c.2, d.2] at f1
    by_cases y : 6 ≤ i
    · rw [show i = 6 + i % 6 by omega, a.1, b.1, f0]
    · rw [show i = i % 6 by omega, a.2, b.2, f1]
/-! merits as numbers below nothing too -/
theorem z64_toInt {a : Int} (h : -1000000000000000 ≤ a ∧ a ≤ 1000000000000000) : (Int64.ofInt a).toInt = a := Int64.toInt_ofInt_of_le (by omega) (by omega)
theorem z64_lt {a b : Int} (ha : -1000000000000000 ≤ a ∧ a ≤ 1000000000000000) (hb : -1000000000000000 ≤ b ∧ b ≤ 1000000000000000) : lg_cmp (Int64.ofInt a) (Int64.ofInt b) < 0 ↔ a < b := by
  rw [lgc_lt, z64_toInt ha, z64_toInt hb]
theorem z64_gt {a b : Int} (ha : -1000000000000000 ≤ a ∧ a ≤ 1000000000000000) (hb : -1000000000000000 ≤ b ∧ b ≤ 1000000000000000) : 0 < lg_cmp (Int64.ofInt a) (Int64.ofInt b) ↔ b < a := by
  rw [lgc_gt, z64_toInt ha, z64_toInt hb]
theorem z64_ge {a b : Int} (ha : -1000000000000000 ≤ a ∧ a ≤ 1000000000000000) (hb : -1000000000000000 ≤ b ∧ b ≤ 1000000000000000) : 0 ≤ lg_cmp (Int64.ofInt a) (Int64.ofInt b) ↔ b ≤ a := by
  rw [← Int32.not_lt, z64_lt ha hb]
  omega
theorem z64_eq {a b : Int} (ha : -1000000000000000 ≤ a ∧ a ≤ 1000000000000000) (hb : -1000000000000000 ≤ b ∧ b ≤ 1000000000000000) : lg_cmp (Int64.ofInt a) (Int64.ofInt b) = 0 ↔ a = b := by
  rw [lgc_eq, ← Int64.toInt_inj, z64_toInt ha, z64_toInt hb]
theorem n64_z (a : Nat) : Int64.ofNat a = Int64.ofInt (a : Int) := rfl
theorem z64_sub (a b : Nat) : Int64.ofNat a - Int64.ofNat b = Int64.ofInt ((a : Int) - b) := by
  rw [n64_z, n64_z, ← Int64.ofInt_sub]
theorem n32_free : ∀ n, n < 7 → ∀ d, d < 2 ^ n → ∀ s, s < 2 ^ n → ((Int32.ofNat s &&& (Int32.ofNat (2 ^ n - 1 - d) ^^^ (-1 : Int32))) = 0 ↔ s &&& d = 0) := by decide +kernel
/-- MERIT of tests -/
def prN (h : KH) : Nat := kN h 203 3
noncomputable def mrZ (h : KH) (W K : Nat → Nat) (s : Nat) : Int := ((rN W K * 1000000 / aT W 72 : Nat) : Int) - (hmN h s (kN h 198 4) * prN h : Nat)
theorem hp_le {h : KH} {c : Nat} (rc : RC h c) (s : Nat) : hmN h s (kN h 198 4) * prN h ≤ 5939406 := by
  have a := rc.hm s (Nat.le_refl _)
  have b := rc.2.2.2.1.2.2.2.2.1.2
  exact Nat.le_trans (Nat.mul_le_mul a b) (by omega)
theorem div_le6 {p a : Nat} (h : p ≤ a) : p * 1000000 / a ≤ 1000000 := by
  by_cases z : a = 0
  · rw [z, Nat.div_zero]; omega
  · exact Nat.div_le_of_le_mul (Nat.mul_le_mul_right _ h)
theorem mrZ_b {h : KH} {c : Nat} (rc : RC h c) (W K : Nat → Nat) (hK : ∀ w, K w < 4096) (s : Nat) : -5939406 ≤ mrZ h W K s ∧ mrZ h W K s ≤ 1000000 := by
  have a := hp_le rc s
  have b := div_le6 (rN_le W K hK)
  unfold mrZ
  generalize hmN h s (kN h 198 4) * prN h = y at a ⊢
  generalize rN W K * 1000000 / aT W 72 = x at b ⊢
  omega
theorem x_shareW {g : KH} (hr : kRefs g) {W P : Nat → Nat} (wb : ∀ w, W w ≤ 27960524111619) (ws : Wst g W P 72) {p : Nat} (hp : p ≤ aT W 72) : f_X10_share g 162 (Int64.ofNat p) = some (if aT W 72 = 0 then -1 else Int32.ofNat (p * 1000000 / aT W 72)) := by
  have ab := aT_wb wb
  rw [Wst] at ws
  obtain ⟨-, -, -, -, s0, s1⟩ := ws
  have et : f_X10_total g 162 = some (Int64.ofNat (aT W 72)) := by
    unfold f_X10_total
    rw [if_pos kk162, rf162_4 hr, if_pos (show 166 < 999999 by omega), if_pos kk166, kn166, if_neg (show ¬ 2 ≤ 0 by omega), if_neg (show ¬ 2 ≤ 1 by omega), s0, s1, n64_add, aT_sT _ 72 (Nat.le_refl _)]
  unfold f_X10_share
  rw [if_pos kk162, et, kb_s]
  by_cases z : aT W 72 = 0
  · rw [z, x_millionths0, kb_s, if_pos rfl]
  · rw [x_millionths g hp ab z, kb_s, if_neg z]
theorem x_totalW {g : KH} (hr : kRefs g) {W P : Nat → Nat} (ws : Wst g W P 72) : f_X10_total g 162 = some (Int64.ofNat (aT W 72)) := by
  obtain ⟨-, -, -, -, s0, s1⟩ := ws
  unfold f_X10_total
  rw [if_pos kk162, rf162_4 hr, if_pos (show 166 < 999999 by omega), if_pos kk166, kn166, if_neg (show ¬ 2 ≤ 0 by omega), if_neg (show ¬ 2 ≤ 1 by omega), s0, s1, n64_add, aT_sT _ 72 (Nat.le_refl _)]
theorem W89.sc {l i : Nat} (z : W89 l i) : Wscr l i := by
  unfold W89 at z
  unfold Wscr
  omega
theorem Wst.same {g g' : KH} {W P : Nat → Nat} {n : Nat} {V : Nat → Nat → Prop} (s : Wst g W P n) (f : kfp V g g') (hd : ∀ l i, l = 162 ∧ i = 3 ∨ 163 ≤ l ∧ l ≤ 166 → ¬ V l i) : Wst g' W P n := by
  obtain ⟨a, b, c, d, e1, e2⟩ := s
  refine ⟨?_, fun w hw => ?_, fun i hi => ?_, fun w hw => ?_, ?_, ?_⟩
  · rw [f.2.2.1 _ _ (hd _ _ (by omega))]; exact a
  · rw [f.2.2.2 _ _ (hd _ _ (by omega))]; exact b w hw
  · rw [f.2.2.1 _ _ (hd _ _ (by omega))]; exact c i hi
  · rw [f.2.2.1 _ _ (hd _ _ (by omega))]; exact d w hw
  · rw [f.2.2.2 _ _ (hd _ _ (by omega))]; exact e1
  · rw [f.2.2.2 _ _ (hd _ _ (by omega))]; exact e2
def kX (P : Nat → Nat) (s : Nat) : Nat → Nat := fun w => P w &&& (s * 65)
theorem kX_lt (P : Nat → Nat) {s : Nat} (hs : s < 64) (w : Nat) : kX P s w < 4096 := by
  have : P w &&& (s * 65) ≤ s * 65 := Nat.and_le_right
  show P w &&& (s * 65) < 4096
  omega
theorem x_meritOf {h g : KH} {c : Nat} (rc : RC h c) (fg : kfp Wscr h g) {W P : Nat → Nat} (wb : ∀ w, W w ≤ 27960524111619) (ws : Wst g W P 72) (rz : Rzero g) (a0 : aT W 72 ≠ 0) {s : Nat} (hs : s < 64) : ∃ g', f_X10_meritOf g 162 c (Int32.ofNat s) = some (Int64.ofInt (mrZ h W (kX P s) s), g') ∧ kfp W89 g g' ∧ Rzero g' := by
  obtain ⟨hr, hc, h5, hm, -⟩ := id rc
  have c39 := hc.lt
  have rg := hr.fp fg
  obtain ⟨g1, e0, f1, z1⟩ := x_rightOf rg wb ws rz hs
  have e1 : f_X10_rightOf g 162 (Int32.ofNat s) = some (Int64.ofNat (rN W (kX P s)), g1) := e0
  have r1 := rg.fp f1
  have rc1 := rc.sc (fg.tr (f1.wide fun l i z => z.sc))
  have F := fg.tr (f1.wide fun l i z => W89.sc z)
  have rl := rN_le W (kX P s) (kX_lt P hs)
  have d6 := div_le6 rl
  have hh := rc.hm s (Nat.le_refl _)
  have n4 : kN g1 198 4 = kN h 198 4 := kN_same (F.2.2.1 _ _ (by unfold Wscr; omega))
  have c7 : kI g1 c 7 = Int32.ofNat (prN h) := by
    rw [F.2.2.1 _ _ (by unfold Wscr; rcases hc with rfl | rfl <;> omega), hm.2.2.2.2.2, hm.2.2.2.2.1.1]
    rfl
  have p9 : prN h ≤ 9999 := hm.2.2.2.2.1.2
  refine ⟨g1, ?_, f1, z1⟩
  unfold f_X10_meritOf mrZ
  rw [if_pos kk162, e1, kb_s, x_shareW r1 wb (ws.same f1 fun l i z => by unfold W89; omega) rl, if_neg a0, kb_s, if_pos (ct_kk hc), x_harmOf rc1 (by omega), kb_s, c7, n4, hmN_cg (h := h) (h' := g1) (fun t => kN_same (F.2.2.1 _ _ (by unfold Wscr; omega))), n32_toI64 (by omega), n32_toI64 (by omega), n32_toI64 (by omega), n64_mul, z64_sub]
theorem m_meritOf {h g : KH} {c : Nat} (rc : RC h c) (fg : kfp Wscr h g) {W : Nat → Nat} (wb : ∀ w, W w ≤ 27960524111619) (ws : ∀ w, w < 72 → kL g 213 w = Int64.ofNat (W w)) (wa : kL g 173 56 = Int64.ofNat (aT W 72)) (rz : Rzero g) (a0 : aT W 72 ≠ 0) {s : Nat} (hs : s < 64) : ∃ g', f_X12_meritOf g 173 (Int32.ofNat s) = some (Int64.ofInt (mrZ h W (mK g s) s), g') ∧ kfp (fun l _ => l = 215) g g' ∧ Rzero g' := by
  obtain ⟨hr, hc, h5, hm, -⟩ := id rc
  have rg := hr.fp fg
  have ab := aT_wb wb
  obtain ⟨g1, e1, f1, z1⟩ := m_rightBy rg wb ws rz hs
  have r1 := rg.fp f1
  have F := fg.tr (f1.wide (W := Wscr) fun l i z => by unfold Wscr; omega)
  have rc1 := rc.sc F
  have rl := rN_le W (mK g s) (mK_lt g hs)
  have d6 := div_le6 rl
  have hh := rc.hm s (Nat.le_refl _)
  have n4 : kN g1 198 4 = kN h 198 4 := kN_same (F.2.2.1 _ _ (by unfold Wscr; omega))
  have c7 : kI g1 203 3 = Int32.ofNat (prN h) := by
    rw [F.2.2.1 _ _ (by unfold Wscr; omega), hm.2.2.2.2.1.1]
    rfl
  have p9 : prN h ≤ 9999 := hm.2.2.2.2.1.2
  refine ⟨g1, ?_, f1, z1⟩
  unfold f_X12_meritOf mrZ
  rw [if_pos kk173, e1, kb_s, m_millionths (by rw [f1.2.2.2 _ _ (by omega)]; exact wa) rl ab a0, kb_s, m_harmOf rc1 (by omega), kb_s, rf173_38 r1, if_pos (show 203 < 999999 by omega), if_pos kk203, kn203, if_neg (show ¬ 4 ≤ 3 by omega), c7, n4, hmN_cg (h := h) (h' := g1) (fun t => kN_same (F.2.2.1 _ _ (by unfold Wscr; omega))), n32_toI64 (by omega), n32_toI64 (by omega), n32_toI64 (by omega), n64_mul, z64_sub]
