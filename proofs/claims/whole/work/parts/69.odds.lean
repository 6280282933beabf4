/-! parts of all in millionths; sums; both sides weighed -/
noncomputable def WN (h : KH) : Nat → Nat := wtN h (tmM h) (anN h) (lkM h)
def Rzero (h : KH) : Prop := (∀ i, i < 4096 → kL h 168 i = 0 ∧ kL h 169 i = 0) ∧ ∀ i, i < 8192 → kL h 215 i = 0
theorem Rzero.fp {W : Nat → Nat → Prop} {h h' : KH} (z : Rzero h) (x : kfp W h h') (hd : ∀ l i, l = 168 ∨ l = 169 ∨ l = 215 → ¬ W l i) : Rzero h' := by
  refine ⟨fun i hi => ⟨?_, ?_⟩, fun i hi => ?_⟩
  · rw [x.2.2.2 _ _ (hd _ _ (Or.inl rfl))]; exact (z.1 i hi).1
  · rw [x.2.2.2 _ _ (hd _ _ (Or.inr (Or.inl rfl)))]; exact (z.1 i hi).2
  · rw [x.2.2.2 _ _ (hd _ _ (Or.inr (Or.inr rfl)))]; exact z.2 i hi
/-- a call that changes nothing that lasts -/
def Scr (h h' : KH) (c : Nat) : Prop := kfp Wscr h h' ∧ Ryt h' c ∧ Rzero h'
theorem Scr.rf {h : KH} {c : Nat} (ry : Ryt h c) (rz : Rzero h) : Scr h h c := ⟨kfp.rf, ry, rz⟩
theorem div10 (p a : Nat) : p / a * 10 + p % a * 10 / a = p * 10 / a ∧ p % a * 10 % a = p * 10 % a := by
  by_cases ha : a = 0
  · subst ha
    simp
  · have e : p * 10 = p % a * 10 + p / a * 10 * a := by
      have := Nat.mod_add_div p a
      rw [Nat.mul_right_comm, Nat.mul_comm (p / a) a, ← Nat.add_mul, this]
    refine ⟨?_, ?_⟩
    · rw [e, Nat.add_mul_div_right _ _ (by omega), Nat.add_comm]
    · rw [e, Nat.add_mul_mod_self_right]
theorem x_millionths (h : KH) {p a : Nat} (hp : p ≤ a) (ha : a < 900000000000000000) (a0 : a ≠ 0) : f_X11_millionths h (Int64.ofNat p) (Int64.ofNat a) = some (Int32.ofNat (p * 1000000 / a)) := by
  have an : ¬ Int64.ofNat a = 0 := fun e => a0 ((n64_eq (b := 0) (by omega) (by omega)).mp e)
  have tb : ∀ k, k ≤ 6 → p * 10 ^ k / a ≤ 1000000 := fun k hk => by
    have h1 : p * 10 ^ k / a ≤ a * 10 ^ k / a := Nat.div_le_div_right (Nat.mul_le_mul_right _ hp)
    rw [Nat.mul_comm a, Nat.mul_div_cancel _ (by omega)] at h1
    exact Nat.le_trans h1 (show 10 ^ k ≤ 10 ^ 6 from Nat.pow_le_pow_right (by omega) hk)
  have e := kloop_for (body := f_X11_millionths_l21 h (Int64.ofNat a)) (fun k => (Int64.ofNat (p * 10 ^ k / a), Int64.ofNat (p * 10 ^ k % a), Int32.ofNat k)) 6 (Int64.ofNat (p * 10 ^ 6 / a)) (by omega) (fun k hk => by
    have ml : p * 10 ^ k % a < a := Nat.mod_lt _ (by omega)
    obtain ⟨d1, d2⟩ := div10 (p * 10 ^ k) a
    unfold f_X11_millionths_l21
    dsimp only
    rw [if_neg (by rw [n32_ler (by omega) (by omega)]; omega), if_neg an, kl_e, if_neg an, n64_mull, n64_mull, n64_div (by omega) (by omega), n64_add, kl_e, kl_e, n32_addl]
    have r := n64_rem (a := p * 10 ^ k % a * 10) (b := a) (by omega) (by omega)
    rw [n64_div (by omega) (by omega)] at r
    rw [r, d1, d2, Nat.mul_assoc, ← Nat.pow_succ]) (by
    unfold f_X11_millionths_l21
    dsimp only
    rw [if_pos (by decide)])
  rw [Nat.pow_zero, Nat.mul_one] at e
  have r := n64_rem (a := p) (b := a) (by omega) (by omega)
  rw [n64_div (by omega) (by omega)] at r
  have t6 := tb 6 (by omega)
  unfold f_X11_millionths
  rw [if_pos (by rw [show (0 : Int64) = Int64.ofNat 0 from rfl, lgn_gt (by omega) (by omega)]; omega), if_neg an, n64_div (by omega) (by omega), kl_e, if_neg an, kl_e, r, show (0 : Int32) = Int32.ofNat 0 from rfl, e, kb_s, n64_to32 (by omega)]
theorem x_millionths0 (h : KH) (p : Int64) : f_X11_millionths h p (Int64.ofNat 0) = some (-1) := by
  unfold f_X11_millionths
  rw [if_neg (by decide)]
theorem m_millionths {h : KH} {p a : Nat} (he : kL h 173 56 = Int64.ofNat a) (hp : p ≤ a) (ha : a < 900000000000000000) (a0 : a ≠ 0) : f_X12_millionths h 173 (Int64.ofNat p) = some (Int32.ofNat (p * 1000000 / a)) := by
  have an : ¬ Int64.ofNat a = 0 := fun e => a0 ((n64_eq (b := 0) (by omega) (by omega)).mp e)
  have tb : ∀ k, k ≤ 6 → p * 10 ^ k / a ≤ 1000000 := fun k hk => by
    have h1 : p * 10 ^ k / a ≤ a * 10 ^ k / a := Nat.div_le_div_right (Nat.mul_le_mul_right _ hp)
    rw [Nat.mul_comm a, Nat.mul_div_cancel _ (by omega)] at h1
    exact Nat.le_trans h1 (show 10 ^ k ≤ 10 ^ 6 from Nat.pow_le_pow_right (by omega) hk)
  -- what is left, and what was told, ahead of each turn (the first turn's part isn't reduced)
  have e := kloop_for (body := f_X12_millionths_l8 h 173) (fun k => (Int64.ofNat (if k = 0 then p else p * 10 ^ k % a), Int32.ofNat (if k = 0 then 0 else p * 10 ^ k / a), Int32.ofNat k)) 6 (Int32.ofNat (p * 10 ^ 6 / a)) (by omega) (fun k hk => by
    obtain ⟨l, hl⟩ : ∃ l, (if k = 0 then p else p * 10 ^ k % a) = l := ⟨_, rfl⟩
    obtain ⟨v, hv⟩ : ∃ v, (if k = 0 then 0 else p * 10 ^ k / a) = v := ⟨_, rfl⟩
    obtain ⟨d1, d2⟩ := div10 (p * 10 ^ k) a
    have ll : l ≤ a := by
      rw [← hl]
      by_cases z : k = 0
      · rw [if_pos z]; exact hp
      · rw [if_neg z]; exact Nat.le_of_lt (Nat.mod_lt _ (by omega))
    have key : l * 10 % a = p * 10 ^ (k + 1) % a ∧ 10 * v + l * 10 / a = p * 10 ^ (k + 1) / a := by
      rw [Nat.pow_succ, ← Nat.mul_assoc, ← d1, ← d2, ← hl, ← hv]
      by_cases z : k = 0
      · rw [if_pos z, if_pos z, z, Nat.pow_zero, Nat.mul_one]
        obtain ⟨q1, q2⟩ := div10 p a
        rw [q2, q1]
        exact ⟨rfl, by omega⟩
      · rw [if_neg z, if_neg z]
        exact ⟨rfl, by omega⟩
    have t1 := tb (k + 1) (by omega)
    rw [← key.2] at t1
    unfold f_X12_millionths_l8
    dsimp only
    rw [hl, hv, if_neg (by rw [n32_ler (by omega) (by omega)]; omega), n64_mull, kl_e, if_pos kk173, he, if_neg an]
    have r := n64_rem (a := l * 10) (b := a) (by omega) (by omega)
    rw [r, n64_div (by omega) (by omega), n64_to32 (by omega), n32_mulr, n32_add, kl_e, if_neg an, kl_e, kl_e, n32_addl, key.1, key.2, if_neg (by omega), if_neg (by omega)]) (by
    unfold f_X12_millionths_l8
    dsimp only
    rw [if_pos (by decide)]
    rfl)
  unfold f_X12_millionths
  have e' : kloop (f_X12_millionths_l8 h 173) KF (Int64.ofNat p, (0 : Int32), (0 : Int32)) = some (Int32.ofNat (p * 10 ^ 6 / a)) := e
  rw [e', kb_s]
/-- the sum over those for which p holds -/
def pS (W : Nat → Nat) (p : Nat → Bool) : Nat → Nat
  | 0 => 0
  | n + 1 => pS W p n + if p n = true then W n else 0
theorem pS_le (W : Nat → Nat) (p : Nat → Bool) : ∀ n, pS W p n ≤ aT W n
  | 0 => Nat.le_refl _
  | n + 1 => by
    have := pS_le W p n
    rw [pS, aT]
    by_cases z : p n = true
    · rw [if_pos z]; omega
    · rw [if_neg z]; omega
theorem pS_cg {W : Nat → Nat} {p q : Nat → Bool} : ∀ n, (∀ w, w < n → W w ≠ 0 → p w = q w) → pS W p n = pS W q n
  | 0, _ => rfl
  | n + 1, h => by
    rw [pS, pS, pS_cg n fun w hw => h w (by omega)]
    by_cases z : W n = 0
    · rw [z]
      by_cases a : p n = true
      · by_cases b : q n = true
        · rw [if_pos a, if_pos b]
        · rw [if_pos a, if_neg b]
      · by_cases b : q n = true
        · rw [if_neg a, if_pos b]
        · rw [if_neg a, if_neg b]
    · rw [h n (by omega) z]
def lsm (W : Nat → Nat) (p : Nat → Bool) : List Nat → Nat
  | [] => 0
  | w :: l => (if p w = true then W w else 0) + lsm W p l
theorem lsm_app (W : Nat → Nat) (p : Nat → Bool) : ∀ (l m : List Nat), lsm W p (l ++ m) = lsm W p l + lsm W p m
  | [], m => by rw [List.nil_append, lsm, Nat.zero_add]
  | w :: l, m => by
    rw [List.cons_append, lsm, lsm, lsm_app W p l m, Nat.add_assoc]
theorem lsm_lv (W : Nat → Nat) (p : Nat → Bool) : ∀ n, lsm W p (lv W n) = pS W p n
  | 0 => rfl
  | n + 1 => by
    rw [lv, pS]
    by_cases z : W n = 0
    · rw [if_pos z, lsm_lv W p n, z]
      by_cases y : p n = true
      · rw [if_pos y]
        rfl
      · rw [if_neg y]
        rfl
    · rw [if_neg z, lsm_app, lsm_lv W p n, lsm, lsm, Nat.add_zero]
theorem lsm_take (W : Nat → Nat) (p : Nat → Bool) {l : List Nat} {k : Nat} (hk : k < l.length) : lsm W p (l.take (k + 1)) = lsm W p (l.take k) + if p (l.getD k 0) = true then W (l.getD k 0) else 0 := by
  have e : l.getD k 0 = l[k] := by
    show (l[k]?).getD 0 = l[k]
    rw [List.getElem?_eq_getElem hk]
    rfl
  rw [List.take_succ_eq_append_getElem hk, lsm_app, lsm, lsm, Nat.add_zero, e]
/-- a loop of the class over those with WEIGHT -/
theorem x_sumLoop {W : Nat → Nat} {p : Nat → Bool} {body : Int64 × Int32 → Option ((Int64 × Int32) ⊕ Int64)} (hgo : ∀ y i, i < (lv W 72).length → body (Int64.ofNat y, Int32.ofNat i) = some (.inl (Int64.ofNat (y + if p ((lv W 72).getD i 0) = true then W ((lv W 72).getD i 0) else 0), Int32.ofNat (i + 1))))
    (hend : ∀ y, body (Int64.ofNat y, Int32.ofNat (lv W 72).length) = some (.inr (Int64.ofNat y))) : kloop body KF ((0 : Int64), (0 : Int32)) = some (Int64.ofNat (pS W p 72)) := by
  have ll := lv_len W 72
  have e := kloop_for (body := body) (fun k => (Int64.ofNat (lsm W p ((lv W 72).take k)), Int32.ofNat k)) (lv W 72).length (Int64.ofNat (pS W p 72)) (by omega) (fun k hk => by
    rw [hgo _ k hk, lsm_take W p hk]) (by
    rw [hend, List.take_length, lsm_lv])
  exact e
/-- a loop of the model over all -/
theorem m_sumLoop {W : Nat → Nat} {p : Nat → Bool} {body : Int64 × Int32 → Option ((Int64 × Int32) ⊕ Int64)} (hgo : ∀ y w, w < 72 → body (Int64.ofNat y, Int32.ofNat w) = some (.inl (Int64.ofNat (y + if p w = true then W w else 0), Int32.ofNat (w + 1))))
    (hend : ∀ y, body (Int64.ofNat y, Int32.ofNat 72) = some (.inr (Int64.ofNat y))) : kloop body KF ((0 : Int64), (0 : Int32)) = some (Int64.ofNat (pS W p 72)) :=
  kloop_for (body := body) (fun k => (Int64.ofNat (pS W p k), Int32.ofNat k)) 72 (Int64.ofNat (pS W p 72)) (by omega) (fun k hk => by
    rw [hgo _ k hk, pS]) (by
    rw [hend])
theorem tm_sc {h h' : KH} (x : kfp Wscr h h') : tmM h' = tmM h ∧ anN h' = anN h ∧ lkM h' = lkM h :=
  ⟨funext fun t => kN_same (x.2.2.1 _ _ (by unfold Wscr; omega)), funext fun t => kN_same (x.2.2.1 _ _ (by unfold Wscr; omega)), funext fun i => kN_same (x.2.2.1 _ _ (by unfold Wscr; omega))⟩
theorem pmN_cg {h h' : KH} (e : ∀ i, kN h' 202 i = kN h 202 i) (L : Nat → Nat) (cl tr : Nat) : ∀ n, pmN h' L cl tr n = pmN h L cl tr n
  | 0 => rfl
  | n + 1 => by
    rw [pmN, pmN, pmN_cg e L cl tr n]
    unfold mkN
    rw [e]
theorem wtN_sc {h h' : KH} (x : kfp Wscr h h') : wtN h' = wtN h := by
  have n : ∀ l i, (l = 198 ∨ l = 200 ∨ l = 202 ∨ l = 203) → kN h' l i = kN h l i := fun l i z => kN_same (x.2.2.1 _ _ (by unfold Wscr; omega))
  have ef : fcN h' = fcN h := by
    funext T A L cl k tr
    have eo : okH h' T A cl k tr ↔ okH h T A cl k tr := by
      unfold okH
      rw [n 198 4 (by omega), ybN_sc x]
    have eq : fqN h' k tr = fqN h k tr := n _ _ (by omega)
    have ep := pmN_cg (h := h) (h' := h') (fun i => n 202 i (by omega)) L cl tr
    obtain ⟨a1, a2⟩ := fc_eq (h := h') T A L cl k tr
    obtain ⟨b1, b2⟩ := fc_eq (h := h) T A L cl k tr
    by_cases z : okH h T A cl k tr
    · rw [a1 (eo.mpr z), b1 z, eq, ep, n 198 5 (by omega)]
    · rw [a2 (fun y => z (eo.mp y)), b2 z]
  funext T A L w
  unfold wtN
  rw [ef, n 198 3 (by omega), n 203 2 (by omega)]
theorem WN_sc {h h' : KH} (x : kfp Wscr h h') : WN h' = WN h := by
  unfold WN
  obtain ⟨a, b, c⟩ := tm_sc x
  rw [a, b, c, wtN_sc x]
theorem maN_sc {h h' : KH} (x : kfp Wscr h h') : maN h' = maN h := by
  funext w n
  obtain ⟨a, -, -⟩ := tm_sc x
  induction n with
  | zero => rfl
  | succ n ih => rw [maN, maN, ih, ybN_sc x, a]
theorem RS.sv {h : KH} (s : RS h) : Sv h 64 (tmM h) (anN h) (lkM h) :=
  ⟨fun t ht => ⟨⟨(s.t ht).2.trans (s.t ht).1.1, (s.t ht).1.2⟩, (s.a ht).2.trans (s.a ht).1.1, (s.a ht).1.2⟩, fun i hi => ⟨(s.l hi).2.trans (s.l hi).1.1, (s.l hi).1.2⟩⟩
/-- the class weighs the state that is -/
theorem x_now {h : KH} {c : Nat} (rc : RC h c) (rs : RS h) (rr : Rrule h c) (ry : Ryt h c) (rz : Rzero h) : ∃ h1, f_X10_weigh h 162 c 64 = some h1 ∧ Scr h h1 c ∧ Aw h h1 (tmM h) (kN h 198 4) ∧ Wst h1 (WN h) (paN h (tmM h)) 72 := by
  obtain ⟨h1, e1, f1, y1, a1, w1⟩ := x_weigh rc rr ry (St64 rc.1) (by omega) rs.sv
  exact ⟨h1, e1, ⟨f1.wide fun l i z => Wwg.sc rc.2.1 z, y1, rz.fp f1 fun l i z w => by unfold Wwg at w; rcases rc.2.1 with rfl | rfl <;> omega⟩, a1, w1⟩
/-- the model lays the state that is, behind what the class did -/
theorem m_now {h g : KH} {c : Nat} (rc : RC h c) (rs : RS h) (rr : Rrule h c) (sc : Scr h g c) : ∃ g', f_X12_laysWorlds g 173 (0 : Int32) = some g' ∧ Scr h g' c ∧ kfp Wmw g g' ∧ Yl h g' (kN h 198 4) ∧ Mst h g' (WN h) 72 := by
  have f := sc.1
  have rcg := rc.sc f
  have rrg := rr.sc rc.2.1 f
  have msg : MS g := rs.ms.fp f fun l i z => by unfold Wscr; omega
  obtain ⟨g', e, f', yl, m⟩ := m_laysWorlds rcg rrg msg (fr := 0) (by omega) (fun z => by omega)
  have n3 : kN g 198 3 = kN h 198 3 := kN_same (f.2.2.1 _ _ (by unfold Wscr; omega))
  have n4 : kN g 198 4 = kN h 198 4 := kN_same (f.2.2.1 _ _ (by unfold Wscr; omega))
  obtain ⟨t1, t2, t3⟩ := tm_sc f
  refine ⟨g', e, ⟨f.tr (f'.wide fun l i z => Wmw.sc z), sc.2.1.fp f' fun l i z w => ?_, sc.2.2.fp f' fun l i z w => by unfold Wmw at w; omega⟩, f', fun t k tr a b d => ?_, fun w hw => ?_, ?_, fun w hw a b => ?_⟩
  · unfold Wlw at z
    unfold Wmw at w
    have := rc.2.1.lt
    rcases rc.2.1 with rfl | rfl <;> omega
  · rw [yl t k tr (by omega) (by omega) d, ybN_sc f, t1]
  · rw [m.1 w hw, t1, t2, t3, wtN_sc f]
    rfl
  · rw [m.2.1, t1, t2, t3, wtN_sc f]
    rfl
  · rw [m.2.2 w hw (by omega) (by omega), maN_sc f, n4]
