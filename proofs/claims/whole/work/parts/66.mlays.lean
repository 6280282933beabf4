/-! the model lays who yields, and all WORLDS -/
def Wmw (l i : Nat) : Prop := (l = 173 ∧ (i = 44 ∨ i = 47 ∨ i = 48 ∨ i = 49 ∨ i = 56 ∨ i = 92)) ∨ l = 209 ∨ l = 213 ∨ l = 214 ∨ l = 241
theorem Wmw.sc {l i : Nat} (z : Wmw l i) : Wscr l i := by
  unfold Wmw at z
  unfold Wscr
  omega
/-- a State of the model's as numbers -/
def tmM (h : KH) (t : Nat) : Nat := kN h 207 (2 + 2 * t)
def lkM (h : KH) (i : Nat) : Nat := kN h 207 (14 + i)
/-- who yields, as far as it is laid -/
def Yl (h g : KH) (n : Nat) : Prop := ∀ t k tr, t < n → k < kN h 198 3 → tr < 2 → kI g 209 (36 * tr + 6 * t + k) = Int32.ofNat (ybN h k t tr (tmM h t))
theorem m_laysYields {h : KH} {c : Nat} (rc : RC h c) (rr : Rrule h c) (ms : MS h) : ∃ h', f_X12_laysYields h 173 = some h' ∧ kfp (fun l i => Wy l i ∨ l = 209) h h' ∧ Yl h h' (kN h 198 4) := by
  obtain ⟨hr, hc, h5, hm, -⟩ := id rc
  have c39 := hc.lt
  have n3 := hm.1.1.2
  have n4 := hm.2.1.1.2
  have sc : ∀ {g : KH}, kfp (fun l i => Wy l i ∨ l = 209) h g → kfp Wscr h g := fun f => f.wide fun l i z => z.elim Wy.sc fun z => by unfold Wscr; omega
  have E3 : ∀ {g : KH}, kfp (fun l i => Wy l i ∨ l = 209) h g → kI g 198 3 = Int32.ofNat (kN h 198 3) := fun f => (f.2.2.1 _ _ (by unfold Wy; omega)).trans hm.1.1.1
  have E4 : ∀ {g : KH}, kfp (fun l i => Wy l i ∨ l = 209) h g → kI g 198 4 = Int32.ofNat (kN h 198 4) := fun f => (f.2.2.1 _ _ (by unfold Wy; omega)).trans hm.2.1.1.1
  obtain ⟨h', e, f, y⟩ := kloop_inv (body := f_X12_laysYields_l2 173) (fun t s => s.1 = Int32.ofNat t ∧ kfp (fun l i => Wy l i ∨ l = 209) h s.2 ∧ Yl h s.2 t) (fun r => kfp (fun l i => Wy l i ∨ l = 209) h r ∧ Yl h r (kN h 198 4)) (kN h 198 4) (s0 := ((0 : Int32), h)) (by omega) ⟨rfl, kfp.rf, fun t k tr ht => absurd ht (Nat.not_lt_zero _)⟩ (fun t s ht hP => by
      obtain ⟨s1, g⟩ := s
      obtain ⟨p1, p2, p3⟩ := hP
      dsimp only at p1 p2 p3
      subst p1
      obtain ⟨g', e', f', y'⟩ := kloop_inv (body := f_X12_laysYields_l12 173 (Int32.ofNat t)) (fun k s => s.1 = Int32.ofNat k ∧ kfp (fun l i => Wy l i ∨ l = 209) h s.2 ∧ Yl h s.2 t ∧ ∀ j tr, j < k → tr < 2 → kI s.2 209 (36 * tr + 6 * t + j) = Int32.ofNat (ybN h j t tr (tmM h t)))
        (fun r => kfp (fun l i => Wy l i ∨ l = 209) h r ∧ Yl h r (t + 1)) (kN h 198 3) (s0 := ((0 : Int32), g)) (by omega) ⟨rfl, p2, p3, fun j tr hj => absurd hj (Nat.not_lt_zero _)⟩ (fun k s hk hP => by
          obtain ⟨s1, q⟩ := s
          obtain ⟨u1, u2, u3, u4⟩ := hP
          dsimp only at u1 u2 u3 u4
          subst u1
          obtain ⟨g3, e3, f3, y3, z3⟩ := kloop_inv (body := f_X12_laysYields_l22 173 (Int32.ofNat t) (Int32.ofNat k)) (fun tr s => s.1 = Int32.ofNat tr ∧ kfp (fun l i => Wy l i ∨ l = 209) h s.2 ∧ (∀ i, (∀ tr, tr < 2 → i ≠ 36 * tr + 6 * t + k) → kI s.2 209 i = kI q 209 i) ∧ ∀ r, r < tr → kI s.2 209 (36 * r + 6 * t + k) = Int32.ofNat (ybN h k t r (tmM h t)))
            (fun r => kfp (fun l i => Wy l i ∨ l = 209) h r ∧ (∀ i, (∀ tr, tr < 2 → i ≠ 36 * tr + 6 * t + k) → kI r 209 i = kI q 209 i) ∧ ∀ x, x < 2 → kI r 209 (36 * x + 6 * t + k) = Int32.ofNat (ybN h k t x (tmM h t))) 2 (s0 := ((0 : Int32), q)) (by omega) ⟨rfl, u2, fun _ _ => rfl, fun r hr => absurd hr (Nat.not_lt_zero _)⟩ (fun tr s htr hP => by
              obtain ⟨s1, w⟩ := s
              obtain ⟨v1, v2, v3, v4⟩ := hP
              dsimp only at v1 v2 v3 v4
              subst v1
              have fs := sc v2
              have rw' := hr.fp v2
              have rcw := rc.sc fs
              have tt := (ms.2.2.1 t (by omega)).1
              have i207 : kI w 207 (2 + 2 * t) = Int32.ofNat (tmM h t) := (v2.2.2.1 _ _ (by unfold Wy; omega)).trans tt.1
              have m3 : kN w 198 3 = kN h 198 3 := kN_of (E3 v2) (by omega)
              have m4 : kN w 198 4 = kN h 198 4 := kN_of (E4 v2) (by omega)
              obtain ⟨w', z1, z2⟩ := m_yieldsAt rcw (rr.sc hc fs) (k := k) (t := t) (tr := tr) (x := tmM h t) (by omega) (by omega) htr tt.2
              rw [ybN_sc fs] at z1
              refine ⟨(Int32.ofNat (tr + 1), ksI w' 209 (36 * tr + 6 * t + k) (Int32.ofNat (ybN h k t tr (tmM h t)))), ?_, rfl, (v2.tr (z2.wide fun l i y => Or.inl y)).sI _ (Or.inr rfl), fun i hi => ?_, fun r hr' => ?_⟩
              · unfold f_X12_laysYields_l22
                dsimp only
                rw [if_neg (by rw [n32_ler (by omega) (by omega)]; omega), if_pos kk173, rf173_50 rw', if_pos (show 209 < 999999 by omega), m_heardOf rw' (by omega), kb_s, i207, z1, kb_s, if_pos kk209, kn209, n32_mulr, n32_mulr, n32_add, n32_add, if_neg (by rw [n32_cl (by omega)]; exact fun z => z.elim (n32_nn (by omega)) (by omega)), n32_cl (by omega)]
                dsimp only
                rw [kl_e, kl_e, n32_addl]
              · dsimp only
                rw [kI_sI, if_neg (fun y => hi tr htr y.2), z2.2.2.1 _ _ (by unfold Wy; omega)]
                exact v3 i hi
              · dsimp only
                rw [kI_sI]
                by_cases y : r = tr
                · rw [if_pos ⟨rfl, by omega⟩, y]
                · rw [if_neg (by omega), z2.2.2.1 _ _ (by unfold Wy; omega)]
                  exact v4 r (by omega)) (fun s hP => by
              obtain ⟨s1, w⟩ := s
              obtain ⟨v1, v2, v3, v4⟩ := hP
              dsimp only at v1 v2 v3 v4
              subst v1
              refine ⟨w, ?_, v2, v3, v4⟩
              unfold f_X12_laysYields_l22
              dsimp only
              rw [if_pos (by decide)])
          refine ⟨(Int32.ofNat (k + 1), g3), ?_, rfl, f3, fun t' k' tr' a1 a2 a3 => ?_, fun j tr hj htr => ?_⟩
          · unfold f_X12_laysYields_l12
            dsimp only
            rw [if_pos kk173, m_kindMany (hr.fp u2), kb_s, E3 u2, if_neg (by rw [n32_le (by omega) (by omega)]; omega), e3, kb_s, kl_e, n32_addl]
          · dsimp only
            rw [y3 _ (fun x hx => by omega)]
            exact u3 t' k' tr' a1 a2 a3
          · dsimp only
            by_cases y : j = k
            · rw [y]; exact z3 tr htr
            · rw [y3 _ (fun x hx => by omega)]
              exact u4 j tr (by omega) htr) (fun s hP => by
          obtain ⟨s1, q⟩ := s
          obtain ⟨u1, u2, u3, u4⟩ := hP
          dsimp only at u1 u2 u3 u4
          subst u1
          refine ⟨q, ?_, u2, fun t' k' tr' a1 a2 a3 => ?_⟩
          · unfold f_X12_laysYields_l12
            dsimp only
            rw [if_pos kk173, m_kindMany (hr.fp u2), kb_s, E3 u2, if_pos (by rw [n32_le (by omega) (by omega)]; omega)]
          · by_cases y : t' = t
            · rw [y]; exact u4 k' tr' a2 a3
            · exact u3 t' k' tr' (by omega) a2 a3)
      refine ⟨(Int32.ofNat (t + 1), g'), ?_, rfl, f', y'⟩
      unfold f_X12_laysYields_l2
      dsimp only
      rw [if_pos kk173, m_testMany (hr.fp p2), kb_s, E4 p2, if_neg (by rw [n32_le (by omega) (by omega)]; omega), e', kb_s, kl_e, n32_addl]) (fun s hP => by
      obtain ⟨s1, g⟩ := s
      obtain ⟨p1, p2, p3⟩ := hP
      dsimp only at p1 p2 p3
      subst p1
      refine ⟨g, ?_, p2, p3⟩
      unfold f_X12_laysYields_l2
      dsimp only
      rw [if_pos kk173, m_testMany (hr.fp p2), kb_s, E4 p2, if_pos (by rw [n32_le (by omega) (by omega)]; omega)])
  refine ⟨h', ?_, f, y⟩
  unfold f_X12_laysYields
  rw [e, kb_s]
/-- how all tests would be answered in a WORLD: two bits each -/
def maN (h : KH) (w : Nat) : Nat → Nat
  | 0 => 0
  | t + 1 => maN h w t + (ybN h (w / 6 % 6) t (1 - w / 36) (tmM h t) + 2 * ybN h (w % 6) t (w / 36) (tmM h t)) * 4 ^ t
theorem maN_lt {h : KH} {w : Nat} : ∀ n, (∀ t, t < n → ybN h (w / 6 % 6) t (1 - w / 36) (tmM h t) < 2 ∧ ybN h (w % 6) t (w / 36) (tmM h t) < 2) → maN h w n < 4 ^ n
  | 0, _ => Nat.one_pos
  | n + 1, z => by
    have h1 := maN_lt (h := h) (w := w) n fun t ht => z t (by omega)
    obtain ⟨a, b⟩ := z n (by omega)
    have p : 4 ^ (n + 1) = 4 ^ n * 4 := Nat.pow_succ ..
    have h3 : (ybN h (w / 6 % 6) n (1 - w / 36) (tmM h n) + 2 * ybN h (w % 6) n (w / 36) (tmM h n)) * 4 ^ n ≤ 3 * 4 ^ n := Nat.mul_le_mul_right _ (by omega)
    rw [maN]
    omega
theorem maN_bit {h : KH} {w : Nat} : ∀ n, (∀ t, t < n → ybN h (w / 6 % 6) t (1 - w / 36) (tmM h t) < 2 ∧ ybN h (w % 6) t (w / 36) (tmM h t) < 2) → ∀ t, t < n → maN h w n / 4 ^ t % 4 = ybN h (w / 6 % 6) t (1 - w / 36) (tmM h t) + 2 * ybN h (w % 6) t (w / 36) (tmM h t)
  | 0, _, t, ht => absurd ht (Nat.not_lt_zero _)
  | n + 1, z, t, ht => by
    have h1 := maN_lt (h := h) (w := w) n fun t ht => z t (by omega)
    obtain ⟨a, b⟩ := z n (by omega)
    rw [maN]
    by_cases e : t = n
    · subst e
      rw [Nat.add_mul_div_right _ _ (Nat.pow_pos (by omega)), Nat.div_eq_of_lt h1, Nat.zero_add]
      omega
    · have ih := maN_bit (h := h) (w := w) n (fun t ht => z t (by omega)) t (by omega)
      have p : 4 ^ n = 4 ^ (n - t - 1) * 4 * 4 ^ t := by
        rw [← Nat.pow_succ, ← Nat.pow_add]
        congr 1
        omega
      rw [p, ← Nat.mul_assoc, Nat.add_mul_div_right _ _ (Nat.pow_pos (by omega)), ← Nat.mul_assoc, Nat.add_mul_mod_self_right, ih]
theorem m_kindIn0 (h : KH) {w : Nat} (hw : w < 72) : f_X12_kindIn h (Int32.ofNat w) (0 : Int32) = some (Int32.ofNat (w / 6 % 6)) := by
  unfold f_X12_kindIn
  rw [if_pos rfl, show (6 : Int32) = Int32.ofNat 6 from rfl, n32_div (by omega) (by omega), n32_rem (by omega) (by omega)]
theorem m_kindIn1 (h : KH) {w : Nat} (hw : w < 72) {a : Int32} (ha : a ≠ 0) : f_X12_kindIn h (Int32.ofNat w) a = some (Int32.ofNat (w % 6)) := by
  unfold f_X12_kindIn
  rw [if_neg ha, show (6 : Int32) = Int32.ofNat 6 from rfl, n32_rem (by omega) (by omega)]
theorem m_truthOf (h : KH) {w : Nat} (hw : w < 72) : f_X12_truthOf h (Int32.ofNat w) = some (Int32.ofNat (w / 36)) := by
  unfold f_X12_truthOf
  rw [show (36 : Int32) = Int32.ofNat 36 from rfl, n32_div (by omega) (by omega)]
/-- whether a CLAIMANT yields in a WORLD, as the row of all holds it -/
theorem m_yieldIn {g : KH} (hr : kRefs g) {w t cl : Nat} (hw : w < 72) (ht : t < 6) (hcl : cl < 2) : f_X12_yieldIn g 173 (Int32.ofNat w) (Int32.ofNat cl) (Int32.ofNat t) = some (kI g 209 (36 * (if w / 36 = cl then 1 else 0) + 6 * t + (if cl = 0 then w / 6 % 6 else w % 6))) := by
  have hk : f_X12_kindIn g (Int32.ofNat w) (Int32.ofNat cl) = some (Int32.ofNat (if cl = 0 then w / 6 % 6 else w % 6)) := by
    by_cases y : cl = 0
    · rw [if_pos y, y]
      exact m_kindIn0 g hw
    · rw [if_neg y]
      exact m_kindIn1 g hw (by rw [show cl = 1 by omega]; decide)
  have kb6 : (if cl = 0 then w / 6 % 6 else w % 6) < 6 := by
    by_cases y : cl = 0
    · rw [if_pos y]; omega
    · rw [if_neg y]; omega
  generalize (if cl = 0 then w / 6 % 6 else w % 6) = k at hk kb6 ⊢
  have b18 : ∀ o, o ≤ 36 → f_X12_yieldIn_b18 g (Int32.ofNat w) (Int32.ofNat cl) (Int32.ofNat t) 209 (Int32.ofNat o) = some (kI g 209 (o + 6 * t + k)) := fun o ho => by
    unfold f_X12_yieldIn_b18
    rw [hk, kb_s, if_pos kk209, kn209, n32_mulr, n32_add, n32_add, if_neg (by rw [n32_cl (by omega)]; exact fun z => z.elim (n32_nn (by omega)) (by omega)), n32_cl (by omega)]
  unfold f_X12_yieldIn
  rw [if_pos kk173, rf173_50 hr, if_pos (show 209 < 999999 by omega), m_truthOf g hw, kb_s]
  by_cases y : w / 36 = cl
  · rw [if_pos (by rw [y]), if_pos y]
    exact b18 36 (by omega)
  · rw [if_neg (by rw [n32_eq (by omega) (by omega)]; exact y), if_neg y]
    exact b18 0 (by omega)
