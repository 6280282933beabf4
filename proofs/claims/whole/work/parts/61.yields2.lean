/-! who yields: yieldsAt, yieldBits -/
theorem Rrule.fp {W : Nat → Nat → Prop} {h h' : KH} {c : Nat} (rr : Rrule h c) (x : kfp W h h') (hd : ∀ l i, (l = c ∧ i = 8) ∨ (l = c + 21 ∧ i = 2) ∨ l = c + 22 ∨ (l = 204 ∧ i = 1) ∨ (l = 205 ∧ i = 1) ∨ (l = 206 ∧ 1600 ≤ i) → ¬ W l i) : Rrule h' c := by
  have I : ∀ l i, (l = c ∧ i = 8) ∨ (l = c + 21 ∧ i = 2) ∨ l = c + 22 ∨ (l = 204 ∧ i = 1) ∨ (l = 205 ∧ i = 1) ∨ (l = 206 ∧ 1600 ≤ i) → kI h' l i = kI h l i := fun l i z => x.2.2.1 l i (hd l i z)
  rcases rr with ⟨r1, r2⟩ | ⟨r1, r2, n, n16, r3, r4, r5, r6⟩
  · exact Or.inl ⟨by rw [I _ _ (by omega)]; exact r1, by rw [I _ _ (by omega)]; exact r2⟩
  · have ec : cdY h' = cdY h := by
      funext i
      exact kN_same (I 206 _ (by omega))
    refine Or.inr ⟨by rw [I _ _ (by omega)]; exact r1, by rw [I _ _ (by omega)]; exact r2, n, n16, by rw [I _ _ (by omega)]; exact r3, by rw [I _ _ (by omega)]; exact r4, fun i hi => ⟨(r5 i hi).1.same (I _ _ (by omega)), ?_⟩, ?_⟩
    · rw [ec, I _ _ (by omega)]
      exact (r5 i hi).2
    · rw [ec]
      exact r6
theorem m_yieldsAt {h : KH} {c : Nat} (rc : RC h c) (rr : Rrule h c) {k t tr x : Nat} (hk : k < kN h 198 3) (ht : t < kN h 198 4) (htr : tr < 2) (hx : x ≤ 99) :
    ∃ h', f_X12_yieldsAt h 173 (Int32.ofNat k) (Int32.ofNat t) (Int32.ofNat tr) (Int32.ofNat x) = some (Int32.ofNat (ybN h k t tr x), h') ∧ kfp Wy h h' := by
  obtain ⟨hr, hc, h5, hm, -⟩ := id rc
  rcases id rr with ⟨-, r2⟩ | ⟨-, r2, n, n16, hn, -, hcd, rt⟩
  · refine ⟨h, ?_, kfp.rf⟩
    unfold f_X12_yieldsAt ybN
    rw [if_pos kk173, rf173_39 hr, if_pos (show 204 < 999999 by omega), if_pos kk204, kn204, if_neg (show ¬ 2 ≤ 1 by omega), r2, if_pos rfl, if_pos rfl]
  · have okp := pvY_ok rc hk ht htr hx
    have okn := rev_ok okp (yv := fun _ => 0) (fun _ => by omega) n rt
    obtain ⟨v, ev, vv⟩ : ∃ v, rev (pvY h k t tr x) (fun _ => 0) (cdY h) n = [v] ∧ (v = 0 ∨ v = 1) := by
      match he : rev (pvY h k t tr x) (fun _ => 0) (cdY h) n, okn with
      | [v], okn => exact ⟨v, rfl, okn.1⟩
    obtain ⟨g0, e0⟩ : ∃ g, g = ksI (ksI (ksI (ksI (ksI h 173 47 (Int32.ofNat k)) 173 48 (Int32.ofNat x)) 173 49 (Int32.ofNat tr)) 173 44 1) 173 92 0 := ⟨_, rfl⟩
    have f0 : kfp Wy h g0 := by
      rw [e0]
      exact ((((kfp.rf.sI _ (by unfold Wy; omega)).sI _ (by unfold Wy; omega)).sI _ (by unfold Wy; omega)).sI _ (by unfold Wy; omega)).sI _ (by unfold Wy; omega)
    have a47 : kI g0 173 47 = Int32.ofNat k := by rw [e0, kI_sI, if_neg (by omega), kI_sI, if_neg (by omega), kI_sI, if_neg (by omega), kI_sI, if_neg (by omega), kI_sI, if_pos ⟨rfl, rfl⟩]
    have a48 : kI g0 173 48 = Int32.ofNat x := by rw [e0, kI_sI, if_neg (by omega), kI_sI, if_neg (by omega), kI_sI, if_neg (by omega), kI_sI, if_pos ⟨rfl, rfl⟩]
    have a49 : kI g0 173 49 = Int32.ofNat tr := by rw [e0, kI_sI, if_neg (by omega), kI_sI, if_neg (by omega), kI_sI, if_pos ⟨rfl, rfl⟩]
    have a44 : kI g0 173 44 = 1 := by rw [e0, kI_sI, if_neg (by omega), kI_sI, if_pos ⟨rfl, rfl⟩]
    have a92 : kI g0 173 92 = Int32.ofNat 0 := by rw [e0, kI_sI, if_pos ⟨rfl, rfl⟩]; rfl
    have r0 := hr.fp f0
    obtain ⟨g1, e1, f1, q1⟩ := kloop_inv (body := f_X12_yieldsAt_l46 173 (Int32.ofNat t)) (fun i s => s.1 = Int32.ofNat i ∧ kfp Wq g0 s.2 ∧ Qp s.2 (rev (pvY h k t tr x) (fun _ => 0) (cdY h) i)) (fun r => kfp Wq g0 r ∧ Qp r (rev (pvY h k t tr x) (fun _ => 0) (cdY h) n)) n (s0 := ((0 : Int32), g0)) (by omega) ⟨rfl, kfp.rf, a92, trivial⟩ (fun i s hi hP => by
        obtain ⟨s1, g⟩ := s
        obtain ⟨p1, p2, p3⟩ := hP
        dsimp only at p1 p2 p3
        subst p1
        obtain ⟨ts', w1⟩ := rtf_pre n rt (i + 1) (by omega)
        obtain ⟨ts, w2, w3, w4⟩ := rtf_step w1
        rw [Nat.zero_add] at w3
        have fg : kfp Wy h g := f0.tr (p2.wide fun l j y => by unfold Wy; unfold Wq at y; omega)
        have rg := hr.fp fg
        have c39 := hc.lt
        have rcg : RC g c := rc.fp fg fun l j y w => by unfold Wct at y; unfold Wy at w; omega
        have m3 : kN g 198 3 = kN h 198 3 := kN_same (fg.2.2.1 _ _ (by unfold Wy; omega))
        have m4 : kN g 198 4 = kN h 198 4 := kN_same (fg.2.2.1 _ _ (by unfold Wy; omega))
        have ep : pvY g k t tr x = pvY h k t tr x := by
          funext p
          unfold pvY
          rw [kN_same (fg.2.2.1 200 (24 + 4 * k) (by unfold Wy; omega)), kN_same (fg.2.2.1 200 (25 + 4 * k) (by unfold Wy; omega)), kN_same (fg.2.2.1 201 (6 + t) (by unfold Wy; omega))]
        obtain ⟨g', z1, z2, z3⟩ := m_ystep rg (n := n) (i := i) (cc := cdY h i) (t := t) (pv := pvY h k t tr x) ((fg.2.2.1 _ _ (by unfold Wy; omega)).trans hn) n16 hi ((fg.2.2.1 _ _ (by unfold Wy; omega)).trans (hcd i hi).1.1) w3 w4 (rev_ok okp (fun _ => by omega) i w2) p3 (fun p hp => by
          rw [← ep]
          exact m_part rcg (by omega) (by omega) ((p2.2.2.1 _ _ (by unfold Wq; omega)).trans a44) ((p2.2.2.1 _ _ (by unfold Wq; omega)).trans a47) ((p2.2.2.1 _ _ (by unfold Wq; omega)).trans a48) ((p2.2.2.1 _ _ (by unfold Wq; omega)).trans a49) htr hx hp)
        exact ⟨_, z1, rfl, p2.tr z2, z3⟩) (fun s hP => by
        obtain ⟨s1, g⟩ := s
        obtain ⟨p1, p2, p3⟩ := hP
        dsimp only at p1 p2 p3
        subst p1
        have fg : kfp Wy h g := f0.tr (p2.wide fun l j y => by unfold Wy; unfold Wq at y; omega)
        have rg := hr.fp fg
        refine ⟨g, ?_, p2, p3⟩
        unfold f_X12_yieldsAt_l46
        dsimp only
        rw [if_pos kk173, rf173_40 rg, if_pos (show 205 < 999999 by omega), if_pos kk205, kn205, if_neg (show ¬ 2 ≤ 1 by omega), fg.2.2.1 205 1 (by unfold Wy; omega), hn, if_pos (by rw [n32_le (by omega) (by omega)]; omega)])
    rw [ev] at q1
    have r1 := r0.fp f1
    have eyb : ybN h k t tr x = v.toNat := ybN_rev r2 hn n16 ev
    have g39 : kI g0 204 1 = 0 := (f0.2.2.1 _ _ (by unfold Wy; omega)).trans r2
    refine ⟨g1, ?_, f0.tr (f1.wide fun l j y => by unfold Wy; unfold Wq at y; omega)⟩
    unfold f_X12_yieldsAt
    rw [if_pos kk173, rf173_39 hr, if_pos (show 204 < 999999 by omega), if_pos kk204, kn204, if_neg (show ¬ 2 ≤ 1 by omega), r2, if_neg (by decide), kl_e, kl_e, kl_e, kl_e, kl_e, ← e0, rf173_39 r0, if_pos (show 204 < 999999 by omega), if_pos kk204, kn204, if_neg (show ¬ 2 ≤ 1 by omega), g39, kl_e, e1, kb_s, rf173_91 r1, if_pos (show 241 < 999999 by omega), if_pos kk241, kn241, if_neg (show ¬ 1700 ≤ 0 by omega)]
    congr 2
    have hv : (kL g1 241 0).toInt = v := q1.2.1
    rw [eyb, ← Int32.toInt_inj, Int64.toInt_toInt32, hv, n32_toInt (by omega), Int.bmod_eq_of_le (by omega) (by omega)]
    omega
/-- who yields at a test HEARD so often, as bits -/
def byN (h : KH) (t x : Nat) : Nat → Nat
  | 0 => 0
  | j + 1 => byN h t x j + ybN h (j / 2) t (j % 2) x * 2 ^ j
def bitsN (h : KH) (t x : Nat) : Nat := if kI h 204 1 = -1 then 2730 else byN h t x (2 * kN h 198 3)
theorem byN_lt {h : KH} {t x : Nat} : ∀ n, (∀ j, j < n → ybN h (j / 2) t (j % 2) x < 2) → byN h t x n < 2 ^ n
  | 0, _ => Nat.one_pos
  | n + 1, z => by
    have h1 := byN_lt (h := h) (t := t) (x := x) n fun j hj => z j (by omega)
    have h2 := z n (by omega)
    have p : 2 ^ (n + 1) = 2 ^ n * 2 := Nat.pow_succ ..
    have h3 : ybN h (n / 2) t (n % 2) x * 2 ^ n ≤ 1 * 2 ^ n := Nat.mul_le_mul_right _ (by omega)
    rw [byN]
    omega
theorem byN_bit {h : KH} {t x : Nat} : ∀ n, (∀ j, j < n → ybN h (j / 2) t (j % 2) x < 2) → ∀ j, j < n → byN h t x n / 2 ^ j % 2 = ybN h (j / 2) t (j % 2) x
  | 0, _, j, hj => absurd hj (Nat.not_lt_zero _)
  | n + 1, z, j, hj => by
    have h1 := byN_lt (h := h) (t := t) (x := x) n fun j hj => z j (by omega)
    have h2 := z n (by omega)
    rw [byN]
    by_cases e : j = n
    · subst e
      rw [Nat.add_mul_div_right _ _ (Nat.pow_pos (by omega)), Nat.div_eq_of_lt h1, Nat.zero_add]
      omega
    · have ih := byN_bit (h := h) (t := t) (x := x) n (fun j hj => z j (by omega)) j (by omega)
      have p : 2 ^ n = 2 ^ (n - j - 1) * 2 * 2 ^ j := by
        rw [← Nat.pow_succ, ← Nat.pow_add]
        congr 1
        omega
      rw [p, ← Nat.mul_assoc, Nat.add_mul_div_right _ _ (Nat.pow_pos (by omega)), ← Nat.mul_assoc, Nat.add_mul_mod_self_right, ih]
theorem bit2730 : ∀ j, j < 12 → 2730 / 2 ^ j % 2 = j % 2 := by decide +kernel
theorem bits_lt {h : KH} {c : Nat} (rc : RC h c) (rr : Rrule h c) {t x : Nat} (ht : t < kN h 198 4) (hx : x ≤ 99) : bitsN h t x < 4096 := by
  have n3 := rc.2.2.2.1.1.1.2
  unfold bitsN
  by_cases z : kI h 204 1 = -1
  · rw [if_pos z]; omega
  · rw [if_neg z]
    have h1 := byN_lt (h := h) (t := t) (x := x) (2 * kN h 198 3) fun j hj => ybN_lt rc rr (by omega) ht (by omega) hx
    exact Nat.lt_of_lt_of_le h1 (show 2 ^ (2 * kN h 198 3) ≤ 2 ^ 12 from Nat.pow_le_pow_right (by omega) (by omega))
theorem bits_bit {h : KH} {c : Nat} (rc : RC h c) (rr : Rrule h c) {k t tr x : Nat} (hk : k < kN h 198 3) (ht : t < kN h 198 4) (htr : tr < 2) (hx : x ≤ 99) : bitsN h t x / 2 ^ (2 * k + tr) % 2 = ybN h k t tr x := by
  have n3 := rc.2.2.2.1.1.1.2
  unfold bitsN
  by_cases z : kI h 204 1 = -1
  · rw [if_pos z, bit2730 _ (by omega)]
    unfold ybN
    rw [if_pos z]
    omega
  · rw [if_neg z, byN_bit (2 * kN h 198 3) (fun j hj => ybN_lt rc rr (by omega) ht (by omega) hx) _ (by omega), show (2 * k + tr) / 2 = k by omega, show (2 * k + tr) % 2 = tr by omega]
/-- what is worked out already is right -/
def Ryt (h : KH) (c : Nat) : Prop := kI h 204 1 ≠ -1 → ∀ t, t < kN h 198 4 → ∀ x, x ≤ 99 → kI h (c + 25) (100 * t + x) = 0 ∨ kI h (c + 25) (100 * t + x) = Int32.ofNat (4096 + bitsN h t x)
theorem bitsN_eq {h h' : KH} (e : ∀ l i, Wlw l → kI h' l i = kI h l i) (e3 : kI h' 198 3 = kI h 198 3) : bitsN h' = bitsN h := by
  have ey := ybN_eq e
  have eb : ∀ t x n, byN h' t x n = byN h t x n := fun t x n => by
    induction n with
    | zero => rfl
    | succ n ih => rw [byN, byN, ih, ey]
  funext t x
  unfold bitsN
  rw [e 204 1 (by unfold Wlw; omega), eb, kN_same e3]
theorem Cd_ct {h : KH} (hr : kRefs h) {c : Nat} (hc : ctc c) : Cd h (c + 21) (c + 22) (c + 23) := by
  obtain ⟨a1, a2, a3, a4, a5, -⟩ := ct_kc hc
  obtain ⟨b1, b2⟩ := ct_rc hr hc
  have := hc.lt
  exact ⟨⟨a1, b1, b2⟩, ⟨a2, a3, by omega⟩, ⟨a4, a5, by omega⟩, by omega, by omega⟩
theorem n32_shl01 : ∀ z, z < 2 → ∀ j, j < 12 → Int32.ofNat z <<< (Int32.ofNat j &&& 31) = Int32.ofNat (z * 2 ^ j) := by decide +kernel
theorem or_pow01 {a j z : Nat} (h : a < 2 ^ j) (hz : z < 2) : a ||| z * 2 ^ j = a + z * 2 ^ j := by
  have e : z = 0 ∨ z = 1 := by omega
  rcases e with rfl | rfl
  · rw [Nat.zero_mul, Nat.or_zero, Nat.add_zero]
  · rw [Nat.one_mul, or_pow h]
/-- the class's values for a KIND, a test, one who is true or not -/
def Vy (h g : KH) (c k t tr x : Nat) : Prop := kI g (c + 24) 1 = kI h 200 (24 + 4 * k) ∧ kI g (c + 24) 2 = kI h 200 (25 + 4 * k) ∧ kI g (c + 24) 6 = kI h 201 (6 + t) ∧ kI g (c + 24) 11 = Int32.ofNat x ∧ kI g (c + 24) 12 = Int32.ofNat tr
theorem Vy.vx {h g : KH} {c k t tr x : Nat} (rc : RC h c) (hk : k < kN h 198 3) (ht : t < kN h 198 4) (htr : tr < 2) (hx : x ≤ 99) (v : Vy h g c k t tr x) : Vx g (c + 24) true (pvY h k t tr x) (fun _ => 0) := by
  obtain ⟨hr, hc, h5, hm, hkd, htt, -⟩ := id rc
  obtain ⟨-, -, -, -, -, a1, a2, -⟩ := ct_kc hc
  obtain ⟨⟨d0, f0⟩, -⟩ := hkd k hk 0 (by omega)
  obtain ⟨⟨d1, f1⟩, -⟩ := hkd k hk 1 (by omega)
  obtain ⟨⟨d2, f2⟩, -⟩ := htt t ht
  rw [if_pos (show 0 < 2 by omega), Nat.add_zero] at f0
  rw [if_pos (show 1 < 2 by omega), show 24 + 4 * k + 1 = 25 + 4 * k by omega] at f1
  rw [Nat.add_zero] at d0
  rw [show 24 + 4 * k + 1 = 25 + 4 * k by omega] at d1
  obtain ⟨v1, v2, v3, v4, v5⟩ := v
  refine ⟨⟨a1, a2⟩, fun p hp => ?_, fun e => by cases e⟩
  have e : p = 0 ∨ p = 1 ∨ p = 2 ∨ p = 3 ∨ p = 4 := by
    rcases hp with hp | hp
    · omega
    · exact absurd hp.1 (by decide)
  unfold pvY
  rcases e with rfl | rfl | rfl | rfl | rfl
  · rw [if_pos rfl, show pwN 0 = 1 from rfl, v1, d0, n32_toInt (by omega)]
  · rw [if_neg (by omega), if_pos rfl, show pwN 1 = 2 from rfl, v2, d1, n32_toInt (by omega)]
  · rw [if_neg (by omega), if_neg (by omega), if_pos rfl, show pwN 2 = 6 from rfl, v3, d2, n32_toInt (by omega)]
  · rw [if_neg (by omega), if_neg (by omega), if_neg (by omega), if_pos rfl, show pwN 3 = 11 from rfl, v4, n32_toInt (by omega)]
  · rw [if_neg (by omega), if_neg (by omega), if_neg (by omega), if_neg (by omega), if_pos rfl, show pwN 4 = 12 from rfl, v5, n32_toInt (by omega)]
def Wyb (c l : Nat) : Prop := l = c + 23 ∨ l = c + 24
/-- a turn over truth -/
theorem x_ybTruth {h g : KH} {c : Nat} (rc : RC h c) (rr : Rrule h c) {k t x n : Nat} (hk : k < kN h 198 3) (ht : t < kN h 198 4) (hx : x ≤ 99) (hn : kI h 205 1 = Int32.ofNat n) (n16 : n ≤ 1600) (hcn : kI h (c + 21) 2 = Int32.ofNat n) (hcd : ∀ i, i < n → cn h 206 (1600 + i) 10999 ∧ kI h (c + 22) i = csI (cdY h i)) (rt : rtf true (cdY h) 0 n [] = some [1]) (h4 : kI h 204 1 = 0) (v3 : Int32)
    (fg : kfp (fun l _ => Wyb c l) h g) (l1 : kI g (c + 24) 1 = kI h 200 (24 + 4 * k)) (l2 : kI g (c + 24) 2 = kI h 200 (25 + 4 * k)) (l6 : kI g (c + 24) 6 = kI h 201 (6 + t)) (l11 : kI g (c + 24) 11 = Int32.ofNat x) :
    ∃ g', kloop (f_X2_yieldBits_l133 c v3 (Int32.ofNat k)) KF (Int32.ofNat (byN h t x (2 * k)), (0 : Int32), g) = some (Int32.ofNat (byN h t x (2 * (k + 1))), g') ∧ kfp (fun l _ => Wyb c l) h g' ∧ kI g' (c + 24) 6 = kI h 201 (6 + t) ∧ kI g' (c + 24) 11 = Int32.ofNat x := by
  obtain ⟨hr, hc, h5, hm, -⟩ := id rc
  have c39 := hc.lt
  have n3 := hm.1.1.2
  obtain ⟨-, -, -, -, -, b1, b2, -⟩ := ct_kc hc
  obtain ⟨r, e, g', er, q1, q2, q3⟩ := kloop_inv (body := f_X2_yieldBits_l133 c v3 (Int32.ofNat k)) (fun tr s => s.1 = Int32.ofNat (byN h t x (2 * k + tr)) ∧ s.2.1 = Int32.ofNat tr ∧ kfp (fun l _ => Wyb c l) h s.2.2 ∧ kI s.2.2 (c + 24) 1 = kI h 200 (24 + 4 * k) ∧ kI s.2.2 (c + 24) 2 = kI h 200 (25 + 4 * k) ∧ kI s.2.2 (c + 24) 6 = kI h 201 (6 + t) ∧ kI s.2.2 (c + 24) 11 = Int32.ofNat x)
    (fun r => ∃ g', r = (Int32.ofNat (byN h t x (2 * (k + 1))), g') ∧ kfp (fun l _ => Wyb c l) h g' ∧ kI g' (c + 24) 6 = kI h 201 (6 + t) ∧ kI g' (c + 24) 11 = Int32.ofNat x) 2 (s0 := (Int32.ofNat (byN h t x (2 * k)), (0 : Int32), g)) (by omega) ⟨rfl, rfl, fg, l1, l2, l6, l11⟩ (fun tr s htr hP => by
      obtain ⟨s1, s2, q⟩ := s
      obtain ⟨p1, p2, p3, p4, p5, p6, p7⟩ := hP
      dsimp only at p1 p2 p3 p4 p5 p6 p7
      subst p1 p2
      obtain ⟨q1, eq1⟩ : ∃ q1, q1 = ksI q (c + 24) 12 (Int32.ofNat tr) := ⟨_, rfl⟩
      have fq : kfp (fun l _ => Wyb c l) h q1 := by rw [eq1]; exact p3.sI _ (Or.inr rfl)
      have rq := hr.fp p3
      have rq1 := hr.fp fq
      have vy : Vy h q1 c k t tr x := by
        rw [eq1]
        refine ⟨?_, ?_, ?_, ?_, ?_⟩
        · rw [kI_sI, if_neg (by omega), p4]
        · rw [kI_sI, if_neg (by omega), p5]
        · rw [kI_sI, if_neg (by omega), p6]
        · rw [kI_sI, if_neg (by omega), p7]
        · rw [kI_sI, if_pos ⟨rfl, rfl⟩]
      obtain ⟨z, q2, v, z1, z2, z3, z4, z5⟩ := x_resultFor (h := q1) (vl := c + 24) (cdN := cdY h) (n := n) (pvY_ok rc hk ht htr hx) (yv := fun _ => 0) (fun _ => by omega) (Cd_ct rq1 hc) ((fq.2.2.1 _ _ (by unfold Wyb; omega)).trans hcn) n16 (fun i hi => (fq.2.2.1 _ _ (by unfold Wyb; omega)).trans (hcd i hi).2) (vy.vx rc hk ht htr hx) (by omega) rt
      have v01 : v = 0 ∨ v = 1 := z5
      have ey : ybN h k t tr x = v.toNat := ybN_rev h4 hn n16 z3
      have ez : z = Int32.ofNat (ybN h k t tr x) := i32_of (by rw [z4, ey]; omega) (by omega)
      have yl : ybN h k t tr x < 2 := by omega
      have bl := byN_lt (h := h) (t := t) (x := x) (2 * k + tr) fun j hj => ybN_lt rc rr (by omega) ht (by omega) hx
      refine ⟨(Int32.ofNat (byN h t x (2 * k + (tr + 1))), Int32.ofNat (tr + 1), q2), ?_, rfl, rfl, fq.tr (z2.wide fun l i y => Or.inl y), ?_, ?_, ?_, ?_⟩
      · unfold f_X2_yieldBits_l133
        dsimp only
        obtain ⟨-, -, -, w1, w2, -⟩ := ct_r rq hc
        obtain ⟨-, -, -, w3, w4, -⟩ := ct_r rq1 hc
        rw [if_neg (by rw [n32_ler (by omega) (by omega)]; omega), if_pos (ct_kk hc), w2, if_pos (show c + 24 < 999999 by omega), if_pos b1, b2, if_neg (show ¬ 33 ≤ 12 by omega), ← eq1, kl_e, w3, if_pos (show c + 21 < 999999 by omega), w4, if_pos (show c + 24 < 999999 by omega), if_pos (ct_kc hc).1, z1, kb_s]
        dsimp only
        rw [kl_e, kl_e, ez, n32_mull, n32_add, n32_addl, n32_shl01 _ yl _ (by omega), n32_or, show k * 2 + tr = 2 * k + tr by omega, or_pow01 bl yl, show 2 * k + (tr + 1) = (2 * k + tr) + 1 by omega, byN, show (2 * k + tr) / 2 = k by omega, show (2 * k + tr) % 2 = tr by omega]
      · rw [z2.2.2.1 _ _ (by omega)]; exact vy.1
      · rw [z2.2.2.1 _ _ (by omega)]; exact vy.2.1
      · rw [z2.2.2.1 _ _ (by omega)]; exact vy.2.2.1
      · rw [z2.2.2.1 _ _ (by omega)]; exact vy.2.2.2.1) (fun s hP => by
      obtain ⟨s1, s2, q⟩ := s
      obtain ⟨p1, p2, p3, p4, p5, p6, p7⟩ := hP
      dsimp only at p1 p2 p3 p4 p5 p6 p7
      subst p1 p2
      refine ⟨_, ?_, q, rfl, p3, p6, p7⟩
      unfold f_X2_yieldBits_l133
      dsimp only
      rw [if_pos (by decide)]
      rfl)
  rw [er] at e
  exact ⟨g', e, q1, q2, q3⟩
theorem x_yieldBits {h : KH} {c : Nat} (rc : RC h c) (rr : Rrule h c) (ry : Ryt h c) {t x : Nat} (ht : t < kN h 198 4) (hx : x ≤ 99) :
    ∃ h', f_X2_yieldBits h c (Int32.ofNat t) (Int32.ofNat x) = some (Int32.ofNat (bitsN h t x), h') ∧ kfp (fun l _ => Wyb c l ∨ l = c + 25) h h' ∧ Ryt h' c := by
  obtain ⟨hr, hc, h5, hm, -⟩ := id rc
  have c39 := hc.lt
  have n3 := hm.1.1.2
  have n4 := hm.2.1.1.2
  rcases id rr with ⟨r1, r2⟩ | ⟨r1, r2, n, n16, hn, hcn, hcd, rt⟩
  · refine ⟨h, ?_, kfp.rf, ry⟩
    unfold f_X2_yieldBits bitsN
    rw [if_pos (ct_kk hc), r1, if_pos rfl, if_pos r2]
    rfl
  · obtain ⟨-, -, -, -, -, b1, b2, b3, b4⟩ := ct_kc hc
    obtain ⟨k0, k1, k2, l0, l1, l2⟩ := ct_kt hc
    obtain ⟨w0, w1, w2, w9, w10, w11⟩ := ct_r hr hc
    have bl := bits_lt rc rr ht hx
    have r2n : kI h 204 1 ≠ -1 := by rw [r2]; decide
    have e4 : kI h c 4 = Int32.ofNat (kN h 198 4) := hm.2.1.2.trans hm.2.1.1.1
    rcases ry r2n t ht x hx with q0 | q0
    · obtain ⟨g0, eg0⟩ : ∃ g, g = ksI (ksI h (c + 24) 6 (kI h 201 (6 + t))) (c + 24) 11 (Int32.ofNat x) := ⟨_, rfl⟩
      have f0 : kfp (fun l _ => Wyb c l) h g0 := by rw [eg0]; exact (kfp.rf.sI _ (Or.inr rfl)).sI _ (Or.inr rfl)
      have r0 := hr.fp f0
      obtain ⟨r, e, g, er, fg⟩ := kloop_inv (body := f_X2_yieldBits_l91 c (Int32.ofNat (100 * t + x))) (fun k s => s.1 = Int32.ofNat (byN h t x (2 * k)) ∧ s.2.1 = Int32.ofNat k ∧ kfp (fun l _ => Wyb c l) h s.2.2 ∧ kI s.2.2 (c + 24) 6 = kI h 201 (6 + t) ∧ kI s.2.2 (c + 24) 11 = Int32.ofNat x)
        (fun r => ∃ g, r = (Int32.ofNat (byN h t x (2 * kN h 198 3)), g) ∧ kfp (fun l _ => Wyb c l) h g) (kN h 198 3) (s0 := ((0 : Int32), (0 : Int32), g0)) (by omega) ⟨rfl, rfl, f0, by rw [eg0, kI_sI, if_neg (by omega), kI_sI, if_pos ⟨rfl, rfl⟩], by rw [eg0, kI_sI, if_pos ⟨rfl, rfl⟩]⟩ (fun k s hk hP => by
          obtain ⟨s1, s2, q⟩ := s
          obtain ⟨p1, p2, p3, p4, p5⟩ := hP
          dsimp only at p1 p2 p3 p4 p5
          subst p1 p2
          have rq := hr.fp p3
          obtain ⟨x1, x2⟩ := ct_kind (k := k) hc (by omega)
          obtain ⟨y1, y2⟩ := rc.2.2.2.2.1 k hk 0 (by omega)
          obtain ⟨y3, y4⟩ := rc.2.2.2.2.1 k hk 1 (by omega)
          have i1 : kI q (c + 2 + k) 1 = kI h 200 (24 + 4 * k) := by rw [p3.2.2.1 _ _ (by unfold Wyb; omega)]; exact y2
          obtain ⟨q1, eq1⟩ : ∃ q1, q1 = ksI q (c + 24) 1 (kI h 200 (24 + 4 * k)) := ⟨_, rfl⟩
          have fq1 : kfp (fun l _ => Wyb c l) h q1 := by rw [eq1]; exact p3.sI _ (Or.inr rfl)
          have rq1 := hr.fp fq1
          have i2 : kI q1 (c + 2 + k) 2 = kI h 200 (25 + 4 * k) := by
            rw [fq1.2.2.1 _ _ (by unfold Wyb; omega), show 25 + 4 * k = 24 + 4 * k + 1 by omega]; exact y4
          obtain ⟨q2, eq2⟩ : ∃ q2, q2 = ksI q1 (c + 24) 2 (kI h 200 (25 + 4 * k)) := ⟨_, rfl⟩
          have fq2 : kfp (fun l _ => Wyb c l) h q2 := by rw [eq2]; exact fq1.sI _ (Or.inr rfl)
          obtain ⟨q3, z1, z2, z3, z4⟩ := x_ybTruth rc rr hk ht hx hn n16 hcn hcd rt r2 (Int32.ofNat (100 * t + x)) fq2 (by rw [eq2, kI_sI, if_neg (by omega), eq1, kI_sI, if_pos ⟨rfl, rfl⟩]) (by rw [eq2, kI_sI, if_pos ⟨rfl, rfl⟩]) (by rw [eq2, kI_sI, if_neg (by omega), eq1, kI_sI, if_neg (by omega), p4]) (by rw [eq2, kI_sI, if_neg (by omega), eq1, kI_sI, if_neg (by omega), p5])
          refine ⟨(Int32.ofNat (byN h t x (2 * (k + 1))), Int32.ofNat (k + 1), q3), ?_, rfl, rfl, z2, z3, z4⟩
          obtain ⟨a0, -, -, -, a10, -⟩ := ct_r rq hc
          obtain ⟨d0, -, -, -, d10, -⟩ := ct_r rq1 hc
          have e3 : kI q c 3 = Int32.ofNat (kN h 198 3) := (p3.2.2.1 _ _ (by unfold Wyb; omega)).trans (hm.1.2.trans hm.1.1.1)
          unfold f_X2_yieldBits_l91
          dsimp only
          rw [if_pos (ct_kk hc), e3, if_neg (by rw [n32_le (by omega) (by omega)]; omega), a10, if_pos (show c + 24 < 999999 by omega), a0, if_pos (show c + 1 < 999999 by omega), if_pos k0, l0, if_neg (by rw [n32_cl (by omega)]; exact fun z => z.elim (n32_nn (by omega)) (by omega)), n32_cl (by omega), ct_rk rq hc (by omega), if_pos (show c + 2 + k < 999999 by omega), if_pos x1, x2, if_neg (show ¬ 5 ≤ 1 by omega), if_pos b1, b2, if_neg (show ¬ 33 ≤ 1 by omega), i1, ← eq1, kl_e]
          rw [d10, if_pos (show c + 24 < 999999 by omega), d0, if_pos (show c + 1 < 999999 by omega), if_pos k0, l0, if_neg (fun z => z.elim (n32_nn (by omega)) (by omega)), ct_rk rq1 hc (by omega), if_pos (show c + 2 + k < 999999 by omega), if_pos x1, x2, if_neg (show ¬ 5 ≤ 2 by omega), if_pos b1, b2, if_neg (show ¬ 33 ≤ 2 by omega), i2, ← eq2, kl_e, z1, kb_s, kl_e, n32_addl]) (fun s hP => by
          obtain ⟨s1, s2, q⟩ := s
          obtain ⟨p1, p2, p3, p4, p5⟩ := hP
          dsimp only at p1 p2 p3 p4 p5
          subst p1 p2
          have e3 : kI q c 3 = Int32.ofNat (kN h 198 3) := (p3.2.2.1 _ _ (by unfold Wyb; omega)).trans (hm.1.2.trans hm.1.1.1)
          refine ⟨_, ?_, q, rfl, p3⟩
          unfold f_X2_yieldBits_l91
          dsimp only
          rw [if_pos (ct_kk hc), e3, if_pos (by rw [n32_le (by omega) (by omega)]; omega)])
      rw [er] at e
      have eb : bitsN h t x = byN h t x (2 * kN h 198 3) := if_neg r2n
      rw [← eb] at e
      obtain ⟨g1, eg1⟩ : ∃ g1, g1 = ksI g (c + 25) (100 * t + x) (Int32.ofNat (4096 + bitsN h t x)) := ⟨_, rfl⟩
      have F : kfp (fun l _ => Wyb c l ∨ l = c + 25) h g1 := by rw [eg1]; exact (fg.wide fun l i y => Or.inl y).sI _ (Or.inr rfl)
      have rg := hr.fp fg
      have or4 : 4096 ||| bitsN h t x = 4096 + bitsN h t x := by
        rw [Nat.or_comm, show 4096 = 2 ^ 12 from rfl, or_pow (n := 12) bl, Nat.add_comm]
      refine ⟨g1, ?_, F, fun _ t' ht' x' hx' => ?_⟩
      · obtain ⟨y1, y2⟩ := ct_test (k := t) hc (by omega)
        obtain ⟨-, g2⟩ := rc.2.2.2.2.2.1 t ht
        have w10' := (ct_r (hr.sI (c + 24) 6 (kI h 201 (6 + t))) hc).2.2.2.2.1
        unfold f_X2_yieldBits
        rw [if_pos (ct_kk hc), r1, if_neg (show ¬ ((1 : Int32) = 0) by decide), if_neg (n32_nn (by omega)), e4, if_neg (by rw [n32_le (by omega) (by omega)]; omega), if_neg (n32_nn (by omega)), if_pos (by rw [n32_lel (by omega) (by omega)]; exact hx), n32_mull, n32_add, show t * 100 + x = 100 * t + x by omega, kl_e, w11, if_pos (show c + 25 < 999999 by omega), if_pos b3, b4, if_neg (by rw [n32_cl (by omega)]; exact fun z => z.elim (n32_nn (by omega)) (by omega)), n32_cl (show 100 * t + x < 2147483648 by omega), q0, if_pos rfl, w10, if_pos (show c + 24 < 999999 by omega), w1, if_pos (show c + 8 < 999999 by omega), if_pos k1, l1, if_neg (by rw [n32_cl (by omega)]; exact fun z => z.elim (n32_nn (by omega)) (by omega)), n32_cl (show t < 2147483648 by omega), ct_rt hr hc (by omega), if_pos (show c + 9 + t < 999999 by omega), if_pos y1, y2, if_neg (show ¬ 2 ≤ 1 by omega), if_pos b1, b2, if_neg (show ¬ 33 ≤ 6 by omega), g2, kl_e, w10', if_pos (show c + 24 < 999999 by omega), if_pos b1, b2, if_neg (show ¬ 33 ≤ 11 by omega), ← eg0, kl_e, e, kb_s]
        dsimp only
        rw [(ct_r rg hc).2.2.2.2.2, if_pos (show c + 25 < 999999 by omega), if_pos b3, b4, if_neg (fun z => z.elim (n32_nn (by omega)) (by omega)), show (4096 : Int32) = Int32.ofNat 4096 from rfl, n32_or, or4, ← eg1, kl_e]
      · have eB : bitsN g1 = bitsN h := bitsN_eq (fun l i z => F.2.2.1 _ _ (by unfold Wlw at z; unfold Wyb; omega)) (F.2.2.1 _ _ (by unfold Wyb; omega))
        rw [eB, eg1, kI_sI]
        by_cases y : 100 * t' + x' = 100 * t + x
        · right
          rw [if_pos ⟨rfl, y⟩, show t' = t by omega, show x' = x by omega]
        · rw [if_neg (fun z => y z.2), fg.2.2.1 _ _ (by unfold Wyb; omega)]
          refine ry r2n t' ?_ x' hx'
          rw [kN_same (F.2.2.1 198 4 (by unfold Wyb; omega))] at ht'
          exact ht'
    · refine ⟨h, ?_, kfp.rf, ry⟩
      have e5 : (4096 + bitsN h t x) &&& 4095 = bitsN h t x := by
        have := Nat.and_two_pow_sub_one_eq_mod (4096 + bitsN h t x) 12
        rw [show 2 ^ 12 - 1 = 4095 from rfl] at this
        rw [this]
        omega
      unfold f_X2_yieldBits
      rw [if_pos (ct_kk hc), r1, if_neg (show ¬ ((1 : Int32) = 0) by decide), if_neg (n32_nn (by omega)), e4, if_neg (by rw [n32_le (by omega) (by omega)]; omega), if_neg (n32_nn (by omega)), if_pos (by rw [n32_lel (by omega) (by omega)]; exact hx), n32_mull, n32_add, show t * 100 + x = 100 * t + x by omega, kl_e, w11, if_pos (show c + 25 < 999999 by omega), if_pos b3, b4, if_neg (by rw [n32_cl (by omega)]; exact fun z => z.elim (n32_nn (by omega)) (by omega)), n32_cl (show 100 * t + x < 2147483648 by omega), q0, if_neg (by rw [n32_ne0 (by omega)]; omega), n32_andl, e5]
