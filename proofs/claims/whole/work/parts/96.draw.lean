/-! draws by the seed -/
def drN (d : Nat) : Nat := (1103515245 * d + 12345) % 2147483648
theorem drN_lt (d : Nat) : drN d < 2147483648 := Nat.mod_lt _ (by omega)
theorem x_draw {h : KH} {d n : Nat} (e : kI h 0 14 = Int32.ofNat d) (n0 : 0 < n) (hn : n < 2147483648) : f_X11_draw h 0 (Int32.ofNat n) = some (Int32.ofNat (drN d / 64 % n), ksI h 0 14 (Int32.ofNat (drN d))) := by
  have l := drN_lt d
  have ea : (((1103515245 : Int32) * Int32.ofNat d) + (12345 : Int32)) &&& (2147483647 : Int32) = Int32.ofNat (drN d) := by
    have ha : ∀ x : Nat, x &&& 2147483647 = x % 2147483648 := fun x => Nat.and_two_pow_sub_one_eq_mod x 31
    rw [n32_mulr, n32_addl, n32_andl]
    exact congrArg Int32.ofNat (ha _)
  have es : Int32.ofNat (drN d) >>> ((6 : Int32) &&& 31) = Int32.ofNat (drN d / 64) := by
    have := n32_shr (a := drN d) (k := 6) l (by omega)
    rw [Nat.shiftRight_eq_div_pow] at this
    exact this
  unfold f_X11_draw
  rw [if_pos kk0, e, ea, kl_e, if_neg (show ¬ Int32.ofNat n ≤ 0 by rw [show (0 : Int32) = Int32.ofNat 0 from rfl, n32_le (by omega) (by omega)]; omega), if_neg (show ¬ Int32.ofNat n = 0 by rw [n32_ne0 (by omega)]; omega), kI_sI, if_pos ⟨rfl, rfl⟩, es, n32_rem (by omega) (by omega)]
theorem m_drawOf {h : KH} {d n : Nat} (e : kL h 173 63 = Int64.ofNat d) (hd : d < 2147483648) (n0 : 0 < n) (hn : n < 2147483648) : f_X12_drawOf h 173 (Int32.ofNat n) = some (Int32.ofNat (drN d / 64 % n), ksL h 173 63 (Int64.ofNat (drN d))) := by
  have l := drN_lt d
  have m : drN d / 64 % n < n := Nat.mod_lt _ n0
  have ea : ((1103515245 : Int64) * Int64.ofNat d + (12345 : Int64)) - ((1103515245 : Int64) * Int64.ofNat d + (12345 : Int64)) / (2147483648 : Int64) * (2147483648 : Int64) = Int64.ofNat (drN d) := by
    rw [n64_mulr, n64_addl]
    exact n64_rem (b := 2147483648) (by omega) (by omega)
  have es : Int64.ofNat (drN d) / (64 : Int64) = Int64.ofNat (drN d / 64) := n64_div (b := 64) (by omega) (by omega)
  unfold f_X12_drawOf
  rw [if_pos kk173, e, ea, kl_e, n32_toI64 hn, if_neg (show ¬ Int64.ofNat n = 0 by rw [show (0 : Int64) = Int64.ofNat 0 from rfl, n64_eq (by omega) (by omega)]; omega), kL_sL, if_pos ⟨rfl, rfl⟩, es, n64_rem (by omega) (by omega), n64_to32 (by omega)]
/-- which KIND a draw is of: the greatest whose sum ahead isn't passed -/
def pkN (f : Nat → Nat) (l : Nat) : Nat → Nat
  | 0 => 0
  | n + 1 => if sN f n ≤ l then n else pkN f l n
theorem pkN_at {f : Nat → Nat} {l : Nat} : ∀ n, l < sN f n → pkN f l n < n ∧ sN f (pkN f l n) ≤ l ∧ l < sN f (pkN f l n + 1)
  | 0, h => absurd h (Nat.not_lt_zero _)
  | n + 1, h => by
    rw [pkN]
    by_cases y : sN f n ≤ l
    · rw [if_pos y]
      exact ⟨by omega, y, h⟩
    · rw [if_neg y]
      obtain ⟨a, b, c⟩ := pkN_at (f := f) (l := l) n (by omega)
      exact ⟨by omega, b, c⟩
theorem sN_mono {f : Nat → Nat} {a : Nat} : ∀ n, sN f a ≤ sN f (a + n)
  | 0 => Nat.le_refl _
  | n + 1 => Nat.le_trans (sN_mono n) (Nat.le_add_right _ _)
theorem pk_uniq {f : Nat → Nat} {l a b : Nat} (h1 : sN f a ≤ l) (h2 : l < sN f (a + 1)) (h3 : sN f b ≤ l) (h4 : l < sN f (b + 1)) : a = b := by
  have m : ∀ x y, x < y → sN f (x + 1) ≤ sN f y := fun x y z => by
    have := sN_mono (f := f) (a := x + 1) (y - (x + 1))
    rw [show x + 1 + (y - (x + 1)) = y by omega] at this
    exact this
  refine Classical.byContradiction fun z => ?_
  by_cases y : a < b
  · have := m a b y
    omega
  · have := m b a (by omega)
    omega
theorem sN_le {f : Nat → Nat} {b : Nat} : ∀ n, (∀ k, k < n → f k ≤ b) → sN f n ≤ n * b
  | 0, _ => Nat.zero_le _
  | n + 1, h => by
    have a := sN_le n fun k hk => h k (by omega)
    have c := h n (by omega)
    rw [sN, Nat.succ_mul]
    omega
def fqS (h : KH) (tr : Nat) : Nat := sN (fun k => fqN h k tr) (kN h 198 3)
theorem fqS_le {h : KH} {c : Nat} (rc : RC h c) {tr : Nat} (htr : tr < 2) : fqS h tr ≤ 54 := by
  have n3 := rc.2.2.2.1.1.1.2
  have := sN_le (f := fun k => fqN h k tr) (b := 9) (kN h 198 3) fun k hk => fq_le rc hk htr
  unfold fqS
  omega
/-- the KIND that is drawn -/
def kdD (h : KH) (tr d : Nat) : Nat := pkN (fun k => fqN h k tr) (drN d / 64 % fqS h tr) (kN h 198 3)
theorem n32_neg1 {a b : Nat} (h : a < b) (hb : b < 2147483648) : ¬ 0 ≤ Int32.ofNat a - Int32.ofNat b := by
  have e : Int32.ofNat b - Int32.ofNat a = Int32.ofNat (b - a) := n32_sub (by omega)
  have e2 : Int32.ofNat a - Int32.ofNat b = -Int32.ofNat (b - a) := by rw [← e, Int32.neg_sub]
  rw [e2, Int32.le_iff_toInt_le, Int32.toInt_neg, n32_toInt (by omega)]
  show ¬ (0 : Int) ≤ _
  rw [Int.bmod_eq_of_le (by omega) (by omega)]
  omega
theorem x_drawKind {h : KH} {c d tr : Nat} (rc : RC h c) (e : kI h 0 14 = Int32.ofNat d) (htr : tr < 2) : f_X11_drawKind h 0 (Int32.ofNat tr) = some (if fqS h tr = 0 then -1 else Int32.ofNat (kdD h tr d), if fqS h tr = 0 then h else ksI h 0 14 (Int32.ofNat (drN d))) := by
  obtain ⟨hr, hc, h5, hm, hk, -⟩ := id rc
  have c39 := hc.lt
  have n3 := hm.1.1.2
  have sl := fqS_le rc htr
  have e3 : kI h c 3 = Int32.ofNat (kN h 198 3) := hm.1.2.trans hm.1.1.1
  obtain ⟨t1, -, -, t4, -⟩ := ct_kt hc
  have fl : ∀ k, k < kN h 198 3 → fqN h k tr ≤ 9 := fun k hk => fq_le rc hk htr
  have cell : ∀ k, k < kN h 198 3 → kI h (c + 2 + k) (4 - tr) = Int32.ofNat (fqN h k tr) := fun k y => by
    have := hk k y (3 - tr) (by omega)
    rw [show 4 - tr = 3 - tr + 1 by omega, this.2, this.1.1]
    rfl
  have smo : ∀ k, k ≤ kN h 198 3 → sN (fun k => fqN h k tr) k ≤ fqS h tr := fun k y => by
    have := sN_mono (f := fun k => fqN h k tr) (a := k) (kN h 198 3 - k)
    rw [show k + (kN h 198 3 - k) = kN h 198 3 by omega] at this
    exact this
  have e1 := kloop_for (body := f_X11_drawKind_l15 h 0 (Int32.ofNat (4 - tr))) (fun k => (Int32.ofNat (sN (fun k => fqN h k tr) k), Int32.ofNat k)) (kN h 198 3) (Int32.ofNat (fqS h tr)) (by omega) (fun k y => by
    obtain ⟨q1, q2⟩ := ct_kind (k := k) hc (by omega)
    unfold f_X11_drawKind_l15
    dsimp only
    rw [if_pos kk0, h5, if_pos (show c < 999999 by omega), if_pos (ct_kk hc), e3, if_neg (by rw [n32_le (by omega) (by omega)]; omega), (ct_r hr hc).1, if_pos (by omega), if_pos t1, t4, if_neg (by rw [n32_cl (by omega)]; exact fun z => z.elim (n32_nn (by omega)) (by omega)), n32_cl (show k < 2147483648 by omega), ct_rk hr hc (by omega), if_pos (by omega), if_pos q1, q2, if_neg (by rw [n32_cl (by omega)]; exact fun z => z.elim (n32_nn (by omega)) (by omega)), n32_cl (show 4 - tr < 2147483648 by omega), cell k y, n32_add, kl_e, n32_addl, kl_e]
    rfl) (by
    unfold f_X11_drawKind_l15
    dsimp only
    rw [if_pos kk0, h5, if_pos (show c < 999999 by omega), if_pos (ct_kk hc), e3, if_pos (by rw [n32_le (by omega) (by omega)]; omega)]
    rfl)
  have e1' : kloop (f_X11_drawKind_l15 h 0 (Int32.ofNat (4 - tr))) KF ((0 : Int32), (0 : Int32)) = some (Int32.ofNat (fqS h tr)) := e1
  have b9 : f_X11_drawKind_b9 h 0 (Int32.ofNat (4 - tr)) = some (if fqS h tr = 0 then -1 else Int32.ofNat (kdD h tr d), if fqS h tr = 0 then h else ksI h 0 14 (Int32.ofNat (drN d))) := by
    unfold f_X11_drawKind_b9
    rw [e1', kb_s]
    by_cases s0 : fqS h tr = 0
    · rw [if_pos (by rw [s0]; rfl), if_pos s0, if_pos s0]
    · rw [if_neg (by rw [n32_ne0 (by omega)]; exact s0), if_pos kk0, x_draw e (by omega) (by omega), kb_s, if_neg s0, if_neg s0]
      dsimp only
      obtain ⟨l, hl⟩ : ∃ l, drN d / 64 % fqS h tr = l := ⟨_, rfl⟩
      have ll : l < fqS h tr := by rw [← hl]; exact Nat.mod_lt _ (by omega)
      obtain ⟨g, eg⟩ : ∃ g, g = ksI h 0 14 (Int32.ofNat (drN d)) := ⟨_, rfl⟩
      have fg : kfp (fun l i => l = 0 ∧ i = 14) h g := by rw [eg]; exact kfp.rf.sI _ ⟨rfl, rfl⟩
      have rg := hr.fp fg
      obtain ⟨p1, p2, p3⟩ := pkN_at (f := fun k => fqN h k tr) (l := l) (kN h 198 3) ll
      rw [hl, ← eg]
      obtain ⟨r, er, rfl⟩ := kloop_up (body := f_X11_drawKind_l64 g 0 (Int32.ofNat (4 - tr))) (fun k => (Int32.ofNat (l - sN (fun k => fqN h k tr) k), Int32.ofNat k)) (fun k => sN (fun k => fqN h k tr) k ≤ l) (fun r => r = .inr (Int32.ofNat (kdD h tr d), g)) (a := 0) (N := kN h 198 3) (by omega) (by omega) (Nat.zero_le _) (fun k _ y z => by
        obtain ⟨q1, q2⟩ := ct_kind (k := k) hc (by omega)
        have cl := fl k y
        have sm := smo (k + 1) (by omega)
        have sk : sN (fun k => fqN h k tr) (k + 1) = sN (fun k => fqN h k tr) k + fqN h k tr := rfl
        have base : ∀ (x : Int32), x = Int32.ofNat (l - sN (fun k => fqN h k tr) k) - Int32.ofNat (fqN h k tr) → f_X11_drawKind_l64 g 0 (Int32.ofNat (4 - tr)) (Int32.ofNat (l - sN (fun k => fqN h k tr) k), Int32.ofNat k) = if 0 ≤ x then some (.inl (x, Int32.ofNat (k + 1))) else some (.inr (.inr (Int32.ofNat k, g))) := fun x hx => by
          unfold f_X11_drawKind_l64
          dsimp only
          rw [if_pos kk0, fg.2.1, h5, if_pos (show c < 999999 by omega), if_pos (ct_kk hc), fg.2.2.1 _ _ (by omega), e3, if_neg (by rw [n32_le (by omega) (by omega)]; omega), (ct_r rg hc).1, if_pos (by omega), if_pos t1, t4, if_neg (by rw [n32_cl (by omega)]; exact fun z => z.elim (n32_nn (by omega)) (by omega)), n32_cl (show k < 2147483648 by omega), ct_rk rg hc (by omega), if_pos (by omega), if_pos q1, q2, if_neg (by rw [n32_cl (by omega)]; exact fun z => z.elim (n32_nn (by omega)) (by omega)), n32_cl (show 4 - tr < 2147483648 by omega), fg.2.2.1 _ _ (by omega), cell k y, ← hx, kl_e, n32_addl, kl_e, kout2_s]
        by_cases w : l < sN (fun k => fqN h k tr) (k + 1)
        · have ek : kdD h tr d = k := by
            unfold kdD
            rw [hl]
            exact pk_uniq p2 p3 z w
          refine Or.inl ⟨_, ?_, rfl⟩
          rw [base _ rfl, if_neg (n32_neg1 (by omega) (by omega)), ek]
        · refine Or.inr ⟨?_, by omega⟩
          rw [base _ (n32_sub (a := l - sN (fun k => fqN h k tr) k) (b := fqN h k tr) (by omega)).symm, if_pos (by rw [show (0 : Int32) = Int32.ofNat 0 from rfl, n32_le (by omega) (by omega)]; omega), show l - sN (fun k => fqN h k tr) k - fqN h k tr = l - sN (fun k => fqN h k tr) (k + 1) by omega]) (fun z => by
        exact absurd ll (Nat.not_lt.mpr z))
      have er' : kloop (f_X11_drawKind_l64 g 0 (Int32.ofNat (4 - tr))) KF (Int32.ofNat l, (0 : Int32)) = some (.inr (Int32.ofNat (kdD h tr d), g)) := er
      rw [er', kb_s, ksum_r]
  unfold f_X11_drawKind
  by_cases y : tr = 0
  · rw [if_pos (by rw [y]; rfl), show (4 : Int32) = Int32.ofNat (4 - tr) by rw [y]; rfl, b9]
  · rw [if_neg (by rw [n32_ne0 (by omega)]; exact y), show (3 : Int32) = Int32.ofNat (4 - tr) by rw [show tr = 1 by omega]; rfl, b9]
theorem m_drawnKind {h g : KH} {c d tr : Nat} (rc : RC h c) (rg : kRefs g) (law : Law h g) (e : kL g 173 63 = Int64.ofNat d) (hd : d < 2147483648) (htr : tr < 2) : f_X12_drawnKind g 173 (Int32.ofNat tr) = some (if fqS h tr = 0 then -1 else Int32.ofNat (kdD h tr d), if fqS h tr = 0 then g else ksL g 173 63 (Int64.ofNat (drN d))) := by
  obtain ⟨hr, hc, h5, hm, hk, -⟩ := id rc
  have n3 := hm.1.1.2
  have sl := fqS_le rc htr
  have e3 : kI g 198 3 = Int32.ofNat (kN h 198 3) := (law _ _ (by omega) (by omega)).trans hm.1.1.1
  have fl : ∀ k, k < kN h 198 3 → fqN h k tr ≤ 9 := fun k hk => fq_le rc hk htr
  have cell : ∀ k, k < kN h 198 3 → kI g 200 (27 - tr + 4 * k) = Int32.ofNat (fqN h k tr) := fun k y => by
    have := hk k y (3 - tr) (by omega)
    rw [law _ _ (by omega) (by omega), show 27 - tr + 4 * k = 24 + 4 * k + (3 - tr) by omega, this.1.1]
    rfl
  have smo : ∀ k, k ≤ kN h 198 3 → sN (fun k => fqN h k tr) k ≤ fqS h tr := fun k y => by
    have := sN_mono (f := fun k => fqN h k tr) (a := k) (kN h 198 3 - k)
    rw [show k + (kN h 198 3 - k) = kN h 198 3 by omega] at this
    exact this
  have e1 := kloop_for (body := f_X12_drawnKind_l17 g 173 (Int32.ofNat (27 - tr))) (fun k => (Int32.ofNat (sN (fun k => fqN h k tr) k), Int32.ofNat k)) (kN h 198 3) (Int32.ofNat (fqS h tr)) (by omega) (fun k y => by
    unfold f_X12_drawnKind_l17
    dsimp only
    rw [if_pos kk173, m_kindMany rg, kb_s, e3, if_neg (by rw [n32_le (by omega) (by omega)]; omega), rf173_35 rg, if_pos (show 200 < 999999 by omega), if_pos kk200, kn200, n32_mulr, n32_add, if_neg (by rw [n32_cl (by omega)]; exact fun z => z.elim (n32_nn (by omega)) (by omega)), n32_cl (by omega), cell k y, n32_add, kl_e, n32_addl, kl_e]
    rfl) (by
    unfold f_X12_drawnKind_l17
    dsimp only
    rw [if_pos kk173, m_kindMany rg, kb_s, e3, if_pos (by rw [n32_le (by omega) (by omega)]; omega)]
    rfl)
  have e1' : kloop (f_X12_drawnKind_l17 g 173 (Int32.ofNat (27 - tr))) KF ((0 : Int32), (0 : Int32)) = some (Int32.ofNat (fqS h tr)) := e1
  have b13 : f_X12_drawnKind_b13 g 173 (0 : Int32) (Int32.ofNat (27 - tr)) = some (if fqS h tr = 0 then -1 else Int32.ofNat (kdD h tr d), if fqS h tr = 0 then g else ksL g 173 63 (Int64.ofNat (drN d))) := by
    unfold f_X12_drawnKind_b13
    rw [e1', kb_s]
    by_cases s0 : fqS h tr = 0
    · rw [if_pos (by rw [s0]; rfl), if_pos s0, if_pos s0]
    · rw [if_neg (by rw [n32_ne0 (by omega)]; exact s0), if_pos kk173, m_drawOf e hd (by omega) (by omega), kb_s, if_neg s0, if_neg s0]
      dsimp only
      obtain ⟨l, hl⟩ : ∃ l, drN d / 64 % fqS h tr = l := ⟨_, rfl⟩
      have ll : l < fqS h tr := by rw [← hl]; exact Nat.mod_lt _ (by omega)
      obtain ⟨q, eq⟩ : ∃ q, q = ksL g 173 63 (Int64.ofNat (drN d)) := ⟨_, rfl⟩
      have fq : kfp (fun l i => l = 173 ∧ i = 63) g q := by rw [eq]; exact kfp.rf.sL _ ⟨rfl, rfl⟩
      have rq := rg.fp fq
      obtain ⟨p1, p2, p3⟩ := pkN_at (f := fun k => fqN h k tr) (l := l) (kN h 198 3) ll
      rw [hl, ← eq]
      obtain ⟨r, er, rfl⟩ := kloop_up (body := f_X12_drawnKind_l62 q 173 (Int32.ofNat (27 - tr))) (fun k => (Int32.ofNat (l - sN (fun k => fqN h k tr) k), Int32.ofNat k)) (fun k => sN (fun k => fqN h k tr) k ≤ l) (fun r => r = Int32.ofNat (kdD h tr d)) (a := 0) (N := kN h 198 3) (by omega) (by omega) (Nat.zero_le _) (fun k _ y z => by
        have cl := fl k y
        have sm := smo (k + 1) (by omega)
        have sk : sN (fun k => fqN h k tr) (k + 1) = sN (fun k => fqN h k tr) k + fqN h k tr := rfl
        have cq : kI q 200 (27 - tr + 4 * k) = Int32.ofNat (fqN h k tr) := by rw [fq.2.2.1 _ _ (by omega)]; exact cell k y
        unfold f_X12_drawnKind_l62
        dsimp only
        rw [if_pos kk173, rf173_35 rq, if_pos (show 200 < 999999 by omega), if_pos kk200, kn200, n32_mulr, n32_add, if_neg (by rw [n32_cl (by omega)]; exact fun z => z.elim (n32_nn (by omega)) (by omega)), n32_cl (by omega), cq]
        by_cases w : l < sN (fun k => fqN h k tr) (k + 1)
        · have ek : kdD h tr d = k := by
            unfold kdD
            rw [hl]
            exact pk_uniq p2 p3 z w
          refine Or.inl ⟨_, ?_, rfl⟩
          rw [if_pos (by rw [n32_lt (by omega) (by omega)]; omega), ek]
        · refine Or.inr ⟨?_, by omega⟩
          rw [if_neg (by rw [n32_lt (by omega) (by omega)]; omega), n32_sub (by omega), kl_e, n32_addl, kl_e, show l - sN (fun k => fqN h k tr) k - fqN h k tr = l - sN (fun k => fqN h k tr) (k + 1) by omega]) (fun z => by
        exact absurd ll (Nat.not_lt.mpr z))
      have er' : kloop (f_X12_drawnKind_l62 q 173 (Int32.ofNat (27 - tr))) KF (Int32.ofNat l, (0 : Int32)) = some (Int32.ofNat (kdD h tr d)) := er
      rw [er', kb_s]
  unfold f_X12_drawnKind
  by_cases y : tr = 0
  · rw [if_pos (by rw [y]; rfl), show (27 : Int32) = Int32.ofNat (27 - tr) by rw [y]; rfl, b13]
  · rw [if_neg (by rw [n32_ne0 (by omega)]; exact y), show (26 : Int32) = Int32.ofNat (27 - tr) by rw [show tr = 1 by omega]; rfl, b13]
