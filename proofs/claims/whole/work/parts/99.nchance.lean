/-! chance -/
noncomputable def cit (h : KH) (K0 : Nat) (s0 : CS) : Nat → CS
  | 0 => s0
  | n + 1 => cst h K0 (cit h K0 s0 n)
noncomputable def rgs (h : KH) (K0 : Nat) (s0 : CS) : Nat → Nat
  | 0 => 0
  | n + 1 => rgs h K0 s0 n + rgD h (cit h K0 s0 n)
theorem cst_m (h : KH) (K0 : Nat) (s : CS) : (cst h K0 s).2.2.1 ≤ s.2.2.1 + 1 ∧ s.2.2.1 ≤ (cst h K0 s).2.2.1 := by
  unfold cst
  by_cases y : okD h s.1
  · rw [if_pos y]
    exact ⟨Nat.le_refl _, Nat.le_succ _⟩
  · rw [if_neg y]
    exact ⟨Nat.le_succ _, Nat.le_refl _⟩
theorem cst_R (h : KH) (K0 : Nat) (s : CS) {x : Nat} (hx : x < K0) (i : Nat) : (cst h K0 s).2.2.2.2 x i = s.2.2.2.2 x i := by
  unfold cst
  by_cases y : okD h s.1
  · rw [if_pos y]
    show (if x = K0 + s.2.2.1 then _ else _) = _
    rw [if_neg (by omega)]
  · rw [if_neg y]
theorem cit_b {h : KH} {c : Nat} (rc : RC h c) {K0 : Nat} {s0 : CS} (b : CB h s0) (m0 : s0.2.2.1 = 0) : ∀ n, CB h (cit h K0 s0 n) ∧ (cit h K0 s0 n).2.2.1 ≤ n ∧ ∀ x, x < K0 → ∀ i, (cit h K0 s0 n).2.2.2.2 x i = s0.2.2.2.2 x i
  | 0 => ⟨b, by rw [cit, m0]; exact Nat.le_refl _, fun _ _ _ => rfl⟩
  | n + 1 => by
    obtain ⟨a, m, r⟩ := cit_b rc (K0 := K0) b m0 n
    rw [cit]
    have := (cst_m h K0 (cit h K0 s0 n)).1
    exact ⟨a.go rc, by omega, fun x hx i => by rw [cst_R h K0 _ hx]; exact r x hx i⟩
theorem rgD_le (h : KH) (s : CS) : rgD h s ≤ 1 := by
  unfold rgD
  by_cases y : okD h s.1
  · rw [if_pos y]
    split <;> omega
  · rw [if_neg y]
    omega
theorem rgs_le (h : KH) (K0 : Nat) (s0 : CS) : ∀ n, rgs h K0 s0 n ≤ n
  | 0 => Nat.le_refl _
  | n + 1 => by
    have a := rgs_le h K0 s0 n
    have b := rgD_le h (cit h K0 s0 n)
    rw [rgs]
    omega
theorem x_cases {h : KH} {c C0 K0 n : Nat} {s0 : CS} (rc : RC h c) (rr : Rrule h c) (b : CB h s0) (m0 : s0.2.2.1 = 0) (x : Xc h h c C0 K0 s0) (C9 : C0 + n ≤ 9999) (K9 : K0 ≤ C0) (n30 : n ≤ 30) :
    ∃ g, kloop (f_X11_chance_l47 0 (Int32.ofNat n)) KF ((0 : Int32), (0 : Int32), h) = some (Int32.ofNat (rgs h K0 s0 n), g) ∧ Xc h g c C0 K0 (cit h K0 s0 n) := by
  obtain ⟨r, e, q1, q2⟩ := kloop_inv (body := f_X11_chance_l47 0 (Int32.ofNat n)) (fun k s => s.1 = Int32.ofNat (rgs h K0 s0 k) ∧ s.2.1 = Int32.ofNat k ∧ Xc h s.2.2 c C0 K0 (cit h K0 s0 k)) (fun r => r.1 = Int32.ofNat (rgs h K0 s0 n) ∧ Xc h r.2 c C0 K0 (cit h K0 s0 n)) n (s0 := ((0 : Int32), (0 : Int32), h)) (by omega) ⟨rfl, rfl, x⟩ (fun k s hk hP => by
      obtain ⟨s1, s2, q⟩ := s
      obtain ⟨p1, p2, p3⟩ := hP
      dsimp only at p1 p2 p3
      subst p1 p2
      obtain ⟨a1, a2, -⟩ := cit_b rc (K0 := K0) b m0 k
      obtain ⟨q', u1, u2⟩ := x_case rc rr a1 p3 (by omega) K9
      refine ⟨(Int32.ofNat (rgs h K0 s0 (k + 1)), Int32.ofNat (k + 1), q'), ?_, rfl, rfl, u2⟩
      unfold f_X11_chance_l47
      dsimp only
      rw [if_neg (by rw [n32_le (by omega) (by omega)]; omega), if_pos kk0, u1, kb_s]
      dsimp only
      rw [n32_add, kl_e, n32_addl, kl_e]
      rfl) (fun s hP => by
      obtain ⟨s1, s2, q⟩ := s
      obtain ⟨p1, p2, p3⟩ := hP
      dsimp only at p1 p2 p3
      subst p1 p2
      refine ⟨(Int32.ofNat (rgs h K0 s0 n), q), ?_, rfl, p3⟩
      unfold f_X11_chance_l47
      dsimp only
      rw [if_pos (by rw [n32_le (by omega) (by omega)]; omega)])
  obtain ⟨r1, r2⟩ := r
  dsimp only at q1 q2
  exact ⟨r2, by rw [e, q1], q2⟩
theorem m_cases {h h0 : KH} {c C0 K0 n : Nat} {s0 : CS} (rc : RC h c) (rc0 : RC h0 c) (rr0 : Rrule h0 c) (law0 : Law h h0) (b : CB h s0) (m0 : s0.2.2.1 = 0) (x : Mc h0 h0 c C0 K0 s0) (C9 : C0 + n ≤ 9999) (K9 : K0 ≤ C0) (n30 : n ≤ 30) :
    ∃ g, kloop (f_X12_chance_l44 173 (Int32.ofNat n)) KF ((0 : Int32), (0 : Int32), h0) = some (Int32.ofNat (rgs h K0 s0 n), g) ∧ Mc h0 g c C0 K0 (cit h K0 s0 n) := by
  obtain ⟨r, e, q1, q2⟩ := kloop_inv (body := f_X12_chance_l44 173 (Int32.ofNat n)) (fun k s => s.1 = Int32.ofNat (rgs h K0 s0 k) ∧ s.2.1 = Int32.ofNat k ∧ Mc h0 s.2.2 c C0 K0 (cit h K0 s0 k)) (fun r => r.1 = Int32.ofNat (rgs h K0 s0 n) ∧ Mc h0 r.2 c C0 K0 (cit h K0 s0 n)) n (s0 := ((0 : Int32), (0 : Int32), h0)) (by omega) ⟨rfl, rfl, x⟩ (fun k s hk hP => by
      obtain ⟨s1, s2, q⟩ := s
      obtain ⟨p1, p2, p3⟩ := hP
      dsimp only at p1 p2 p3
      subst p1 p2
      obtain ⟨a1, a2, -⟩ := cit_b rc (K0 := K0) b m0 k
      obtain ⟨q', u1, u2⟩ := m_case rc rc0 rr0 law0 a1 p3 (by omega) K9
      have rl := rgD_le h (cit h K0 s0 k)
      refine ⟨(Int32.ofNat (rgs h K0 s0 (k + 1)), Int32.ofNat (k + 1), q'), ?_, rfl, rfl, u2⟩
      unfold f_X12_chance_l44 f_X12_chance_b59
      dsimp only
      rw [if_neg (by rw [n32_le (by omega) (by omega)]; omega), if_pos kk173, u1, kb_s]
      dsimp only
      rw [n32_addl, n32_addl, kl_e, kl_e, kl_e, rgs]
      by_cases y : rgD h (cit h K0 s0 k) = 0
      · rw [if_pos (by rw [y]; rfl), y]
        rfl
      · rw [if_neg (by rw [n32_ne0 (by omega)]; exact y), show rgD h (cit h K0 s0 k) = 1 by omega]) (fun s hP => by
      obtain ⟨s1, s2, q⟩ := s
      obtain ⟨p1, p2, p3⟩ := hP
      dsimp only at p1 p2 p3
      subst p1 p2
      refine ⟨(Int32.ofNat (rgs h K0 s0 n), q), ?_, rfl, p3⟩
      unfold f_X12_chance_l44
      dsimp only
      rw [if_pos (by rw [n32_le (by omega) (by omega)]; omega)])
  obtain ⟨r1, r2⟩ := r
  dsimp only at q1 q2
  exact ⟨r2, by rw [e, q1], q2⟩
/-- how chance ends -/
def AftC (h h' : KH) (c : Nat) : Prop := Ryt h' c ∧ Rzero h' ∧ Rseed h' ∧ ((kfp (fun l i => Wscr l i ∨ Wref l i) h h' ∧ Rref h') ∨ (RS h' ∧ RK h' ∧ Rpast h' ∧ kI h' 155 3 = 0 ∧ kfp (fun l i => Wscr l i ∨ Wact l i ∨ Wseed l i) h h'))
theorem c_chance {h : KH} {c : Nat} (rc : RC h c) (rs : RS h) (rk : RK h) (rp : Rpast h) (rr : Rrule h c) (ry : Ryt h c) (rz : Rzero h) (hf : Rref h) (sd : Rseed h) (a : Int32) : ∃ r h1 h2, f_X11_chance h 0 a = some (r, h1) ∧ f_X12_chance h1 173 a = some (r, h2) ∧ AftC h h2 c := by
  obtain ⟨hr, hc, h5, hm, -⟩ := id rc
  have c39 := hc.lt
  have n4 := hm.2.1.1.2
  have z1 : (1 : Int64).toInt = 1 := rfl
  have z30 : (30 : Int64).toInt = 30 := rfl
  have xr : f_X11_chance_b26 h 0 = some (-1, ksI h 172 3 (kI h 172 3 + 1)) := by
    unfold f_X11_chance_b26
    rw [if_pos kk0, show (3 : Int32) = Int32.ofNat 3 from rfl, x_refuse hr (by omega), kb_s]
  have mr : ∀ g, kRefs g → f_X12_chance_b26 g 173 = some (-1, ksI g 175 3 (kI g 175 3 + 1)) := fun g rg => by
    unfold f_X12_chance_b26
    rw [if_pos kk173, show (3 : Int32) = Int32.ofNat 3 from rfl, m_refuses rg (by omega), kb_s]
  obtain ⟨G, hG⟩ : ∃ G, G = ksI h 172 3 (kI h 172 3 + 1) := ⟨_, rfl⟩
  have rG : kRefs G := by rw [hG]; exact hr.sI _ _ _
  have refused : f_X11_chance h 0 a = f_X11_chance_b26 h 0 → f_X12_chance G 173 a = f_X12_chance_b26 G 173 → ∃ r h1 h2, f_X11_chance h 0 a = some (r, h1) ∧ f_X12_chance h1 173 a = some (r, h2) ∧ AftC h h2 c := fun e1 e2 => by
    have fx : kfp Wref h (ksI G 175 3 (kI G 175 3 + 1)) := by rw [hG]; exact fp_more h 3
    refine ⟨-1, G, ksI G 175 3 (kI G 175 3 + 1), by rw [e1, xr, hG], by rw [e2, mr G rG], ry.fp fx fun l i z w => ?_, rz.fp fx fun l i z w => ?_, sd.fp fx fun l i z w => ?_, Or.inl ⟨fx.wide fun l i z => Or.inr z, ?_⟩⟩
    · unfold Wlw at z
      unfold Wref at w
      rcases hc with rfl | rfl <;> omega
    · unfold Wref at w
      omega
    · unfold Wseed at z
      unfold Wref at w
      omega
    · rw [hG]
      exact Rref_more hf 3
  have cc := rs.c.1
  have e64 : kI h 64 0 = Int32.ofNat (kN h 207 0) := rs.c.2.trans cc.1
  have g207 : kI G 207 0 = Int32.ofNat (kN h 207 0) := by rw [hG, kI_sI, if_neg (by omega)]; exact cc.1
  by_cases ha : 1 ≤ a.toInt ∧ a.toInt ≤ 30
  · obtain ⟨n, n30, rfl⟩ : ∃ n, n ≤ 30 ∧ a = Int32.ofNat n := by
      rcases n32_arg a (n := 31) (by omega) with ⟨k, hk, e⟩ | hn
      · exact ⟨k, by omega, e⟩
      · exact absurd hn (fun z => z ⟨by omega, by omega⟩)
    have n1 : 1 ≤ n := by
      have := ha.1
      rw [n32_toInt (by omega)] at this
      omega
    have xt : f_X11_chance h 0 (Int32.ofNat n) = if kN h 207 0 + n ≤ 9999 then kb (f_X11_beginAct h 0) (fun r7 => if (kR r7 0 7) < 999999 then if kkind (kR r7 0 7) = 8 then kb (f_X8_forgetCase r7 (kR r7 0 7)) fun r13 => kb (kloop (f_X11_chance_l47 0 (Int32.ofNat n)) KF ((0 : Int32), (0 : Int32), r13)) fun e17 => some (e17.1, e17.2) else none else none) else f_X11_chance_b26 h 0 := by
      unfold f_X11_chance
      rw [if_neg (by rw [n32_ltl (by omega) (by omega)]; omega), if_neg (by rw [n32_ltr (by omega) (by omega)]; omega), if_pos kk0, rf0_7 hr, if_pos (show 64 < 999999 by omega), if_pos kk64, e64, n32_add]
      exact ifP (n32_le (b := 9999) (by have := cc.2; omega) (by omega))
    by_cases z : kN h 207 0 + n ≤ 9999
    · rw [if_pos z] at xt
      obtain ⟨k, p, k20, p20, q1, q2, q3, q4, hp⟩ := rp
      obtain ⟨h1, e1, f1, a1, a2, a3, a4, a5, a6⟩ := x_beginAct hr q1 k20 q3 p20
      have r1 := hr.fp f1
      have fz := xforget_fp h1 64
      obtain ⟨u1, u2⟩ := xforget_I h1 64
      obtain ⟨h2, eh2⟩ : ∃ q, q = xforget h1 64 := ⟨_, rfl⟩
      rw [← eh2] at fz u1 u2
      have F2 : kfp (fun l i => (l = 66 ∨ l = 67) ∨ (75 + 4 * p ≤ l ∧ l ≤ 78 + 4 * p) ∨ (l = 72 ∧ (i = 2 ∨ i = 3)) ∨ (l = 155 ∧ i = 3)) h h2 := (f1.wide fun l i y => by omega).tr (fz.wide fun l i y => by omega)
      have rc2 : RC h2 c := rc.fp F2 fun l i y w => by unfold Wct at y; omega
      have rr2 : Rrule h2 c := rr.fp F2 fun l i y w => by omega
      have ry2 : Ryt h2 c := ry.fp F2 fun l i y w => by unfold Wlw at y; omega
      have rz2 : Rzero h2 := rz.fp F2 fun l i y w => by omega
      have law2 : Law h h2 := fun l i a b => F2.2.2.1 _ _ (by omega)
      have n42 : kN h2 198 4 = kN h 198 4 := law2.n (by omega) (by omega)
      obtain ⟨d, hd⟩ : ∃ d, d = (kI h 0 14).toNatClampNeg := ⟨_, rfl⟩
      have d14 : kI h 0 14 = Int32.ofNat d ∧ d < 2147483648 := by
        rcases n32_arg (kI h 0 14) (n := 2147483647) (by omega) with ⟨x, hx, e⟩ | hn
        · rw [hd, e, n32_cl (by omega)]
          exact ⟨rfl, by omega⟩
        · have l0 := sd.1
          have l1 := (kI h 0 14).toInt_lt
          by_cases y : (kI h 0 14).toInt = 2147483647
          · have e : kI h 0 14 = Int32.ofNat 2147483647 := i32_of y (by omega)
            rw [hd, e, n32_cl (by omega)]
            exact ⟨rfl, by omega⟩
          · exact absurd ⟨l0, by omega⟩ hn
      obtain ⟨K0, hK0⟩ : ∃ K, K = kN h 64 2 := ⟨_, rfl⟩
      obtain ⟨C0, hC0⟩ : ∃ C, C = kN h 207 0 := ⟨_, rfl⟩
      have K9 : K0 ≤ C0 := by rw [hK0, hC0]; exact rk.k.2
      have k64 := rk.k.1
      obtain ⟨s0, hs0⟩ : ∃ s0 : CS, s0 = (d, tmM h, 0, kN h 207 1, fun x i => kI h 74 (4 * (x % 1024) + i)) := ⟨_, rfl⟩
      have b0 : CB h2 s0 := by
        rw [hs0]
        refine ⟨d14.2, fun t ht => ⟨(rs.t ht).1.2, fun y => ?_⟩, rs.h.1.2⟩
        rw [n42] at y
        exact rs.tz ht y
      have m0 : s0.2.2.1 = 0 := by rw [hs0]
      have I2 : ∀ l i, l = 0 ∨ l = 64 ∨ l = 65 ∨ l = 74 ∨ l = 207 ∨ l = 217 → kI h2 l i = kI h l i := fun l i y => F2.2.2.1 _ _ (by omega)
      have X0 : Xc h2 h2 c C0 K0 s0 := by
        rw [hs0]
        refine ⟨kfp.rf, ry2, rz2, (I2 _ _ (by omega)).trans d14.1, ?_, ?_, ?_, fun t ht => ⟨?_, u1 t ht⟩, u2, fun x _ _ i _ => I2 _ _ (by omega)⟩
        · rw [I2 _ _ (by omega), e64, hC0]
          rfl
        · rw [I2 _ _ (by omega)]
          exact rs.h.2.trans rs.h.1.1
        · rw [I2 _ _ (by omega), hK0]
          exact k64.1
        · rw [I2 _ _ (by omega), (rs.t ht).2]
          exact (rs.t ht).1.1
      obtain ⟨g, e3, xg⟩ := x_cases rc2 rr2 b0 m0 X0 (n := n) (by rw [hC0]; exact z) K9 n30
      obtain ⟨x1, x2, x3, x4, x5, x6, x7, x8, x9, x10⟩ := id xg
      have rcg := rc2.cx x1
      have rg := rcg.1
      have Fg : kfp (fun l i => Wscr l i ∨ (64 ≤ l ∧ l ≤ 67) ∨ l = 74 ∨ (l = 0 ∧ i = 14) ∨ (75 + 4 * p ≤ l ∧ l ≤ 78 + 4 * p) ∨ (l = 72 ∧ (i = 2 ∨ i = 3)) ∨ (l = 155 ∧ i = 3)) h g := (F2.wide fun l i y => by omega).tr (x1.wide fun l i y => by
        unfold Wcx at y
        rcases y with y | y
        · exact Or.inl y
        · exact Or.inr (by omega))
      have Ig : ∀ l i, 173 ≤ l → ¬ Wscr l i → kI g l i = kI h l i := fun l i y w => Fg.2.2.1 _ _ fun z => z.elim w fun z => by omega
      -- the model
      have o1 : kI g 173 61 = Int32.ofNat k := (Ig _ _ (by omega) (by unfold Wscr; omega)).trans q2
      have o2 : kI g 173 62 = Int32.ofNat p := (Ig _ _ (by omega) (by unfold Wscr; omega)).trans q4
      obtain ⟨h3, e4, f3, b1, b2, b3⟩ := m_keeps rg o1 k20 o2 p20
      have r3 := rg.fp f3
      obtain ⟨h4, e5, f4, w1, w2⟩ := m_begins r3
      have F34 : kfp (fun l i => (l = 217 ∧ 185 * ((p + 1) % 20) ≤ i ∧ i < 185 * ((p + 1) % 20) + 185) ∨ (l = 173 ∧ (i = 61 ∨ i = 62)) ∨ (l = 207 ∧ ((2 ≤ i ∧ i < 14 ∧ i % 2 = 1) ∨ (14 ≤ i ∧ i < 24)))) g h4 := (f3.wide fun l i y => by omega).tr (f4.wide fun l i y => by omega)
      have rc4 : RC h4 c := rcg.fp F34 fun l i y w => by unfold Wct at y; omega
      have rr4 : Rrule h4 c := (rr2.cx hc x1).fp F34 fun l i y w => by omega
      have ry4 : Ryt h4 c := x2.fp F34 fun l i y w => by unfold Wlw at y; omega
      have rz4 : Rzero h4 := x3.fp F34 fun l i y w => by omega
      have law4 : Law h2 h4 := (Law.cx x1).tr fun l i a b => F34.2.2.1 _ _ (by omega)
      have I4 : ∀ i, ¬ ((2 ≤ i ∧ i < 14 ∧ i % 2 = 1) ∨ (14 ≤ i ∧ i < 24)) → kI h4 207 i = kI h 207 i := fun i y => by
        rw [F34.2.2.1 _ _ (by omega)]
        exact Ig _ _ (by omega) (by unfold Wscr; omega)
      have M0 : Mc h4 h4 c C0 K0 s0 := by
        rw [hs0]
        refine ⟨kfp.rf, ry4, rz4, ?_, ?_, ?_, ?_, fun t ht => ⟨?_, w1 t ht⟩, w2, fun j hj i hi => ?_⟩
        · rw [F34.2.2.2 _ _ (by omega), Fg.2.2.2 _ _ (by unfold Wscr; omega), sd.2, d14.1]
          exact n32_toI64 d14.2
        · rw [I4 _ (by omega), cc.1, hC0]
          rfl
        · rw [I4 _ (by omega)]
          exact rs.h.1.1
        · rw [I4 _ (by omega), rk.m, hK0]
          rfl
        · rw [I4 _ (by omega)]
          exact (rs.t ht).1.1
        · have hj' : j < min (kN h 64 2) 40 := by rw [← hK0]; exact hj
          rw [I4 _ (by omega), ← rk.r hj' hi, hK0]
          rfl
      obtain ⟨h5', e6, mg⟩ := m_cases rc2 rc4 rr4 law4 b0 m0 M0 (n := n) (by rw [hC0]; exact z) K9 n30
      obtain ⟨m1, m2, m3, m4, m5, m6, m7, m8, m9, m10⟩ := id mg
      obtain ⟨bn, mn, Rn⟩ := cit_b rc2 (K0 := K0) b0 m0 n
      obtain ⟨s, hs⟩ : ∃ s, s = cit h2 K0 s0 n := ⟨_, rfl⟩
      rw [← hs] at x4 x5 x6 x7 x8 x10 m4 m5 m6 m7 m8 m10 bn mn Rn
      obtain ⟨sb1, sb2, sb3⟩ := bn
      -- what the class wrote stands
      have J : ∀ l i, l < 173 → ¬ Wscr l i → kI h5' l i = kI g l i := fun l i y w => by
        rw [m1.2.2.1 _ _ (fun z => by unfold Wmx at z; exact z.elim w fun z => by omega), F34.2.2.1 _ _ (by omega)]
      have law5 : Law h h5' := (law2.tr law4).tr (Law.mx m1)
      have FA : kfp (fun l i => Wscr l i ∨ Wact l i ∨ Wseed l i) h h5' := ((Fg.wide fun l i y => y.imp id fun y => by unfold Wact Wseed; omega).tr (F34.wide fun l i y => by unfold Wact; omega)).tr (m1.wide fun l i y => by unfold Wmx at y; exact y.imp id fun y => by unfold Wact Wseed; omega)
      have n45 : kN h5' 198 4 = kN h 198 4 := law5.n (by omega) (by omega)
      have n55 : kN h5' 198 5 = kN h 198 5 := law5.n (by omega) (by omega)
      have z0 : (0 : Int32) = Int32.ofNat 0 := rfl
      have j64 : ∀ i, kI h5' 64 i = kI g 64 i := fun i => J _ _ (by omega) (by unfold Wscr; omega)
      have RSn : RS h5' := by
        refine ⟨⟨cn_of m5 (by omega) (by omega), (j64 0).trans (x5.trans m5.symm)⟩, ⟨cn_of (l := 207) (i := 0 + 1) m6 sb3 (by omega), (j64 1).trans (x6.trans m6.symm)⟩, fun t ht => ?_, fun i hi => ?_⟩
        · rw [Nat.zero_add, Nat.zero_add]
          obtain ⟨v1, v2⟩ := m8 t ht
          obtain ⟨y1, y2⟩ := x8 t ht
          refine ⟨⟨cn_of v1 (sb2 t ht).1 (by omega), (J _ _ (by omega) (by unfold Wscr; omega)).trans (y1.trans v1.symm)⟩, ⟨cn_of (v2.trans z0) (by omega) (by omega), (J _ _ (by omega) (by unfold Wscr; omega)).trans (y2.trans v2.symm)⟩, fun y => ⟨?_, kN_of (v2.trans z0) (by omega)⟩⟩
          rw [n45] at y
          rw [(sb2 t ht).2 (by rw [n42]; exact y)] at v1
          exact kN_of v1 (by omega)
        · rw [Nat.zero_add]
          exact ⟨cn_of ((m9 i hi).trans z0) (by omega) (by omega), (J _ _ (by omega) (by unfold Wscr; omega)).trans ((x9 i hi).trans (m9 i hi).symm), fun _ => kN_of ((m9 i hi).trans z0) (by omega)⟩
      have x7' : kI h5' 64 2 = Int32.ofNat (K0 + s.2.2.1) := (j64 2).trans x7
      have kn2 : kN h5' 64 2 = K0 + s.2.2.1 := kN_of x7' (by omega)
      have kn0 : kN h5' 207 0 = C0 + s.2.2.1 := kN_of m5 (by omega)
      have RKn : RK h5' := by
        refine ⟨⟨cn_of x7' (by omega) (by omega), ?_⟩, ?_, fun j hj i hi => ?_⟩
        · rw [kn2, kn0]
          omega
        · rw [kn2]
          exact m7
        · rw [kn2] at hj ⊢
          rw [Nat.zero_add, m10 j hj i hi, J _ _ (by omega) (by unfold Wscr; omega)]
          exact x10 _ (by omega) (by omega) i hi
      have RPn : Rpast h5' := by
        have Jp : ∀ l i, 72 ≤ l → l < 155 → l ≠ 74 → kI h5' l i = kI h1 l i := fun l i y1 y2 y3 => by
          rw [J _ _ (by omega) (by unfold Wscr; omega), x1.2.2.1 _ _ (by unfold Wcx Wscr; omega), fz.2.2.1 _ _ (by omega)]
        have P173 : ∀ i, i = 61 ∨ i = 62 → kI h5' 173 i = kI h3 173 i := fun i y => by
          rw [m1.2.2.1 _ _ (by unfold Wmx Wscr; omega), f4.2.2.1 _ _ (by omega)]
        have P217 : ∀ i, kI h5' 217 i = kI h3 217 i := fun i => by
          rw [m1.2.2.1 _ _ (by unfold Wmx Wscr; omega), f4.2.2.1 _ _ (by omega)]
        have e20 : kI h 64 2 = Int32.ofNat (kN h 64 2) := k64.1
        refine past_push rs rk k20 p20 hp ((Jp _ _ (by omega) (by omega) (by omega)).trans a1) ((P173 _ (by omega)).trans b1) ((Jp _ _ (by omega) (by omega) (by omega)).trans a2) ((P173 _ (by omega)).trans b2)
          (fun i hi => (Jp _ _ (by omega) (by omega) (by omega)).trans (a4 i hi)) (fun t ht => ?_) (fun i hi => (Jp _ _ (by omega) (by omega) (by omega)).trans (a6 i hi)) (fun i hi => ?_) (fun l i y1 y2 y3 => ?_) (fun i y => ?_) ?_ (fun x y1 y2 i hi => ?_) (law5 _ _ (by omega) (by omega)) (law5 _ _ (by omega) (by omega))
        · rw [Jp _ _ (by omega) (by omega) (by omega), Jp _ _ (by omega) (by omega) (by omega)]
          exact a5 t ht
        · rw [P217, b3 i hi]
          exact Ig _ _ (by omega) (by unfold Wscr; omega)
        · rw [Jp _ _ (by omega) (by omega) (by omega)]
          exact f1.2.2.1 _ _ (by omega)
        · rw [P217, f3.2.2.1 _ _ (by omega)]
          exact Ig _ _ (by omega) (by unfold Wscr; omega)
        · rw [kn2, hK0]
          exact ⟨by omega, by omega⟩
        · rw [kn2] at y2
          rw [← hK0] at y1
          rw [J _ _ (by omega) (by unfold Wscr; omega), x10 x (by omega) y2 i hi, Rn x y1 i, hs0]
      have SDn : Rseed h5' := by
        have e : kI h5' 0 14 = Int32.ofNat s.1 := (J _ _ (by omega) (by unfold Wscr; omega)).trans x4
        refine ⟨?_, ?_⟩
        · rw [e, n32_toInt sb1]
          omega
        · rw [e, m4]
          exact (n32_toI64 sb1).symm
      have c0 : kI h5' 155 3 = 0 := by
        rw [J _ _ (by omega) (by unfold Wscr; omega), x1.2.2.1 _ _ (by unfold Wcx Wscr; omega), fz.2.2.1 _ _ (by omega)]
        exact a3
      refine ⟨Int32.ofNat (rgs h2 K0 s0 n), g, h5', ?_, ?_, m2, m3, SDn, Or.inr ⟨RSn, RKn, RPn, c0, FA⟩⟩
      · rw [xt, e1, kb_s, rf0_7 r1, if_pos (show 64 < 999999 by omega), if_pos kk64, x_forgetCase (St64 r1), kb_s, ← eh2, e3, kb_s]
      · unfold f_X12_chance
        rw [isIn_y _ z1 z30 (by rw [n32_toInt (by omega)]; omega), kb_s, if_neg (show ¬ ((1 : Int32) = 0) by decide), if_pos kk173, rf173_45 rg, if_pos (show 207 < 999999 by omega), if_pos kk207, kn207, if_neg (by omega), Ig _ _ (by omega) (by unfold Wscr; omega), cc.1, n32_add, if_pos (by have := n32_le (a := kN h 207 0 + n) (b := 9999) (by omega) (by omega); exact this.mpr z), e4, kb_s, e5, kb_s, e6, kb_s]
    · rw [if_neg z] at xt
      refine refused xt ?_
      unfold f_X12_chance
      rw [isIn_y _ z1 z30 (by rw [n32_toInt (by omega)]; omega), kb_s, if_neg (show ¬ ((1 : Int32) = 0) by decide), if_pos kk173, rf173_45 rG, if_pos (show 207 < 999999 by omega), if_pos kk207, kn207, if_neg (by omega), g207, n32_add, if_neg (by have := n32_le (a := kN h 207 0 + n) (b := 9999) (by have := cc.2; omega) (by omega); exact fun y => z (this.mp y))]
  · refine refused ?_ ?_
    · unfold f_X11_chance
      by_cases y : a < (1 : Int32)
      · rw [if_pos y]
      · rw [if_neg y, if_pos (by
          rw [Int32.lt_iff_toInt_lt] at y ⊢
          have e1 : (1 : Int32).toInt = 1 := rfl
          have e30 : (30 : Int32).toInt = 30 := rfl
          rw [e1] at y
          rw [e30]
          omega)]
    · unfold f_X12_chance
      rw [isIn_n _ z1 z30 (by omega), kb_s, if_pos rfl]
