/-! image -/
/-- byte i of AN IMAGE, ahead of the last -/
def ibN (h : KH) (i : Nat) : Nat := if i = 0 then kN h 207 0 / 256 else if i = 1 then kN h 207 0 % 256 else if i = 2 then kN h 207 1 / 256 else if i = 3 then kN h 207 1 % 256 else if i < 4 + 2 * kN h 198 4 then kN h 207 (2 + (i - 4)) else kN h 207 (14 + (i - 4 - 2 * kN h 198 4))
def ckN (f : Nat → Nat) : Nat → Nat
  | 0 => 61
  | n + 1 => (3 * ckN f n + f n) % 251
theorem ckN_lt (f : Nat → Nat) : ∀ n, ckN f n < 251
  | 0 => show 61 < 251 by omega
  | _ + 1 => Nat.mod_lt _ (by omega)
def Img (al sl si : Nat) (f : Nat → Nat) (h g : KH) (k : Nat) : Prop := kfp (fun l i => l = al ∨ (l = sl ∧ i = si)) h g ∧ kI g sl si = Int32.ofNat k ∧ ∀ i, i < k → kI g al i = Int32.ofNat (f i)
theorem Img.push {al sl si : Nat} {f : Nat → Nat} {h g : KH} {k : Nat} (x : Img al sl si f h g k) (hne : al ≠ sl) : Img al sl si f h (ksI (ksI g al k (Int32.ofNat (f k))) sl si (Int32.ofNat (k + 1))) (k + 1) := by
  refine ⟨(x.1.sI _ (Or.inl rfl)).sI _ (Or.inr ⟨rfl, rfl⟩), ?_, fun i hi => ?_⟩
  · rw [kI_sI, if_pos ⟨rfl, rfl⟩]
  · rw [kI_sI, if_neg (fun y => hne y.1), kI_sI]
    by_cases z : i = k
    · rw [if_pos ⟨rfl, z⟩, z]
    · rw [if_neg (fun y => z y.2)]
      exact x.2.2 i (by omega)
theorem x_addImg {h g : KH} {f : Nat → Nat} {k : Nat} (hr : kRefs h) (x : Img 171 0 16 f h g k) (hk : k < 27) : f_X11_addToImage g 0 (Int32.ofNat (f k)) = some (ksI (ksI g 171 k (Int32.ofNat (f k))) 0 16 (Int32.ofNat (k + 1))) := by
  have rg := hr.fp x.1
  have e : kI (ksI g 171 k (Int32.ofNat (f k))) 0 16 = Int32.ofNat k := by rw [kI_sI, if_neg (by omega), x.2.1]
  unfold f_X11_addToImage
  rw [if_pos kk0, rf0_15 rg, if_pos (show 171 < 999999 by omega), if_pos kk171, kn171, x.2.1, if_neg (by rw [n32_le (by omega) (by omega)]; omega), if_neg (by rw [n32_cl (by omega)]; exact fun z => z.elim (n32_nn (by omega)) (by omega)), n32_cl (by omega), kl_e, e, n32_addl, kl_e]
theorem m_writes {h g : KH} {f : Nat → Nat} {k : Nat} (hr : kRefs h) (x : Img 242 173 96 f h g k) (hk : k < 27) : f_X12_writes g 173 (Int32.ofNat (f k)) = some (ksI (ksI g 242 k (Int32.ofNat (f k))) 173 96 (Int32.ofNat (k + 1))) := by
  have rg := hr.fp x.1
  have e : kI (ksI g 242 k (Int32.ofNat (f k))) 173 96 = Int32.ofNat k := by rw [kI_sI, if_neg (by omega), x.2.1]
  unfold f_X12_writes
  rw [if_pos kk173, rf173_95 rg, if_pos (show 242 < 999999 by omega), if_pos kk242, kn242, x.2.1, if_neg (by rw [n32_cl (by omega)]; exact fun z => z.elim (n32_nn (by omega)) (by omega)), n32_cl (by omega), kl_e, e, n32_addl, kl_e]
theorem and255N (a : Nat) : a &&& 255 = a % 256 := Nat.and_two_pow_sub_one_eq_mod a 8
theorem x_checkBehind (h : KH) {a b : Nat} (ha : a < 251) (hb : b < 1000) : f_X11_checkBehind h (Int32.ofNat a) (Int32.ofNat b) = some (Int32.ofNat ((3 * a + b) % 251)) := by
  unfold f_X11_checkBehind
  rw [n32_mulr, n32_add, show (251 : Int32) = Int32.ofNat 251 from rfl, n32_rem (by omega) (by omega)]
theorem ibN_lt {h : KH} (ms : MS h) (n4 : kN h 198 4 ≤ 6) (n5 : kN h 198 5 ≤ 5) {i : Nat} (hi : i < 4 + 2 * kN h 198 4 + 2 * kN h 198 5) : ibN h i < 1000 := by
  have a0 := ms.1.2
  have a1 := ms.2.1.2
  unfold ibN
  by_cases i0 : i = 0
  · rw [if_pos i0]; omega
  · rw [if_neg i0]
    by_cases i1 : i = 1
    · rw [if_pos i1]; omega
    · rw [if_neg i1]
      by_cases i2 : i = 2
      · rw [if_pos i2]; omega
      · rw [if_neg i2]
        by_cases i3 : i = 3
        · rw [if_pos i3]; omega
        · rw [if_neg i3]
          by_cases i4 : i < 4 + 2 * kN h 198 4
          · rw [if_pos i4]
            by_cases p : (i - 4) % 2 = 0
            · have := (ms.2.2.1 ((i - 4) / 2) (by omega)).1.2
              rw [show 2 + 2 * ((i - 4) / 2) = 2 + (i - 4) by omega] at this
              omega
            · have := (ms.2.2.1 ((i - 4) / 2) (by omega)).2.1.2
              rw [show 2 + 2 * ((i - 4) / 2) + 1 = 2 + (i - 4) by omega] at this
              omega
          · rw [if_neg i4]
            have := (ms.2.2.2 (i - 4 - 2 * kN h 198 4) (by omega)).1.2
            omega
/-- all bytes of AN IMAGE, the last too -/
def imN (h : KH) (i : Nat) : Nat := if i < 4 + 2 * kN h 198 4 + 2 * kN h 198 5 then ibN h i else ckN (ibN h) (4 + 2 * kN h 198 4 + 2 * kN h 198 5)
theorem ckN_cg {f g : Nat → Nat} : ∀ n, (∀ i, i < n → f i = g i) → ckN f n = ckN g n
  | 0, _ => rfl
  | n + 1, h => by
    rw [ckN, ckN, ckN_cg n fun i hi => h i (by omega), h n (by omega)]
theorem x_image {h : KH} {c : Nat} (rc : RC h c) (rs : RS h) : ∃ h', f_X11_image h 0 = some (Int32.ofNat (5 + 2 * kN h 198 4 + 2 * kN h 198 5), h') ∧ Img 171 0 16 (imN h) h h' (5 + 2 * kN h 198 4 + 2 * kN h 198 5) := by
  obtain ⟨hr, hc, h5, hm, -⟩ := id rc
  have c39 := hc.lt
  have n4 := hm.2.1.1.2
  have n5 := hm.2.2.1.1.2
  obtain ⟨N, hN⟩ : ∃ N, 4 + 2 * kN h 198 4 + 2 * kN h 198 5 = N := ⟨_, rfl⟩
  have im : ∀ i, i < N → imN h i = ibN h i := fun i hi => by unfold imN; rw [hN, if_pos hi]
  have a0 := rs.c.1.2
  have a1 := rs.h.1.2
  obtain ⟨g0, eg0⟩ : ∃ g, g = ksI h 0 16 0 := ⟨_, rfl⟩
  have x0 : Img 171 0 16 (imN h) h g0 0 := ⟨by rw [eg0]; exact kfp.rf.sI _ (Or.inr ⟨rfl, rfl⟩), by rw [eg0, kI_sI, if_pos ⟨rfl, rfl⟩]; rfl, fun i hi => absurd hi (Nat.not_lt_zero _)⟩
  have v0 : Int32.ofNat (imN h 0) = Int32.ofNat (kN h 207 0) >>> ((8 : Int32) &&& 31) := by
    rw [show (8 : Int32) = Int32.ofNat 8 from rfl, n32_shr (by omega) (by omega), im 0 (by omega), Nat.shiftRight_eq_div_pow]; rfl
  have v1 : Int32.ofNat (imN h 1) = Int32.ofNat (kN h 207 0) &&& (255 : Int32) := by
    rw [n32_andl, and255N, im 1 (by omega)]; rfl
  have v2 : Int32.ofNat (imN h 2) = Int32.ofNat (kN h 207 1) >>> ((8 : Int32) &&& 31) := by
    rw [show (8 : Int32) = Int32.ofNat 8 from rfl, n32_shr (by omega) (by omega), im 2 (by omega), Nat.shiftRight_eq_div_pow]; rfl
  have v3 : Int32.ofNat (imN h 3) = Int32.ofNat (kN h 207 1) &&& (255 : Int32) := by
    rw [n32_andl, and255N, im 3 (by omega)]; rfl
  have J : ∀ {g : KH} {k : Nat}, Img 171 0 16 (imN h) h g k → ∀ l i, l ≠ 171 → l ≠ 0 → kI g l i = kI h l i := fun x l i y z => x.1.2.2.1 l i (by omega)
  have x1 := x0.push (by omega)
  have x2 := x1.push (by omega)
  have x3 := x2.push (by omega)
  have x4 := x3.push (by omega)
  have q0 := x_addImg hr x0 (by omega)
  have q1 := x_addImg hr x1 (by omega)
  have q2 := x_addImg hr x2 (by omega)
  have q3 := x_addImg hr x3 (by omega)
  have r0 := hr.fp x0.1
  have r1 := hr.fp x1.1
  have r2 := hr.fp x2.1
  have r3 := hr.fp x3.1
  have i0 := (J x0 64 0 (by omega) (by omega)).trans (rs.c.2.trans rs.c.1.1)
  have i1 := (J x1 64 0 (by omega) (by omega)).trans (rs.c.2.trans rs.c.1.1)
  have i2 := (J x2 64 1 (by omega) (by omega)).trans (rs.h.2.trans rs.h.1.1)
  have i3 := (J x3 64 1 (by omega) (by omega)).trans (rs.h.2.trans rs.h.1.1)
  generalize ksI (ksI g0 171 0 (Int32.ofNat (imN h 0))) 0 16 (Int32.ofNat (0 + 1)) = g1 at x1 x2 x3 x4 q0 q1 q2 q3 r1 r2 r3 i1 i2 i3
  generalize ksI (ksI g1 171 (0 + 1) (Int32.ofNat (imN h (0 + 1)))) 0 16 (Int32.ofNat (0 + 1 + 1)) = g2 at x2 x3 x4 q1 q2 q3 r2 r3 i2 i3
  generalize ksI (ksI g2 171 (0 + 1 + 1) (Int32.ofNat (imN h (0 + 1 + 1)))) 0 16 (Int32.ofNat (0 + 1 + 1 + 1)) = g3 at x3 x4 q2 q3 r3 i3
  generalize ksI (ksI g3 171 (0 + 1 + 1 + 1) (Int32.ofNat (imN h (0 + 1 + 1 + 1)))) 0 16 (Int32.ofNat (0 + 1 + 1 + 1 + 1)) = g4 at x4 q3
  rw [v0] at q0
  rw [show 0 + 1 = 1 from rfl, v1] at q1
  rw [show 0 + 1 + 1 = 2 from rfl, v2] at q2
  rw [show 0 + 1 + 1 + 1 = 3 from rfl, v3] at q3
  obtain ⟨g5, e5, x5⟩ := kloop_inv (body := f_X11_image_l65 0) (fun k s => s.1 = Int32.ofNat k ∧ Img 171 0 16 (imN h) h s.2 (4 + 2 * k)) (fun r => Img 171 0 16 (imN h) h r (4 + 2 * kN h 198 4)) (kN h 198 4) (s0 := ((0 : Int32), g4)) (by omega) ⟨rfl, x4⟩ (fun k s hk hP => by
      obtain ⟨s1, g⟩ := s
      obtain ⟨p1, p2⟩ := hP
      dsimp only at p1 p2
      subst p1
      have rg := hr.fp p2.1
      have y1 := p2.push (by omega)
      have y2 := y1.push (by omega)
      have w1 := x_addImg hr p2 (by omega)
      have w2 := x_addImg hr y1 (by omega)
      have rg1 := hr.fp y1.1
      have t1 := rs.t (t := k) (by omega)
      have t2 := rs.a (t := k) (by omega)
      have u1 : Int32.ofNat (imN h (4 + 2 * k)) = kI g 65 k := by
        rw [J p2 65 k (by omega) (by omega), t1.2, t1.1.1, im _ (by omega)]
        unfold ibN
        rw [if_neg (by omega), if_neg (by omega), if_neg (by omega), if_neg (by omega), if_pos (by omega), show 2 + (4 + 2 * k - 4) = 2 + 2 * k by omega]
      have u2 : Int32.ofNat (imN h (4 + 2 * k + 1)) = kI (ksI (ksI g 171 (4 + 2 * k) (Int32.ofNat (imN h (4 + 2 * k)))) 0 16 (Int32.ofNat (4 + 2 * k + 1))) 66 k := by
        rw [J y1 66 k (by omega) (by omega), t2.2, t2.1.1, im _ (by omega)]
        unfold ibN
        rw [if_neg (by omega), if_neg (by omega), if_neg (by omega), if_neg (by omega), if_pos (by omega), show 2 + (4 + 2 * k + 1 - 4) = 2 + 2 * k + 1 by omega]
      generalize ksI (ksI g 171 (4 + 2 * k) (Int32.ofNat (imN h (4 + 2 * k)))) 0 16 (Int32.ofNat (4 + 2 * k + 1)) = gg at y1 y2 w1 w2 u2 rg1
      rw [u1] at w1
      rw [u2] at w2 y2
      refine ⟨(Int32.ofNat (k + 1), _), ?_, rfl, y2⟩
      have e5 : kI g c 4 = Int32.ofNat (kN h 198 4) := (J p2 c 4 (by omega) (by rcases hc with rfl | rfl <;> omega)).trans (hm.2.1.2.trans hm.2.1.1.1)
      have r5 : kR g 0 5 = c := (p2.1.2.1 0 5).trans h5
      unfold f_X11_image_l65
      dsimp only
      rw [if_pos kk0, r5, if_pos (show c < 999999 by omega), if_pos (ct_kk hc), e5, if_neg (by rw [n32_le (by omega) (by omega)]; omega), rf0_7 rg, if_pos (show 64 < 999999 by omega), if_pos kk64, rf64_3 rg, if_pos (show 65 < 999999 by omega), if_pos kk65, kn65, if_neg (by rw [n32_cl (by omega)]; exact fun z => z.elim (n32_nn (by omega)) (by omega)), n32_cl (by omega), w1, kb_s]
      rw [rf0_7 rg1, if_pos (show 64 < 999999 by omega), if_pos kk64, rf64_4 rg1, if_pos (show 66 < 999999 by omega), if_pos kk66, kn66, if_neg (fun z => z.elim (n32_nn (by omega)) (by omega)), w2, kb_s, kl_e, n32_addl]
      rfl) (fun s hP => by
      obtain ⟨s1, g⟩ := s
      obtain ⟨p1, p2⟩ := hP
      dsimp only at p1 p2
      subst p1
      have e5 : kI g c 4 = Int32.ofNat (kN h 198 4) := (J p2 c 4 (by omega) (by rcases hc with rfl | rfl <;> omega)).trans (hm.2.1.2.trans hm.2.1.1.1)
      have r5 : kR g 0 5 = c := (p2.1.2.1 0 5).trans h5
      refine ⟨g, ?_, p2⟩
      unfold f_X11_image_l65
      dsimp only
      rw [if_pos kk0, r5, if_pos (show c < 999999 by omega), if_pos (ct_kk hc), e5, if_pos (by rw [n32_le (by omega) (by omega)]; omega)])
  obtain ⟨g6, e6, x6⟩ := kloop_inv (body := f_X11_image_l110 0) (fun k s => s.1 = Int32.ofNat k ∧ Img 171 0 16 (imN h) h s.2 (4 + 2 * kN h 198 4 + k)) (fun r => Img 171 0 16 (imN h) h r (4 + 2 * kN h 198 4 + 2 * kN h 198 5)) (2 * kN h 198 5) (s0 := ((0 : Int32), g5)) (by omega) ⟨rfl, x5⟩ (fun k s hk hP => by
      obtain ⟨s1, g⟩ := s
      obtain ⟨p1, p2⟩ := hP
      dsimp only at p1 p2
      subst p1
      have rg := hr.fp p2.1
      have y1 := p2.push (by omega)
      have w1 := x_addImg hr p2 (by omega)
      have t1 := rs.l (i := k) (by omega)
      have u1 : Int32.ofNat (imN h (4 + 2 * kN h 198 4 + k)) = kI g 67 k := by
        rw [J p2 67 k (by omega) (by omega), t1.2, t1.1.1, im _ (by omega)]
        unfold ibN
        rw [if_neg (by omega), if_neg (by omega), if_neg (by omega), if_neg (by omega), if_neg (by omega), show 4 + 2 * kN h 198 4 + k - 4 - 2 * kN h 198 4 = k by omega]
      rw [u1] at w1 y1
      refine ⟨(Int32.ofNat (k + 1), _), ?_, rfl, y1⟩
      have e5 : kI g c 5 = Int32.ofNat (kN h 198 5) := (J p2 c 5 (by omega) (by rcases hc with rfl | rfl <;> omega)).trans (hm.2.2.1.2.trans hm.2.2.1.1.1)
      have r5 : kR g 0 5 = c := (p2.1.2.1 0 5).trans h5
      unfold f_X11_image_l110
      dsimp only
      rw [if_pos kk0, r5, if_pos (show c < 999999 by omega), if_pos (ct_kk hc), e5, n32_mulr, if_neg (by rw [n32_le (by omega) (by omega)]; omega), rf0_7 rg, if_pos (show 64 < 999999 by omega), if_pos kk64, rf64_5 rg, if_pos (show 67 < 999999 by omega), if_pos kk67, kn67, if_neg (by rw [n32_cl (by omega)]; exact fun z => z.elim (n32_nn (by omega)) (by omega)), n32_cl (by omega), w1, kb_s, kl_e, n32_addl]
      rfl) (fun s hP => by
      obtain ⟨s1, g⟩ := s
      obtain ⟨p1, p2⟩ := hP
      dsimp only at p1 p2
      subst p1
      have e5 : kI g c 5 = Int32.ofNat (kN h 198 5) := (J p2 c 5 (by omega) (by rcases hc with rfl | rfl <;> omega)).trans (hm.2.2.1.2.trans hm.2.2.1.1.1)
      have r5 : kR g 0 5 = c := (p2.1.2.1 0 5).trans h5
      refine ⟨g, ?_, p2⟩
      unfold f_X11_image_l110
      dsimp only
      rw [if_pos kk0, r5, if_pos (show c < 999999 by omega), if_pos (ct_kk hc), e5, n32_mulr, if_pos (by rw [n32_le (by omega) (by omega)]; omega)])
  rw [hN] at x6
  have r6 := hr.fp x6.1
  have e7 := kloop_for (body := f_X11_image_l147 g6 0) (fun k => (Int32.ofNat (ckN (ibN h) k), Int32.ofNat k)) N (Int32.ofNat (ckN (ibN h) N)) (by omega) (fun k hk => by
    have cl := ckN_lt (ibN h) k
    have bl := ibN_lt rs.ms n4 n5 (i := k) (by omega)
    unfold f_X11_image_l147
    dsimp only
    rw [if_pos kk0, x6.2.1, if_neg (by rw [n32_le (by omega) (by omega)]; omega), rf0_15 r6, if_pos (show 171 < 999999 by omega), if_pos kk171, kn171, if_neg (by rw [n32_cl (by omega)]; exact fun z => z.elim (n32_nn (by omega)) (by omega)), n32_cl (by omega), x6.2.2 k hk, im k hk, x_checkBehind _ cl bl, kb_s, kl_e, n32_addl]
    rfl) (by
    unfold f_X11_image_l147
    dsimp only
    rw [if_pos kk0, x6.2.1, if_pos (by rw [n32_le (by omega) (by omega)]; omega)])
  have q6 := x_addImg hr x6 (by omega)
  have x7 := x6.push (by omega)
  have v6 : imN h N = ckN (ibN h) N := by
    unfold imN
    rw [hN, if_neg (by omega)]
  refine ⟨_, ?_, by rw [show 5 + 2 * kN h 198 4 + 2 * kN h 198 5 = N + 1 by omega]; exact x7⟩
  have e7' : kloop (f_X11_image_l147 g6 0) KF ((61 : Int32), (0 : Int32)) = some (Int32.ofNat (ckN (ibN h) N)) := e7
  unfold f_X11_image
  rw [if_pos kk0, ← eg0, kl_e, rf0_7 r0, if_pos (show 64 < 999999 by omega), if_pos kk64, i0, q0, kb_s, rf0_7 r1, if_pos (show 64 < 999999 by omega), if_pos kk64, i1, q1, kb_s, rf0_7 r2, if_pos (show 64 < 999999 by omega), if_pos kk64, i2, q2, kb_s, rf0_7 r3, if_pos (show 64 < 999999 by omega), if_pos kk64, i3, q3, kb_s, e5, kb_s, e6, kb_s, e7', kb_s, ← v6, q6, kb_s, x7.2.1, show 5 + 2 * kN h 198 4 + 2 * kN h 198 5 = N + 1 by omega]
theorem m_checked {h g : KH} {al n N : Nat} (hk : kkind al = 20) (hl : klen al = n) (hn : n < 9999) (hN : N ≤ n) (f : Nat → Nat) (hf : ∀ i, i < N → kI g al i = Int32.ofNat (f i) ∧ f i < 1000) : f_X12_checked g al (Int32.ofNat N) = some (Int32.ofNat (ckN f N)) := by
  unfold f_X12_checked
  have e := kloop_for (body := f_X12_checked_l5 g al (Int32.ofNat N)) (fun k => (Int32.ofNat (ckN f k), Int32.ofNat k)) N (Int32.ofNat (ckN f N)) (by omega) (fun k hk2 => by
    have cl := ckN_lt f k
    obtain ⟨f1, f2⟩ := hf k hk2
    unfold f_X12_checked_l5
    dsimp only
    rw [if_neg (by rw [n32_le (by omega) (by omega)]; omega), if_pos hk, hl, if_neg (by rw [n32_cl (by omega)]; exact fun z => z.elim (n32_nn (by omega)) (by omega)), n32_cl (by omega), f1, n32_mulr, n32_add, show (251 : Int32) = Int32.ofNat 251 from rfl, n32_rem (by omega) (by omega), kl_e, kl_e, n32_addl]
    rfl) (by
    unfold f_X12_checked_l5
    dsimp only
    rw [if_pos (by rw [n32_le (by omega) (by omega)]; omega)])
  rw [show ((61 : Int32), (0 : Int32)) = (Int32.ofNat (ckN f 0), Int32.ofNat 0) from rfl, e, kb_s]
theorem m_image {h : KH} {c : Nat} (rc : RC h c) (ms : MS h) : ∃ h', f_X12_image h 173 = some (Int32.ofNat (5 + 2 * kN h 198 4 + 2 * kN h 198 5), h') ∧ Img 242 173 96 (imN h) h h' (5 + 2 * kN h 198 4 + 2 * kN h 198 5) := by
  obtain ⟨hr, hc, h5, hm, -⟩ := id rc
  have n4 := hm.2.1.1.2
  have n5 := hm.2.2.1.1.2
  obtain ⟨N, hN⟩ : ∃ N, 4 + 2 * kN h 198 4 + 2 * kN h 198 5 = N := ⟨_, rfl⟩
  have im : ∀ i, i < N → imN h i = ibN h i := fun i hi => by unfold imN; rw [hN, if_pos hi]
  have a0 := ms.1.2
  have a1 := ms.2.1.2
  obtain ⟨g0, eg0⟩ : ∃ g, g = ksI h 173 96 0 := ⟨_, rfl⟩
  have x0 : Img 242 173 96 (imN h) h g0 0 := ⟨by rw [eg0]; exact kfp.rf.sI _ (Or.inr ⟨rfl, rfl⟩), by rw [eg0, kI_sI, if_pos ⟨rfl, rfl⟩]; rfl, fun i hi => absurd hi (Nat.not_lt_zero _)⟩
  have J : ∀ {g : KH} {k : Nat}, Img 242 173 96 (imN h) h g k → ∀ l i, l ≠ 242 → l ≠ 173 → kI g l i = kI h l i := fun x l i y z => x.1.2.2.1 l i (by omega)
  have x1 := x0.push (by omega)
  have x2 := x1.push (by omega)
  have x3 := x2.push (by omega)
  have x4 := x3.push (by omega)
  have q0 := m_writes hr x0 (by omega)
  have q1 := m_writes hr x1 (by omega)
  have q2 := m_writes hr x2 (by omega)
  have q3 := m_writes hr x3 (by omega)
  have r0 := hr.fp x0.1
  have r2 := hr.fp x2.1
  have i0 := (J x0 207 0 (by omega) (by omega)).trans ms.1.1
  have i2 := (J x2 207 1 (by omega) (by omega)).trans ms.2.1.1
  generalize ksI (ksI g0 242 0 (Int32.ofNat (imN h 0))) 173 96 (Int32.ofNat (0 + 1)) = g1 at x1 x2 x3 x4 q0 q1 q2 q3 r2 i2
  generalize ksI (ksI g1 242 (0 + 1) (Int32.ofNat (imN h (0 + 1)))) 173 96 (Int32.ofNat (0 + 1 + 1)) = g2 at x2 x3 x4 q1 q2 q3 r2 i2
  generalize ksI (ksI g2 242 (0 + 1 + 1) (Int32.ofNat (imN h (0 + 1 + 1)))) 173 96 (Int32.ofNat (0 + 1 + 1 + 1)) = g3 at x3 x4 q2 q3
  generalize ksI (ksI g3 242 (0 + 1 + 1 + 1) (Int32.ofNat (imN h (0 + 1 + 1 + 1)))) 173 96 (Int32.ofNat (0 + 1 + 1 + 1 + 1)) = g4 at x4 q3
  rw [show Int32.ofNat (imN h 0) = Int32.ofNat (kN h 207 0 / 256) by rw [im 0 (by omega)]; rfl] at q0
  rw [show 0 + 1 = 1 from rfl, show Int32.ofNat (imN h 1) = Int32.ofNat (kN h 207 0 % 256) by rw [im 1 (by omega)]; rfl] at q1
  rw [show 0 + 1 + 1 = 2 from rfl, show Int32.ofNat (imN h 2) = Int32.ofNat (kN h 207 1 / 256) by rw [im 2 (by omega)]; rfl] at q2
  rw [show 0 + 1 + 1 + 1 = 3 from rfl, show Int32.ofNat (imN h 3) = Int32.ofNat (kN h 207 1 % 256) by rw [im 3 (by omega)]; rfl] at q3
  have w0 : f_X12_writesTwo g0 173 (Int32.ofNat (kN h 207 0)) = some g2 := by
    unfold f_X12_writesTwo
    rw [if_pos kk173, show (256 : Int32) = Int32.ofNat 256 from rfl, n32_rem (by omega) (by omega), n32_div (by omega) (by omega), q0, kb_s, q1, kb_s]
  have w2 : f_X12_writesTwo g2 173 (Int32.ofNat (kN h 207 1)) = some g4 := by
    unfold f_X12_writesTwo
    rw [if_pos kk173, show (256 : Int32) = Int32.ofNat 256 from rfl, n32_rem (by omega) (by omega), n32_div (by omega) (by omega), q2, kb_s, q3, kb_s]
  obtain ⟨g5, e5, x5⟩ := kloop_inv (body := f_X12_image_l27 173) (fun k s => s.1 = Int32.ofNat k ∧ Img 242 173 96 (imN h) h s.2 (4 + k)) (fun r => Img 242 173 96 (imN h) h r (4 + 2 * kN h 198 4)) (2 * kN h 198 4) (s0 := ((0 : Int32), g4)) (by omega) ⟨rfl, x4⟩ (fun k s hk hP => by
      obtain ⟨s1, g⟩ := s
      obtain ⟨p1, p2⟩ := hP
      dsimp only at p1 p2
      subst p1
      have rg := hr.fp p2.1
      have y1 := p2.push (by omega)
      have w1 := m_writes hr p2 (by omega)
      have t1 : kI h 207 (2 + k) = Int32.ofNat (kN h 207 (2 + k)) := by
        by_cases z : k % 2 = 0
        · have := (ms.2.2.1 (k / 2) (by omega)).1.1
          rw [show 2 + 2 * (k / 2) = 2 + k by omega] at this
          exact this
        · have := (ms.2.2.1 (k / 2) (by omega)).2.1.1
          rw [show 2 + 2 * (k / 2) + 1 = 2 + k by omega] at this
          exact this
      have u1 : Int32.ofNat (imN h (4 + k)) = kI g 207 (2 + k) := by
        rw [J p2 207 _ (by omega) (by omega), t1, im _ (by omega)]
        unfold ibN
        rw [if_neg (by omega), if_neg (by omega), if_neg (by omega), if_neg (by omega), if_pos (by omega), show 2 + (4 + k - 4) = 2 + k by omega]
      rw [u1] at w1 y1
      refine ⟨(Int32.ofNat (k + 1), _), ?_, rfl, y1⟩
      have e4 : kI g 198 4 = Int32.ofNat (kN h 198 4) := (J p2 198 4 (by omega) (by omega)).trans hm.2.1.1.1
      unfold f_X12_image_l27
      dsimp only
      rw [if_pos kk173, m_testMany rg, kb_s, e4, n32_mulr, if_neg (by rw [n32_le (by omega) (by omega)]; omega), rf173_45 rg, if_pos (show 207 < 999999 by omega), if_pos kk207, kn207, n32_addr, if_neg (by rw [n32_cl (by omega)]; exact fun z => z.elim (n32_nn (by omega)) (by omega)), n32_cl (by omega), w1, kb_s, kl_e, n32_addl]
      rfl) (fun s hP => by
      obtain ⟨s1, g⟩ := s
      obtain ⟨p1, p2⟩ := hP
      dsimp only at p1 p2
      subst p1
      have rg := hr.fp p2.1
      have e4 : kI g 198 4 = Int32.ofNat (kN h 198 4) := (J p2 198 4 (by omega) (by omega)).trans hm.2.1.1.1
      refine ⟨g, ?_, p2⟩
      unfold f_X12_image_l27
      dsimp only
      rw [if_pos kk173, m_testMany rg, kb_s, e4, n32_mulr, if_pos (by rw [n32_le (by omega) (by omega)]; omega)])
  obtain ⟨g6, e6, x6⟩ := kloop_inv (body := f_X12_image_l57 173) (fun k s => s.1 = Int32.ofNat k ∧ Img 242 173 96 (imN h) h s.2 (4 + 2 * kN h 198 4 + k)) (fun r => Img 242 173 96 (imN h) h r (4 + 2 * kN h 198 4 + 2 * kN h 198 5)) (2 * kN h 198 5) (s0 := ((0 : Int32), g5)) (by omega) ⟨rfl, x5⟩ (fun k s hk hP => by
      obtain ⟨s1, g⟩ := s
      obtain ⟨p1, p2⟩ := hP
      dsimp only at p1 p2
      subst p1
      have rg := hr.fp p2.1
      have y1 := p2.push (by omega)
      have w1 := m_writes hr p2 (by omega)
      have u1 : Int32.ofNat (imN h (4 + 2 * kN h 198 4 + k)) = kI g 207 (14 + k) := by
        rw [J p2 207 _ (by omega) (by omega), (ms.2.2.2 k (by omega)).1.1, im _ (by omega)]
        unfold ibN
        rw [if_neg (by omega), if_neg (by omega), if_neg (by omega), if_neg (by omega), if_neg (by omega), show 4 + 2 * kN h 198 4 + k - 4 - 2 * kN h 198 4 = k by omega]
      rw [u1] at w1 y1
      refine ⟨(Int32.ofNat (k + 1), _), ?_, rfl, y1⟩
      have e4 : kI g 198 5 = Int32.ofNat (kN h 198 5) := (J p2 198 5 (by omega) (by omega)).trans hm.2.2.1.1.1
      unfold f_X12_image_l57
      dsimp only
      rw [if_pos kk173, m_markMany rg, kb_s, e4, n32_mulr, if_neg (by rw [n32_le (by omega) (by omega)]; omega), rf173_45 rg, if_pos (show 207 < 999999 by omega), if_pos kk207, kn207, n32_addr, if_neg (by rw [n32_cl (by omega)]; exact fun z => z.elim (n32_nn (by omega)) (by omega)), n32_cl (by omega), w1, kb_s, kl_e, n32_addl]
      rfl) (fun s hP => by
      obtain ⟨s1, g⟩ := s
      obtain ⟨p1, p2⟩ := hP
      dsimp only at p1 p2
      subst p1
      have rg := hr.fp p2.1
      have e4 : kI g 198 5 = Int32.ofNat (kN h 198 5) := (J p2 198 5 (by omega) (by omega)).trans hm.2.2.1.1.1
      refine ⟨g, ?_, p2⟩
      unfold f_X12_image_l57
      dsimp only
      rw [if_pos kk173, m_markMany rg, kb_s, e4, n32_mulr, if_pos (by rw [n32_le (by omega) (by omega)]; omega)])
  rw [hN] at x6
  have r6 := hr.fp x6.1
  have e7 := m_checked (h := h) (g := g6) kk242 kn242 (by omega) (N := N) (by omega) (ibN h) (fun i hi => ⟨by rw [x6.2.2 i hi, im i hi], ibN_lt ms n4 n5 (by omega)⟩)
  have q6 := m_writes hr x6 (by omega)
  have x7 := x6.push (by omega)
  have v6 : imN h N = ckN (ibN h) N := by
    unfold imN
    rw [hN, if_neg (by omega)]
  refine ⟨_, ?_, by rw [show 5 + 2 * kN h 198 4 + 2 * kN h 198 5 = N + 1 by omega]; exact x7⟩
  unfold f_X12_image
  rw [if_pos kk173, ← eg0, kl_e, rf173_45 r0, if_pos (show 207 < 999999 by omega), if_pos kk207, kn207, if_neg (show ¬ 185 ≤ 0 by omega), i0, w0, kb_s, rf173_45 r2, if_pos (show 207 < 999999 by omega), if_pos kk207, kn207, if_neg (show ¬ 185 ≤ 1 by omega), i2, w2, kb_s, e5, kb_s, e6, kb_s, rf173_95 r6, if_pos (show 242 < 999999 by omega), x6.2.1, e7, kb_s, ← v6, q6, kb_s, x7.2.1, show 5 + 2 * kN h 198 4 + 2 * kN h 198 5 = N + 1 by omega]
theorem c_image {h : KH} {c : Nat} (rc : RC h c) (rs : RS h) : ∃ r h1 h2, f_X11_image h 0 = some (r, h1) ∧ f_X12_image h1 173 = some (r, h2) ∧ Rimg h2 ∧ kfp (fun l i => l = 171 ∨ (l = 0 ∧ i = 16) ∨ l = 242 ∨ (l = 173 ∧ i = 96)) h h2 := by
  have n4 := rc.2.2.2.1.2.1.1.2
  have n5 := rc.2.2.2.1.2.2.1.1.2
  obtain ⟨h1, e1, i1⟩ := x_image rc rs
  have rc1 : RC h1 c := rc.fp i1.1 fun l i y w => by
    have c39 := rc.2.1
    unfold Wct at y
    rcases c39 with rfl | rfl <;> omega
  have ms1 : MS h1 := rs.ms.fp i1.1 fun l i y w => by omega
  obtain ⟨h2, e2, i2⟩ := m_image rc1 ms1
  have m4 : kN h1 198 4 = kN h 198 4 := kN_same (i1.1.2.2.1 _ _ (by omega))
  have m5 : kN h1 198 5 = kN h 198 5 := kN_same (i1.1.2.2.1 _ _ (by omega))
  have m207 : ∀ i, kN h1 207 i = kN h 207 i := fun i => kN_same (i1.1.2.2.1 _ _ (by omega))
  have ei : imN h1 = imN h := by
    funext i
    have e0 : ibN h1 = ibN h := by
      funext i
      unfold ibN
      rw [m4, m207, m207, m207, m207]
    unfold imN
    rw [m4, m5, e0]
  rw [m4, m5] at e2 i2
  rw [ei] at i2
  refine ⟨_, h1, h2, e1, e2, ⟨5 + 2 * kN h 198 4 + 2 * kN h 198 5, by omega, ?_, i2.2.1, fun j hj => ?_⟩, (i1.1.wide fun l i y => by omega).tr (i2.1.wide fun l i y => by omega)⟩
  · rw [i2.1.2.2.1 _ _ (by omega), i1.2.1]
  · rw [i2.1.2.2.1 _ _ (by omega), i1.2.2 j hj, i2.2.2 j hj]
