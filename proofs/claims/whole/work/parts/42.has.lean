/-! sets of tests as bits; has -/
def hbN (f : Nat → Nat) : Nat → Nat
  | 0 => 0
  | n + 1 => if f n = 0 then hbN f n else hbN f n + 2 ^ n
def fbN (f : Nat → Nat) : Nat → Nat
  | 0 => 0
  | n + 1 => if f n = 0 then fbN f n + 2 ^ n else fbN f n
theorem ifP {α : Type} {p q : Prop} [Decidable p] [Decidable q] {x y : α} (h : p ↔ q) : (if p then x else y) = if q then x else y := by
  by_cases z : q
  · rw [if_pos z, if_pos (h.mpr z)]
  · rw [if_neg z, if_neg fun w => z (h.mp w)]
theorem hbN_lt (f : Nat → Nat) : ∀ n, hbN f n < 2 ^ n
  | 0 => Nat.one_pos
  | n + 1 => by
    have h := hbN_lt f n
    have p : 2 ^ (n + 1) = 2 ^ n * 2 := Nat.pow_succ ..
    unfold hbN
    by_cases z : f n = 0
    · rw [if_pos z]; omega
    · rw [if_neg z]; omega
theorem fbN_lt (f : Nat → Nat) : ∀ n, fbN f n < 2 ^ n
  | 0 => Nat.one_pos
  | n + 1 => by
    have h := fbN_lt f n
    have p : 2 ^ (n + 1) = 2 ^ n * 2 := Nat.pow_succ ..
    unfold fbN
    by_cases z : f n = 0
    · rw [if_pos z]; omega
    · rw [if_neg z]; omega
theorem fb_hb (f : Nat → Nat) : ∀ n, fbN f n + hbN f n + 1 = 2 ^ n
  | 0 => rfl
  | n + 1 => by
    have h := fb_hb f n
    have p : 2 ^ (n + 1) = 2 ^ n * 2 := Nat.pow_succ ..
    unfold fbN hbN
    by_cases z : f n = 0
    · rw [if_pos z, if_pos z]; omega
    · rw [if_neg z, if_neg z]; omega
theorem or_pow {a n : Nat} (h : a < 2 ^ n) : a ||| 2 ^ n = a + 2 ^ n := by
  have := Nat.two_pow_add_eq_or_of_lt h 1
  rw [Nat.mul_one] at this
  rw [Nat.or_comm, ← this, Nat.add_comm]
theorem pow6 : ∀ n, n ≤ 6 → 2 ^ n ≤ 64 := by decide
theorem heardB_N {g : Nat → Int32} {f : Nat → Nat} : ∀ n, n ≤ 6 → (∀ t, t < n → g t = Int32.ofNat (f t) ∧ f t < 2147483648) → heardB g n = Int32.ofNat (hbN f n)
  | 0, _, _ => rfl
  | n + 1, hn, hg => by
    have ih := heardB_N n (by omega) fun t ht => hg t (by omega)
    have h := hbN_lt f n
    obtain ⟨e, l⟩ := hg n (by omega)
    unfold heardB hbN
    by_cases z : f n = 0
    · rw [if_pos z, if_pos (by rw [e, z]; rfl), ih]
    · rw [if_neg z, if_neg (by rw [e, n32_ne0 l]; exact z), ih, n32_shl n (by omega), n32_or, or_pow h]
theorem hbN_ext (f : Nat → Nat) {m : Nat} : ∀ n, m ≤ n → (∀ t, m ≤ t → t < n → f t = 0) → hbN f n = hbN f m
  | 0, h, _ => by rw [show m = 0 by omega]
  | n + 1, h, z => by
    by_cases e : m = n + 1
    · rw [e]
    · rw [hbN, if_pos (z n (by omega) (by omega))]
      exact hbN_ext f n (by omega) fun t h1 h2 => z t h1 (by omega)
theorem hbN_cg {f g : Nat → Nat} : ∀ n, (∀ t, t < n → f t = g t) → hbN f n = hbN g n
  | 0, _ => rfl
  | n + 1, h => by
    unfold hbN
    rw [h n (by omega), hbN_cg n fun t ht => h t (by omega)]
/-- how many bits of six -/
def pcN (s : Nat) : Nat := s % 2 + s / 2 % 2 + s / 4 % 2 + s / 8 % 2 + s / 16 % 2 + s / 32 % 2
def bcI (v0 : Int32) : Int32 :=
  let x1 := v0 - (((v0.toUInt32 >>> ((1 : Int32).toUInt32 &&& Int32.toUInt32 31)).toInt32) &&& (1431655765 : Int32))
  let x3 := (x1 &&& (858993459 : Int32)) + (((x1.toUInt32 >>> ((2 : Int32).toUInt32 &&& Int32.toUInt32 31)).toInt32) &&& (858993459 : Int32))
  let x5 := (x3 + ((x3.toUInt32 >>> ((4 : Int32).toUInt32 &&& Int32.toUInt32 31)).toInt32)) &&& (252645135 : Int32)
  let x7 := x5 + ((x5.toUInt32 >>> ((8 : Int32).toUInt32 &&& Int32.toUInt32 31)).toInt32)
  let x9 := x7 + ((x7.toUInt32 >>> ((16 : Int32).toUInt32 &&& Int32.toUInt32 31)).toInt32)
  x9 &&& (63 : Int32)
theorem bcI_N : ∀ k, k < 64 → bcI (Int32.ofNat k) = Int32.ofNat (pcN k) := by decide +kernel
theorem x_bitCount (h : KH) {k : Nat} (hk : k < 64) : f_J6_bitCount_0f7a4 h (Int32.ofNat k) = some (Int32.ofNat (pcN k)) := by
  rw [← bcI_N k hk]
  rfl
theorem bcI_m : bcI (-1) = Int32.ofNat 32 := by decide +kernel
theorem x_bitCount_m (h : KH) : f_J6_bitCount_0f7a4 h (-1) = some (Int32.ofNat 32) := by
  rw [← bcI_m]
  rfl
theorem pc_step : ∀ s, s < 64 → s ≠ 0 → pcN (s &&& (s - 1)) + 1 = pcN s ∧ s &&& (s - 1) < 64 := by decide +kernel
theorem pc_le : ∀ s, s < 64 → pcN s ≤ 6 := by decide +kernel
theorem pc_0 : ∀ s, s < 64 → pcN s = 0 → s = 0 := by decide +kernel
theorem pc_free : ∀ n, n < 7 → ∀ s, s < 2 ^ n → pcN (2 ^ n - 1 - s) + pcN s = n := by decide +kernel
theorem m_bits (h : KH) {s : Nat} (hs : s < 64) : f_X12_bits h (Int32.ofNat s) = some (Int32.ofNat (pcN s)) := by
  unfold f_X12_bits
  obtain ⟨r, e, hq⟩ := kloop_KF (body := f_X12_bits_l4 h) (fun n st => ∃ a, a < 64 ∧ n = pcN a ∧ pcN a ≤ pcN s ∧ st = (Int32.ofNat (pcN s - pcN a), Int32.ofNat a)) (fun r => r = Int32.ofNat (pcN s)) (fun n st hP => by
    obtain ⟨a, ha, rfl, hle, rfl⟩ := hP
    unfold f_X12_bits_l4
    dsimp only
    by_cases z : a = 0
    · left
      subst z
      exact ⟨_, if_pos rfl, rfl⟩
    · right
      obtain ⟨p1, p2⟩ := pc_step a ha z
      refine ⟨pcN (a &&& (a - 1)), _, by omega, ?_, a &&& (a - 1), p2, rfl, by omega, rfl⟩
      rw [if_neg (by rw [n32_ne0 (by omega)]; exact z), kl_e, kl_e, n32_subl (by omega), n32_and, n32_addl, show pcN s - pcN a + 1 = pcN s - pcN (a &&& (a - 1)) by omega]) (n := pcN s) (s := ((0 : Int32), Int32.ofNat s)) (by have := pc_le s hs; omega) ⟨s, hs, rfl, Nat.le_refl _, by rw [Nat.sub_self]; rfl⟩
  rw [e, kb_s, hq]
/-- how a test was heard in this case, as the model holds it -/
def anN (h : KH) (t : Nat) : Nat := kN h 207 (2 + 2 * t + 1)
theorem m_freeTests {h : KH} {c : Nat} (rc : RC h c) (s : MS h) : f_X12_freeTests h 173 = some (Int32.ofNat (fbN (anN h) (kN h 198 4))) := by
  obtain ⟨hr, hc, h5, hm, -⟩ := id rc
  have h6 := hm.2.1.1.2
  unfold f_X12_freeTests
  have e := kloop_for (body := f_X12_freeTests_l4 h 173) (fun k => (Int32.ofNat (fbN (anN h) k), Int32.ofNat k)) (kN h 198 4) (Int32.ofNat (fbN (anN h) (kN h 198 4))) (by omega) (fun k hk => by
    have l := fbN_lt (anN h) k
    have ha := (s.2.2.1 k (by omega)).2.1
    unfold f_X12_freeTests_l4 f_X12_freeTests_b26
    dsimp only
    rw [if_pos kk173, m_testMany hr, kb_s, hm.2.1.1.1, if_neg (by rw [n32_le (by omega) (by omega)]; omega), m_stateOf hr (by omega), kb_s, ha.1]
    by_cases z : anN h k = 0
    · rw [if_pos (by rw [n32_ne0 (by have := ha.2; omega)]; exact z), kl_e, kl_e, n32_shl k (by omega), n32_or, or_pow l, n32_addl]
      show _ = some (Sum.inl (Int32.ofNat (fbN (anN h) (k + 1)), _))
      rw [fbN, if_pos z]
    · rw [if_neg (by rw [n32_ne0 (by have := ha.2; omega)]; exact z), kl_e, n32_addl]
      show _ = some (Sum.inl (Int32.ofNat (fbN (anN h) (k + 1)), _))
      rw [fbN, if_neg z]) (by
    unfold f_X12_freeTests_l4
    dsimp only
    rw [if_pos kk173, m_testMany hr, kb_s, hm.2.1.1.1, if_pos (by rw [n32_le (by omega) (by omega)]; omega)])
  rw [show ((0 : Int32), (0 : Int32)) = (Int32.ofNat (fbN (anN h) 0), Int32.ofNat 0) from rfl, e, kb_s]
/-- which tests are heard -/
def hdN (h : KH) : Nat := hbN (anN h) (kN h 198 4)
theorem hdN_lt {h : KH} {c : Nat} (rc : RC h c) : hdN h < 2 ^ kN h 198 4 ∧ hdN h < 64 := by
  have h1 := hbN_lt (anN h) (kN h 198 4)
  have h2 := pow6 _ rc.2.2.2.1.2.1.1.2
  exact ⟨h1, Nat.lt_of_lt_of_le h1 h2⟩
/-- how a test was heard, as a State at v holds it -/
def anX (h : KH) (v t : Nat) : Nat := kN h (v + 2) t
theorem x_heard {h : KH} {c : Nat} (rc : RC h c) {v : Nat} (st : St h v) (s : XS h v) : f_X8_heardBits h v = some (Int32.ofNat (hbN (anX h v) (kN h 198 4))) := by
  obtain ⟨hr, hc, h5, hm, -⟩ := id rc
  rw [x_heardBits st, heardB_N (f := anX h v) 6 (by omega) (fun t ht => ⟨(s.2.2.1 t ht).2.1.1, by have := (s.2.2.1 t ht).2.1.2; unfold anX; omega⟩), hbN_ext (anX h v) (m := kN h 198 4) _ hm.2.1.1.2 (fun t h1 h2 => (s.2.2.1 t h2).2.2 h1)]
theorem RS.hd {h : KH} {c : Nat} (rc : RC h c) (s : RS h) : hbN (anX h 64) (kN h 198 4) = hdN h :=
  hbN_cg _ fun t ht => kN_same (s.a (by have := rc.2.2.2.1.2.1.1.2; omega)).2
theorem m_allTests {h : KH} {c : Nat} (rc : RC h c) : f_X12_allTests h 173 = some (Int32.ofNat (2 ^ kN h 198 4 - 1)) := by
  obtain ⟨hr, hc, h5, hm, -⟩ := id rc
  have h6 := hm.2.1.1.2
  have p : 0 < 2 ^ kN h 198 4 := Nat.pow_pos (by omega)
  unfold f_X12_allTests
  rw [if_pos kk173, m_testMany hr, kb_s, hm.2.1.1.1, n32_shl _ (by omega), n32_subl (by omega)]
theorem m_heardNow {h : KH} {c : Nat} (rc : RC h c) (s : MS h) : f_X12_heardNow h 173 = some (Int32.ofNat (pcN (hdN h))) := by
  obtain ⟨hr, hc, h5, hm, -⟩ := id rc
  have h6 := hm.2.1.1.2
  have p := pow6 _ h6
  have l := fbN_lt (anN h) (kN h 198 4)
  have q := fb_hb (anN h) (kN h 198 4)
  have f := pc_free (kN h 198 4) (by omega) (hdN h) (hdN_lt rc).1
  rw [show 2 ^ kN h 198 4 - 1 - hdN h = fbN (anN h) (kN h 198 4) by unfold hdN; omega] at f
  unfold f_X12_heardNow
  rw [if_pos kk173, m_testMany hr, kb_s, hm.2.1.1.1, m_freeTests rc s, kb_s, m_bits h (by omega), kb_s, n32_sub (by omega), show kN h 198 4 - pcN (fbN (anN h) (kN h 198 4)) = pcN (hdN h) by omega]
theorem lookedN_ext (f : Nat → Int32) {m : Nat} : ∀ n, m ≤ n → (∀ t, m ≤ t → t < n → f t = 0) → lookedN f n = lookedN f m
  | 0, h, _ => by rw [show m = 0 by omega]
  | n + 1, h, z => by
    by_cases e : m = n + 1
    · rw [e]
    · rw [lookedN, if_pos (z n (by omega) (by omega))]
      exact lookedN_ext f n (by omega) fun t h1 h2 => z t h1 (by omega)
theorem lookedN_cg {f g : Nat → Int32} : ∀ n, (∀ t, t < n → f t = g t) → lookedN f n = lookedN g n
  | 0, _ => rfl
  | n + 1, h => by
    unfold lookedN
    rw [h n (by omega), lookedN_cg n fun t ht => h t (by omega)]
theorem lookedN_le (f : Nat → Int32) : ∀ n, lookedN f n ≤ n
  | 0 => Nat.le_refl _
  | n + 1 => by
    have := lookedN_le f n
    unfold lookedN
    by_cases z : f n = 0
    · rw [if_pos z]; omega
    · rw [if_neg z]; omega
theorem m_lookedNow {h : KH} {c : Nat} (rc : RC h c) : f_X12_lookedNow h 173 = some (Int32.ofNat (lookedN (fun i => kI h 207 (14 + i)) (2 * kN h 198 5))) := by
  obtain ⟨hr, hc, h5, hm, -⟩ := id rc
  have h6 := hm.2.2.1.1.2
  unfold f_X12_lookedNow
  have e := kloop_for (body := f_X12_lookedNow_l4 h 173) (fun k => (Int32.ofNat (lookedN (fun i => kI h 207 (14 + i)) k), Int32.ofNat k)) (2 * kN h 198 5) (Int32.ofNat (lookedN (fun i => kI h 207 (14 + i)) (2 * kN h 198 5))) (by omega) (fun k hk => by
    unfold f_X12_lookedNow_l4 f_X12_lookedNow_b29
    dsimp only
    rw [if_pos kk173, m_markMany hr, kb_s, hm.2.2.1.1.1, n32_mulr, if_neg (by rw [n32_le (by omega) (by omega)]; omega)]
    simp only [rf173_45 hr, kk207, kn207, if_true, Nat.reduceLT, n32_addr]
    rw [if_neg (by rw [n32_cl (by omega)]; exact fun z => z.elim (n32_nn (by omega)) (by omega)), n32_cl (by omega), kl_e, kl_e, kl_e, n32_addl, n32_addl]
    by_cases z : kI h 207 (14 + k) = 0
    · rw [if_pos z, lookedN, if_pos z]
    · rw [if_neg z, lookedN, if_neg z]) (by
    unfold f_X12_lookedNow_l4
    dsimp only
    rw [if_pos kk173, m_markMany hr, kb_s, hm.2.2.1.1.1, n32_mulr, if_pos (by rw [n32_le (by omega) (by omega)]; omega)])
  rw [show ((0 : Int32), (0 : Int32)) = (Int32.ofNat (lookedN (fun i => kI h 207 (14 + i)) 0), Int32.ofNat 0) from rfl, e, kb_s]
/-- what is told as KEPT -/
def RK (h : KH) : Prop := Kst h 64 207 0
theorem RK.k {h : KH} (k : RK h) : cn h 64 2 9999 ∧ kN h 64 2 ≤ kN h 207 0 := k.1
theorem RK.m {h : KH} (k : RK h) : kI h 207 24 = Int32.ofNat (min (kN h 64 2) 40) := by simpa using k.2.1
theorem RK.r {h : KH} (k : RK h) {j i : Nat} (hj : j < min (kN h 64 2) 40) (hi : i < 4) : kI h 74 (4 * ((kN h 64 2 - min (kN h 64 2) 40 + j) % 1024) + i) = kI h 207 (25 + 4 * j + i) := by simpa using k.2.2 j hj i hi
theorem x_keptCount {h : KH} (hr : kRefs h) (k : RK h) : f_X11_keptCount h 0 = some (Int32.ofNat (min (kN h 64 2) 40)) := by
  have e := k.k.1.1
  have b := k.k.1.2
  unfold f_X11_keptCount f_J9_min_7cf53
  simp (disch := first | assumption | omega) only [if_true, if_false, kl_e, kb_s, false_or, or_false, n32_add, n32_mul, n32_sub, n32_div, n32_addl, n32_addr, n32_mull, n32_mulr, n32_subl, n32_subr, n32_divl, n32_lt, n32_le, n32_eq, n32_ltl, n32_ltr, n32_lel, n32_ler, n32_eql, n32_eqm, n32_cl, n32_nlt0, gor, gor1, gle, glt, gnlt, gne, Nat.reduceLT, Nat.reduceAdd, Nat.reduceMul, Nat.reduceSub, kk0, kk1, kk2, kk3, kk4, kk5, kk6, kk7, kk8, kk9, kk10, kk11, kk12, kk64, kk65, kk66, kk67, kk68, kk69, kk70, kk71, kk72, kk73, kk74, kk155, kk156, kk157, kk158, kk159, kk160, kk161, kk162, kk163, kk164, kk165, kk166, kk167, kk168, kk169, kk170, kk171, kk172, kn2, kn5, kn6, kn7, kn9, kn65, kn66, kn67, kn69, kn70, kn71, kn73, kn74, kn156, kn157, kn159, kn160, kn161, kn163, kn164, kn165, kn166, kn167, kn168, kn169, kn170, kn171, kn172, rf0_0, rf0_1, rf0_2, rf0_3, rf0_4, rf0_7, rf0_8, rf0_9, rf0_10, rf0_11, rf0_12, rf0_15, rf0_17, rf1_0, rf3_0, rf3_1, rf4_0, rf4_1, rf8_0, rf8_1, rf10_0, rf11_0, rf11_1, rf64_3, rf64_4, rf64_5, rf68_3, rf68_4, rf68_5, rf72_0, rf72_1, rf155_0, rf155_1, rf155_2, rf158_3, rf158_4, rf158_5, rf162_0, rf162_1, rf162_2, rf162_4, rf162_5, rf162_6, rf162_7]
  rw [e, ifP (n32_ltr (by omega) (by omega))]
  by_cases z : 40 < kN h 64 2
  · rw [if_pos z, kb_s, Nat.min_eq_right (by omega)]
    rfl
  · rw [if_neg z, kb_s, Nat.min_eq_left (by omega)]
theorem c_has {h : KH} {c : Nat} (rc : RC h c) (s : RS h) (k : RK h) (ha : kI h 0 13 = kI h 173 58) (hp : kI h 72 3 = kI h 173 61) (a : Int32) : ∃ r, f_X11_has h 0 a = some r ∧ f_X12_has h 173 a = some r := by
  obtain ⟨hr, hc, h5, hm, -⟩ := id rc
  have c39 := hc.lt
  have c9 : c < 999999 := Nat.lt_trans hc.lt (by omega)
  unfold f_X11_has f_X12_has
  by_cases a0 : a = 0
  · subst a0
    rw [if_pos (rfl : (0 : Int32) = 0), if_pos rfl]
    refine ⟨kI h 198 3, ?_, ?_⟩
    · simp (disch := first | assumption | omega) only [if_true, if_false, kl_e, kb_s, false_or, or_false, n32_add, n32_mul, n32_sub, n32_div, n32_addl, n32_addr, n32_mull, n32_mulr, n32_subl, n32_subr, n32_divl, n32_lt, n32_le, n32_eq, n32_ltl, n32_ltr, n32_lel, n32_ler, n32_eql, n32_eqm, n32_cl, n32_nlt0, gor, gor1, gle, glt, gnlt, gne, Nat.reduceLT, Nat.reduceAdd, Nat.reduceMul, Nat.reduceSub, kk0, kk1, kk2, kk3, kk4, kk5, kk6, kk7, kk8, kk9, kk10, kk11, kk12, kk64, kk65, kk66, kk67, kk68, kk69, kk70, kk71, kk72, kk73, kk74, kk155, kk156, kk157, kk158, kk159, kk160, kk161, kk162, kk163, kk164, kk165, kk166, kk167, kk168, kk169, kk170, kk171, kk172, kn2, kn5, kn6, kn7, kn9, kn65, kn66, kn67, kn69, kn70, kn71, kn73, kn74, kn156, kn157, kn159, kn160, kn161, kn163, kn164, kn165, kn166, kn167, kn168, kn169, kn170, kn171, kn172, rf0_0, rf0_1, rf0_2, rf0_3, rf0_4, rf0_7, rf0_8, rf0_9, rf0_10, rf0_11, rf0_12, rf0_15, rf0_17, rf1_0, rf3_0, rf3_1, rf4_0, rf4_1, rf8_0, rf8_1, rf10_0, rf11_0, rf11_1, rf64_3, rf64_4, rf64_5, rf68_3, rf68_4, rf68_5, rf72_0, rf72_1, rf155_0, rf155_1, rf155_2, rf158_3, rf158_4, rf158_5, rf162_0, rf162_1, rf162_2, rf162_4, rf162_5, rf162_6, rf162_7, h5, ct_kk hc, hm.1.2]
    · simp only [kk173, rf173_33 hr, kk198, kn198, if_true, Nat.reduceLT]
      rw [if_neg (by decide)]
      rfl
  by_cases a1 : a = 1
  · subst a1
    rw [if_neg (show ¬ ((1 : Int32) = 0) by decide), if_pos (rfl : (1 : Int32) = 1), if_neg (show ¬ ((1 : Int32) = 0) by decide), if_pos rfl]
    refine ⟨kI h 198 4, ?_, ?_⟩
    · simp (disch := first | assumption | omega) only [if_true, if_false, kl_e, kb_s, false_or, or_false, n32_add, n32_mul, n32_sub, n32_div, n32_addl, n32_addr, n32_mull, n32_mulr, n32_subl, n32_subr, n32_divl, n32_lt, n32_le, n32_eq, n32_ltl, n32_ltr, n32_lel, n32_ler, n32_eql, n32_eqm, n32_cl, n32_nlt0, gor, gor1, gle, glt, gnlt, gne, Nat.reduceLT, Nat.reduceAdd, Nat.reduceMul, Nat.reduceSub, kk0, kk1, kk2, kk3, kk4, kk5, kk6, kk7, kk8, kk9, kk10, kk11, kk12, kk64, kk65, kk66, kk67, kk68, kk69, kk70, kk71, kk72, kk73, kk74, kk155, kk156, kk157, kk158, kk159, kk160, kk161, kk162, kk163, kk164, kk165, kk166, kk167, kk168, kk169, kk170, kk171, kk172, kn2, kn5, kn6, kn7, kn9, kn65, kn66, kn67, kn69, kn70, kn71, kn73, kn74, kn156, kn157, kn159, kn160, kn161, kn163, kn164, kn165, kn166, kn167, kn168, kn169, kn170, kn171, kn172, rf0_0, rf0_1, rf0_2, rf0_3, rf0_4, rf0_7, rf0_8, rf0_9, rf0_10, rf0_11, rf0_12, rf0_15, rf0_17, rf1_0, rf3_0, rf3_1, rf4_0, rf4_1, rf8_0, rf8_1, rf10_0, rf11_0, rf11_1, rf64_3, rf64_4, rf64_5, rf68_3, rf68_4, rf68_5, rf72_0, rf72_1, rf155_0, rf155_1, rf155_2, rf158_3, rf158_4, rf158_5, rf162_0, rf162_1, rf162_2, rf162_4, rf162_5, rf162_6, rf162_7, h5, ct_kk hc, hm.2.1.2]
    · simp only [kk173, rf173_33 hr, kk198, kn198, if_true, Nat.reduceLT]
      rw [if_neg (by decide)]
      rfl
  by_cases a2 : a = 2
  · subst a2
    rw [if_neg (show ¬ ((2 : Int32) = 0) by decide), if_neg (show ¬ ((2 : Int32) = 1) by decide), if_pos (rfl : (2 : Int32) = 2), if_neg (show ¬ ((2 : Int32) = 0) by decide), if_neg (show ¬ ((2 : Int32) = 1) by decide), if_pos rfl]
    refine ⟨kI h 198 5, ?_, ?_⟩
    · simp (disch := first | assumption | omega) only [if_true, if_false, kl_e, kb_s, false_or, or_false, n32_add, n32_mul, n32_sub, n32_div, n32_addl, n32_addr, n32_mull, n32_mulr, n32_subl, n32_subr, n32_divl, n32_lt, n32_le, n32_eq, n32_ltl, n32_ltr, n32_lel, n32_ler, n32_eql, n32_eqm, n32_cl, n32_nlt0, gor, gor1, gle, glt, gnlt, gne, Nat.reduceLT, Nat.reduceAdd, Nat.reduceMul, Nat.reduceSub, kk0, kk1, kk2, kk3, kk4, kk5, kk6, kk7, kk8, kk9, kk10, kk11, kk12, kk64, kk65, kk66, kk67, kk68, kk69, kk70, kk71, kk72, kk73, kk74, kk155, kk156, kk157, kk158, kk159, kk160, kk161, kk162, kk163, kk164, kk165, kk166, kk167, kk168, kk169, kk170, kk171, kk172, kn2, kn5, kn6, kn7, kn9, kn65, kn66, kn67, kn69, kn70, kn71, kn73, kn74, kn156, kn157, kn159, kn160, kn161, kn163, kn164, kn165, kn166, kn167, kn168, kn169, kn170, kn171, kn172, rf0_0, rf0_1, rf0_2, rf0_3, rf0_4, rf0_7, rf0_8, rf0_9, rf0_10, rf0_11, rf0_12, rf0_15, rf0_17, rf1_0, rf3_0, rf3_1, rf4_0, rf4_1, rf8_0, rf8_1, rf10_0, rf11_0, rf11_1, rf64_3, rf64_4, rf64_5, rf68_3, rf68_4, rf68_5, rf72_0, rf72_1, rf155_0, rf155_1, rf155_2, rf158_3, rf158_4, rf158_5, rf162_0, rf162_1, rf162_2, rf162_4, rf162_5, rf162_6, rf162_7, h5, ct_kk hc, hm.2.2.1.2]
    · simp only [kk173, rf173_33 hr, kk198, kn198, if_true, Nat.reduceLT]
      rw [if_neg (by decide)]
      rfl
  by_cases a3 : a = 3
  · subst a3
    rw [if_neg (show ¬ ((3 : Int32) = 0) by decide), if_neg (show ¬ ((3 : Int32) = 1) by decide), if_neg (show ¬ ((3 : Int32) = 2) by decide), if_pos (rfl : (3 : Int32) = 3), if_neg (show ¬ ((3 : Int32) = 0) by decide), if_neg (show ¬ ((3 : Int32) = 1) by decide), if_neg (show ¬ ((3 : Int32) = 2) by decide), if_pos rfl]
    refine ⟨kI h 203 2, ?_, ?_⟩
    · simp (disch := first | assumption | omega) only [if_true, if_false, kl_e, kb_s, false_or, or_false, n32_add, n32_mul, n32_sub, n32_div, n32_addl, n32_addr, n32_mull, n32_mulr, n32_subl, n32_subr, n32_divl, n32_lt, n32_le, n32_eq, n32_ltl, n32_ltr, n32_lel, n32_ler, n32_eql, n32_eqm, n32_cl, n32_nlt0, gor, gor1, gle, glt, gnlt, gne, Nat.reduceLT, Nat.reduceAdd, Nat.reduceMul, Nat.reduceSub, kk0, kk1, kk2, kk3, kk4, kk5, kk6, kk7, kk8, kk9, kk10, kk11, kk12, kk64, kk65, kk66, kk67, kk68, kk69, kk70, kk71, kk72, kk73, kk74, kk155, kk156, kk157, kk158, kk159, kk160, kk161, kk162, kk163, kk164, kk165, kk166, kk167, kk168, kk169, kk170, kk171, kk172, kn2, kn5, kn6, kn7, kn9, kn65, kn66, kn67, kn69, kn70, kn71, kn73, kn74, kn156, kn157, kn159, kn160, kn161, kn163, kn164, kn165, kn166, kn167, kn168, kn169, kn170, kn171, kn172, rf0_0, rf0_1, rf0_2, rf0_3, rf0_4, rf0_7, rf0_8, rf0_9, rf0_10, rf0_11, rf0_12, rf0_15, rf0_17, rf1_0, rf3_0, rf3_1, rf4_0, rf4_1, rf8_0, rf8_1, rf10_0, rf11_0, rf11_1, rf64_3, rf64_4, rf64_5, rf68_3, rf68_4, rf68_5, rf72_0, rf72_1, rf155_0, rf155_1, rf155_2, rf158_3, rf158_4, rf158_5, rf162_0, rf162_1, rf162_2, rf162_4, rf162_5, rf162_6, rf162_7, h5, ct_kk hc, hm.2.2.2.1.2.2]
    · simp (disch := first | assumption | omega) only [if_true, if_false, kl_e, kb_s, false_or, or_false, n32_add, n32_mul, n32_sub, n32_div, n32_addl, n32_addr, n32_mull, n32_mulr, n32_subl, n32_subr, n32_divl, n32_lt, n32_le, n32_eq, n32_ltl, n32_ltr, n32_lel, n32_ler, n32_eql, n32_eqm, n32_cl, n32_nlt0, gor, gor1, gle, glt, gnlt, gne, Nat.reduceLT, Nat.reduceAdd, Nat.reduceMul, Nat.reduceSub, kk173, kk174, kk175, kk176, kk177, kk178, kk179, kk180, kk181, kk182, kk183, kk184, kk185, kk186, kk187, kk188, kk189, kk190, kk191, kk192, kk193, kk194, kk195, kk196, kk197, kk198, kk199, kk200, kk201, kk202, kk203, kk204, kk205, kk206, kk207, kk208, kk209, kk210, kk211, kk212, kk213, kk214, kk215, kk216, kk217, kk218, kk219, kk220, kk221, kk222, kk223, kk224, kk225, kk226, kk227, kk228, kk229, kk230, kk231, kk232, kk233, kk234, kk235, kk236, kk237, kk238, kk239, kk240, kk241, kk242, kn174, kn175, kn176, kn177, kn178, kn179, kn180, kn181, kn182, kn183, kn184, kn185, kn186, kn187, kn188, kn189, kn190, kn191, kn192, kn193, kn194, kn195, kn196, kn197, kn198, kn199, kn200, kn201, kn202, kn203, kn204, kn205, kn206, kn207, kn208, kn209, kn210, kn211, kn212, kn213, kn214, kn215, kn216, kn217, kn218, kn219, kn220, kn221, kn222, kn223, kn224, kn225, kn226, kn227, kn228, kn229, kn230, kn231, kn232, kn233, kn234, kn235, kn236, kn237, kn238, kn239, kn240, kn241, kn242, rf173_0, rf173_9, rf173_10, rf173_11, rf173_12, rf173_13, rf173_14, rf173_15, rf173_16, rf173_17, rf173_18, rf173_19, rf173_20, rf173_21, rf173_22, rf173_23, rf173_24, rf173_25, rf173_26, rf173_27, rf173_28, rf173_29, rf173_30, rf173_31, rf173_33, rf173_34, rf173_35, rf173_36, rf173_37, rf173_38, rf173_39, rf173_40, rf173_41, rf173_45, rf173_46, rf173_50, rf173_51, rf173_52, rf173_53, rf173_54, rf173_55, rf173_57, rf173_59, rf173_60, rf173_64, rf173_65, rf173_66, rf173_67, rf173_68, rf173_69, rf173_70, rf173_71, rf173_72, rf173_73, rf173_74, rf173_75, rf173_76, rf173_77, rf173_78, rf173_79, rf173_80, rf173_81, rf173_82, rf173_83, rf173_84, rf173_85, rf173_87, rf173_91, rf173_95]
  by_cases a4 : a = 4
  · subst a4
    rw [if_neg (show ¬ ((4 : Int32) = 0) by decide), if_neg (show ¬ ((4 : Int32) = 1) by decide), if_neg (show ¬ ((4 : Int32) = 2) by decide), if_neg (show ¬ ((4 : Int32) = 3) by decide), if_pos (rfl : (4 : Int32) = 4), if_neg (show ¬ ((4 : Int32) = 0) by decide), if_neg (show ¬ ((4 : Int32) = 1) by decide), if_neg (show ¬ ((4 : Int32) = 2) by decide), if_neg (show ¬ ((4 : Int32) = 3) by decide), if_pos rfl]
    refine ⟨kI h 207 0, ?_, ?_⟩
    · simp (disch := first | assumption | omega) only [if_true, if_false, kl_e, kb_s, false_or, or_false, n32_add, n32_mul, n32_sub, n32_div, n32_addl, n32_addr, n32_mull, n32_mulr, n32_subl, n32_subr, n32_divl, n32_lt, n32_le, n32_eq, n32_ltl, n32_ltr, n32_lel, n32_ler, n32_eql, n32_eqm, n32_cl, n32_nlt0, gor, gor1, gle, glt, gnlt, gne, Nat.reduceLT, Nat.reduceAdd, Nat.reduceMul, Nat.reduceSub, kk0, kk1, kk2, kk3, kk4, kk5, kk6, kk7, kk8, kk9, kk10, kk11, kk12, kk64, kk65, kk66, kk67, kk68, kk69, kk70, kk71, kk72, kk73, kk74, kk155, kk156, kk157, kk158, kk159, kk160, kk161, kk162, kk163, kk164, kk165, kk166, kk167, kk168, kk169, kk170, kk171, kk172, kn2, kn5, kn6, kn7, kn9, kn65, kn66, kn67, kn69, kn70, kn71, kn73, kn74, kn156, kn157, kn159, kn160, kn161, kn163, kn164, kn165, kn166, kn167, kn168, kn169, kn170, kn171, kn172, rf0_0, rf0_1, rf0_2, rf0_3, rf0_4, rf0_7, rf0_8, rf0_9, rf0_10, rf0_11, rf0_12, rf0_15, rf0_17, rf1_0, rf3_0, rf3_1, rf4_0, rf4_1, rf8_0, rf8_1, rf10_0, rf11_0, rf11_1, rf64_3, rf64_4, rf64_5, rf68_3, rf68_4, rf68_5, rf72_0, rf72_1, rf155_0, rf155_1, rf155_2, rf158_3, rf158_4, rf158_5, rf162_0, rf162_1, rf162_2, rf162_4, rf162_5, rf162_6, rf162_7, h5, ct_kk hc, s.c.2]
    · simp only [kk173, rf173_45 hr, kk207, kn207, if_true, Nat.reduceLT]
      rw [if_neg (by decide)]
      rfl
  by_cases a5 : a = 5
  · subst a5
    rw [if_neg (show ¬ ((5 : Int32) = 0) by decide), if_neg (show ¬ ((5 : Int32) = 1) by decide), if_neg (show ¬ ((5 : Int32) = 2) by decide), if_neg (show ¬ ((5 : Int32) = 3) by decide), if_neg (show ¬ ((5 : Int32) = 4) by decide), if_pos (rfl : (5 : Int32) = 5), if_neg (show ¬ ((5 : Int32) = 0) by decide), if_neg (show ¬ ((5 : Int32) = 1) by decide), if_neg (show ¬ ((5 : Int32) = 2) by decide), if_neg (show ¬ ((5 : Int32) = 3) by decide), if_neg (show ¬ ((5 : Int32) = 4) by decide), if_pos rfl]
    refine ⟨kI h 207 1, ?_, ?_⟩
    · simp (disch := first | assumption | omega) only [if_true, if_false, kl_e, kb_s, false_or, or_false, n32_add, n32_mul, n32_sub, n32_div, n32_addl, n32_addr, n32_mull, n32_mulr, n32_subl, n32_subr, n32_divl, n32_lt, n32_le, n32_eq, n32_ltl, n32_ltr, n32_lel, n32_ler, n32_eql, n32_eqm, n32_cl, n32_nlt0, gor, gor1, gle, glt, gnlt, gne, Nat.reduceLT, Nat.reduceAdd, Nat.reduceMul, Nat.reduceSub, kk0, kk1, kk2, kk3, kk4, kk5, kk6, kk7, kk8, kk9, kk10, kk11, kk12, kk64, kk65, kk66, kk67, kk68, kk69, kk70, kk71, kk72, kk73, kk74, kk155, kk156, kk157, kk158, kk159, kk160, kk161, kk162, kk163, kk164, kk165, kk166, kk167, kk168, kk169, kk170, kk171, kk172, kn2, kn5, kn6, kn7, kn9, kn65, kn66, kn67, kn69, kn70, kn71, kn73, kn74, kn156, kn157, kn159, kn160, kn161, kn163, kn164, kn165, kn166, kn167, kn168, kn169, kn170, kn171, kn172, rf0_0, rf0_1, rf0_2, rf0_3, rf0_4, rf0_7, rf0_8, rf0_9, rf0_10, rf0_11, rf0_12, rf0_15, rf0_17, rf1_0, rf3_0, rf3_1, rf4_0, rf4_1, rf8_0, rf8_1, rf10_0, rf11_0, rf11_1, rf64_3, rf64_4, rf64_5, rf68_3, rf68_4, rf68_5, rf72_0, rf72_1, rf155_0, rf155_1, rf155_2, rf158_3, rf158_4, rf158_5, rf162_0, rf162_1, rf162_2, rf162_4, rf162_5, rf162_6, rf162_7, h5, ct_kk hc, s.h.2]
    · simp only [kk173, rf173_45 hr, kk207, kn207, if_true, Nat.reduceLT]
      rw [if_neg (by decide)]
      rfl
  by_cases a6 : a = 6
  · subst a6
    rw [if_neg (show ¬ ((6 : Int32) = 0) by decide), if_neg (show ¬ ((6 : Int32) = 1) by decide), if_neg (show ¬ ((6 : Int32) = 2) by decide), if_neg (show ¬ ((6 : Int32) = 3) by decide), if_neg (show ¬ ((6 : Int32) = 4) by decide), if_neg (show ¬ ((6 : Int32) = 5) by decide), if_pos (rfl : (6 : Int32) = 6), if_neg (show ¬ ((6 : Int32) = 0) by decide), if_neg (show ¬ ((6 : Int32) = 1) by decide), if_neg (show ¬ ((6 : Int32) = 2) by decide), if_neg (show ¬ ((6 : Int32) = 3) by decide), if_neg (show ¬ ((6 : Int32) = 4) by decide), if_neg (show ¬ ((6 : Int32) = 5) by decide), if_pos rfl]
    refine ⟨_, ?_, by rw [if_pos kk173, m_heardNow rc s.ms, kb_s]⟩
    rw [if_pos kk0, rf0_7 hr, if_pos (by omega), if_pos kk64, x_heard rc (St64 hr) s.xs, s.hd rc, kb_s, x_bitCount h (hdN_lt rc).2, kb_s]
  by_cases a7 : a = 7
  · subst a7
    rw [if_neg (show ¬ ((7 : Int32) = 0) by decide), if_neg (show ¬ ((7 : Int32) = 1) by decide), if_neg (show ¬ ((7 : Int32) = 2) by decide), if_neg (show ¬ ((7 : Int32) = 3) by decide), if_neg (show ¬ ((7 : Int32) = 4) by decide), if_neg (show ¬ ((7 : Int32) = 5) by decide), if_neg (show ¬ ((7 : Int32) = 6) by decide), if_pos (rfl : (7 : Int32) = 7), if_neg (show ¬ ((7 : Int32) = 0) by decide), if_neg (show ¬ ((7 : Int32) = 1) by decide), if_neg (show ¬ ((7 : Int32) = 2) by decide), if_neg (show ¬ ((7 : Int32) = 3) by decide), if_neg (show ¬ ((7 : Int32) = 4) by decide), if_neg (show ¬ ((7 : Int32) = 5) by decide), if_neg (show ¬ ((7 : Int32) = 6) by decide), if_pos rfl]
    refine ⟨_, ?_, by rw [if_pos kk173, m_lookedNow rc, kb_s]⟩
    rw [if_pos kk0, rf0_7 hr, if_pos (by omega), if_pos kk64, x_lookedCount (St64 hr), kb_s, lookedN_cg (g := fun i => kI h 207 (14 + i)) 10 (fun t ht => (s.l ht).2), lookedN_ext (m := 2 * kN h 198 5) _ 10 (by have := hm.2.2.1.1.2; omega) (fun t h1 h2 => by show kI h 207 (14 + t) = 0; rw [(s.l h2).1.1, s.lz h2 h1]; rfl)]
  by_cases a8 : a = 8
  · subst a8
    rw [if_neg (show ¬ ((8 : Int32) = 0) by decide), if_neg (show ¬ ((8 : Int32) = 1) by decide), if_neg (show ¬ ((8 : Int32) = 2) by decide), if_neg (show ¬ ((8 : Int32) = 3) by decide), if_neg (show ¬ ((8 : Int32) = 4) by decide), if_neg (show ¬ ((8 : Int32) = 5) by decide), if_neg (show ¬ ((8 : Int32) = 6) by decide), if_neg (show ¬ ((8 : Int32) = 7) by decide), if_pos (rfl : (8 : Int32) = 8), if_neg (show ¬ ((8 : Int32) = 0) by decide), if_neg (show ¬ ((8 : Int32) = 1) by decide), if_neg (show ¬ ((8 : Int32) = 2) by decide), if_neg (show ¬ ((8 : Int32) = 3) by decide), if_neg (show ¬ ((8 : Int32) = 4) by decide), if_neg (show ¬ ((8 : Int32) = 5) by decide), if_neg (show ¬ ((8 : Int32) = 6) by decide), if_neg (show ¬ ((8 : Int32) = 7) by decide), if_pos rfl]
    refine ⟨_, by rw [if_pos kk0, x_keptCount hr k, kb_s], ?_⟩
    rw [← k.m]
    simp (disch := first | assumption | omega) only [if_true, if_false, kl_e, kb_s, false_or, or_false, n32_add, n32_mul, n32_sub, n32_div, n32_addl, n32_addr, n32_mull, n32_mulr, n32_subl, n32_subr, n32_divl, n32_lt, n32_le, n32_eq, n32_ltl, n32_ltr, n32_lel, n32_ler, n32_eql, n32_eqm, n32_cl, n32_nlt0, gor, gor1, gle, glt, gnlt, gne, Nat.reduceLT, Nat.reduceAdd, Nat.reduceMul, Nat.reduceSub, kk173, kk174, kk175, kk176, kk177, kk178, kk179, kk180, kk181, kk182, kk183, kk184, kk185, kk186, kk187, kk188, kk189, kk190, kk191, kk192, kk193, kk194, kk195, kk196, kk197, kk198, kk199, kk200, kk201, kk202, kk203, kk204, kk205, kk206, kk207, kk208, kk209, kk210, kk211, kk212, kk213, kk214, kk215, kk216, kk217, kk218, kk219, kk220, kk221, kk222, kk223, kk224, kk225, kk226, kk227, kk228, kk229, kk230, kk231, kk232, kk233, kk234, kk235, kk236, kk237, kk238, kk239, kk240, kk241, kk242, kn174, kn175, kn176, kn177, kn178, kn179, kn180, kn181, kn182, kn183, kn184, kn185, kn186, kn187, kn188, kn189, kn190, kn191, kn192, kn193, kn194, kn195, kn196, kn197, kn198, kn199, kn200, kn201, kn202, kn203, kn204, kn205, kn206, kn207, kn208, kn209, kn210, kn211, kn212, kn213, kn214, kn215, kn216, kn217, kn218, kn219, kn220, kn221, kn222, kn223, kn224, kn225, kn226, kn227, kn228, kn229, kn230, kn231, kn232, kn233, kn234, kn235, kn236, kn237, kn238, kn239, kn240, kn241, kn242, rf173_0, rf173_9, rf173_10, rf173_11, rf173_12, rf173_13, rf173_14, rf173_15, rf173_16, rf173_17, rf173_18, rf173_19, rf173_20, rf173_21, rf173_22, rf173_23, rf173_24, rf173_25, rf173_26, rf173_27, rf173_28, rf173_29, rf173_30, rf173_31, rf173_33, rf173_34, rf173_35, rf173_36, rf173_37, rf173_38, rf173_39, rf173_40, rf173_41, rf173_45, rf173_46, rf173_50, rf173_51, rf173_52, rf173_53, rf173_54, rf173_55, rf173_57, rf173_59, rf173_60, rf173_64, rf173_65, rf173_66, rf173_67, rf173_68, rf173_69, rf173_70, rf173_71, rf173_72, rf173_73, rf173_74, rf173_75, rf173_76, rf173_77, rf173_78, rf173_79, rf173_80, rf173_81, rf173_82, rf173_83, rf173_84, rf173_85, rf173_87, rf173_91, rf173_95]
  by_cases a9 : a = 9
  · subst a9
    rw [if_neg (show ¬ ((9 : Int32) = 0) by decide), if_neg (show ¬ ((9 : Int32) = 1) by decide), if_neg (show ¬ ((9 : Int32) = 2) by decide), if_neg (show ¬ ((9 : Int32) = 3) by decide), if_neg (show ¬ ((9 : Int32) = 4) by decide), if_neg (show ¬ ((9 : Int32) = 5) by decide), if_neg (show ¬ ((9 : Int32) = 6) by decide), if_neg (show ¬ ((9 : Int32) = 7) by decide), if_neg (show ¬ ((9 : Int32) = 8) by decide), if_pos (rfl : (9 : Int32) = 9), if_neg (show ¬ ((9 : Int32) = 0) by decide), if_neg (show ¬ ((9 : Int32) = 1) by decide), if_neg (show ¬ ((9 : Int32) = 2) by decide), if_neg (show ¬ ((9 : Int32) = 3) by decide), if_neg (show ¬ ((9 : Int32) = 4) by decide), if_neg (show ¬ ((9 : Int32) = 5) by decide), if_neg (show ¬ ((9 : Int32) = 6) by decide), if_neg (show ¬ ((9 : Int32) = 7) by decide), if_neg (show ¬ ((9 : Int32) = 8) by decide), if_pos rfl]
    refine ⟨kI h 173 58, ?_, ?_⟩
    · simp (disch := first | assumption | omega) only [if_true, if_false, kl_e, kb_s, false_or, or_false, n32_add, n32_mul, n32_sub, n32_div, n32_addl, n32_addr, n32_mull, n32_mulr, n32_subl, n32_subr, n32_divl, n32_lt, n32_le, n32_eq, n32_ltl, n32_ltr, n32_lel, n32_ler, n32_eql, n32_eqm, n32_cl, n32_nlt0, gor, gor1, gle, glt, gnlt, gne, Nat.reduceLT, Nat.reduceAdd, Nat.reduceMul, Nat.reduceSub, kk0, kk1, kk2, kk3, kk4, kk5, kk6, kk7, kk8, kk9, kk10, kk11, kk12, kk64, kk65, kk66, kk67, kk68, kk69, kk70, kk71, kk72, kk73, kk74, kk155, kk156, kk157, kk158, kk159, kk160, kk161, kk162, kk163, kk164, kk165, kk166, kk167, kk168, kk169, kk170, kk171, kk172, kn2, kn5, kn6, kn7, kn9, kn65, kn66, kn67, kn69, kn70, kn71, kn73, kn74, kn156, kn157, kn159, kn160, kn161, kn163, kn164, kn165, kn166, kn167, kn168, kn169, kn170, kn171, kn172, rf0_0, rf0_1, rf0_2, rf0_3, rf0_4, rf0_7, rf0_8, rf0_9, rf0_10, rf0_11, rf0_12, rf0_15, rf0_17, rf1_0, rf3_0, rf3_1, rf4_0, rf4_1, rf8_0, rf8_1, rf10_0, rf11_0, rf11_1, rf64_3, rf64_4, rf64_5, rf68_3, rf68_4, rf68_5, rf72_0, rf72_1, rf155_0, rf155_1, rf155_2, rf158_3, rf158_4, rf158_5, rf162_0, rf162_1, rf162_2, rf162_4, rf162_5, rf162_6, rf162_7, h5, ct_kk hc, ha]
    · simp (disch := first | assumption | omega) only [if_true, if_false, kl_e, kb_s, false_or, or_false, n32_add, n32_mul, n32_sub, n32_div, n32_addl, n32_addr, n32_mull, n32_mulr, n32_subl, n32_subr, n32_divl, n32_lt, n32_le, n32_eq, n32_ltl, n32_ltr, n32_lel, n32_ler, n32_eql, n32_eqm, n32_cl, n32_nlt0, gor, gor1, gle, glt, gnlt, gne, Nat.reduceLT, Nat.reduceAdd, Nat.reduceMul, Nat.reduceSub, kk173, kk174, kk175, kk176, kk177, kk178, kk179, kk180, kk181, kk182, kk183, kk184, kk185, kk186, kk187, kk188, kk189, kk190, kk191, kk192, kk193, kk194, kk195, kk196, kk197, kk198, kk199, kk200, kk201, kk202, kk203, kk204, kk205, kk206, kk207, kk208, kk209, kk210, kk211, kk212, kk213, kk214, kk215, kk216, kk217, kk218, kk219, kk220, kk221, kk222, kk223, kk224, kk225, kk226, kk227, kk228, kk229, kk230, kk231, kk232, kk233, kk234, kk235, kk236, kk237, kk238, kk239, kk240, kk241, kk242, kn174, kn175, kn176, kn177, kn178, kn179, kn180, kn181, kn182, kn183, kn184, kn185, kn186, kn187, kn188, kn189, kn190, kn191, kn192, kn193, kn194, kn195, kn196, kn197, kn198, kn199, kn200, kn201, kn202, kn203, kn204, kn205, kn206, kn207, kn208, kn209, kn210, kn211, kn212, kn213, kn214, kn215, kn216, kn217, kn218, kn219, kn220, kn221, kn222, kn223, kn224, kn225, kn226, kn227, kn228, kn229, kn230, kn231, kn232, kn233, kn234, kn235, kn236, kn237, kn238, kn239, kn240, kn241, kn242, rf173_0, rf173_9, rf173_10, rf173_11, rf173_12, rf173_13, rf173_14, rf173_15, rf173_16, rf173_17, rf173_18, rf173_19, rf173_20, rf173_21, rf173_22, rf173_23, rf173_24, rf173_25, rf173_26, rf173_27, rf173_28, rf173_29, rf173_30, rf173_31, rf173_33, rf173_34, rf173_35, rf173_36, rf173_37, rf173_38, rf173_39, rf173_40, rf173_41, rf173_45, rf173_46, rf173_50, rf173_51, rf173_52, rf173_53, rf173_54, rf173_55, rf173_57, rf173_59, rf173_60, rf173_64, rf173_65, rf173_66, rf173_67, rf173_68, rf173_69, rf173_70, rf173_71, rf173_72, rf173_73, rf173_74, rf173_75, rf173_76, rf173_77, rf173_78, rf173_79, rf173_80, rf173_81, rf173_82, rf173_83, rf173_84, rf173_85, rf173_87, rf173_91, rf173_95]
  by_cases a10 : a = 10
  · subst a10
    rw [if_neg (show ¬ ((10 : Int32) = 0) by decide), if_neg (show ¬ ((10 : Int32) = 1) by decide), if_neg (show ¬ ((10 : Int32) = 2) by decide), if_neg (show ¬ ((10 : Int32) = 3) by decide), if_neg (show ¬ ((10 : Int32) = 4) by decide), if_neg (show ¬ ((10 : Int32) = 5) by decide), if_neg (show ¬ ((10 : Int32) = 6) by decide), if_neg (show ¬ ((10 : Int32) = 7) by decide), if_neg (show ¬ ((10 : Int32) = 8) by decide), if_neg (show ¬ ((10 : Int32) = 9) by decide), if_pos (rfl : (10 : Int32) = 10), if_neg (show ¬ ((10 : Int32) = 0) by decide), if_neg (show ¬ ((10 : Int32) = 1) by decide), if_neg (show ¬ ((10 : Int32) = 2) by decide), if_neg (show ¬ ((10 : Int32) = 3) by decide), if_neg (show ¬ ((10 : Int32) = 4) by decide), if_neg (show ¬ ((10 : Int32) = 5) by decide), if_neg (show ¬ ((10 : Int32) = 6) by decide), if_neg (show ¬ ((10 : Int32) = 7) by decide), if_neg (show ¬ ((10 : Int32) = 8) by decide), if_neg (show ¬ ((10 : Int32) = 9) by decide), if_pos rfl]
    refine ⟨kI h 173 61, ?_, ?_⟩
    · simp (disch := first | assumption | omega) only [if_true, if_false, kl_e, kb_s, false_or, or_false, n32_add, n32_mul, n32_sub, n32_div, n32_addl, n32_addr, n32_mull, n32_mulr, n32_subl, n32_subr, n32_divl, n32_lt, n32_le, n32_eq, n32_ltl, n32_ltr, n32_lel, n32_ler, n32_eql, n32_eqm, n32_cl, n32_nlt0, gor, gor1, gle, glt, gnlt, gne, Nat.reduceLT, Nat.reduceAdd, Nat.reduceMul, Nat.reduceSub, kk0, kk1, kk2, kk3, kk4, kk5, kk6, kk7, kk8, kk9, kk10, kk11, kk12, kk64, kk65, kk66, kk67, kk68, kk69, kk70, kk71, kk72, kk73, kk74, kk155, kk156, kk157, kk158, kk159, kk160, kk161, kk162, kk163, kk164, kk165, kk166, kk167, kk168, kk169, kk170, kk171, kk172, kn2, kn5, kn6, kn7, kn9, kn65, kn66, kn67, kn69, kn70, kn71, kn73, kn74, kn156, kn157, kn159, kn160, kn161, kn163, kn164, kn165, kn166, kn167, kn168, kn169, kn170, kn171, kn172, rf0_0, rf0_1, rf0_2, rf0_3, rf0_4, rf0_7, rf0_8, rf0_9, rf0_10, rf0_11, rf0_12, rf0_15, rf0_17, rf1_0, rf3_0, rf3_1, rf4_0, rf4_1, rf8_0, rf8_1, rf10_0, rf11_0, rf11_1, rf64_3, rf64_4, rf64_5, rf68_3, rf68_4, rf68_5, rf72_0, rf72_1, rf155_0, rf155_1, rf155_2, rf158_3, rf158_4, rf158_5, rf162_0, rf162_1, rf162_2, rf162_4, rf162_5, rf162_6, rf162_7, h5, ct_kk hc, hp]
    · simp (disch := first | assumption | omega) only [if_true, if_false, kl_e, kb_s, false_or, or_false, n32_add, n32_mul, n32_sub, n32_div, n32_addl, n32_addr, n32_mull, n32_mulr, n32_subl, n32_subr, n32_divl, n32_lt, n32_le, n32_eq, n32_ltl, n32_ltr, n32_lel, n32_ler, n32_eql, n32_eqm, n32_cl, n32_nlt0, gor, gor1, gle, glt, gnlt, gne, Nat.reduceLT, Nat.reduceAdd, Nat.reduceMul, Nat.reduceSub, kk173, kk174, kk175, kk176, kk177, kk178, kk179, kk180, kk181, kk182, kk183, kk184, kk185, kk186, kk187, kk188, kk189, kk190, kk191, kk192, kk193, kk194, kk195, kk196, kk197, kk198, kk199, kk200, kk201, kk202, kk203, kk204, kk205, kk206, kk207, kk208, kk209, kk210, kk211, kk212, kk213, kk214, kk215, kk216, kk217, kk218, kk219, kk220, kk221, kk222, kk223, kk224, kk225, kk226, kk227, kk228, kk229, kk230, kk231, kk232, kk233, kk234, kk235, kk236, kk237, kk238, kk239, kk240, kk241, kk242, kn174, kn175, kn176, kn177, kn178, kn179, kn180, kn181, kn182, kn183, kn184, kn185, kn186, kn187, kn188, kn189, kn190, kn191, kn192, kn193, kn194, kn195, kn196, kn197, kn198, kn199, kn200, kn201, kn202, kn203, kn204, kn205, kn206, kn207, kn208, kn209, kn210, kn211, kn212, kn213, kn214, kn215, kn216, kn217, kn218, kn219, kn220, kn221, kn222, kn223, kn224, kn225, kn226, kn227, kn228, kn229, kn230, kn231, kn232, kn233, kn234, kn235, kn236, kn237, kn238, kn239, kn240, kn241, kn242, rf173_0, rf173_9, rf173_10, rf173_11, rf173_12, rf173_13, rf173_14, rf173_15, rf173_16, rf173_17, rf173_18, rf173_19, rf173_20, rf173_21, rf173_22, rf173_23, rf173_24, rf173_25, rf173_26, rf173_27, rf173_28, rf173_29, rf173_30, rf173_31, rf173_33, rf173_34, rf173_35, rf173_36, rf173_37, rf173_38, rf173_39, rf173_40, rf173_41, rf173_45, rf173_46, rf173_50, rf173_51, rf173_52, rf173_53, rf173_54, rf173_55, rf173_57, rf173_59, rf173_60, rf173_64, rf173_65, rf173_66, rf173_67, rf173_68, rf173_69, rf173_70, rf173_71, rf173_72, rf173_73, rf173_74, rf173_75, rf173_76, rf173_77, rf173_78, rf173_79, rf173_80, rf173_81, rf173_82, rf173_83, rf173_84, rf173_85, rf173_87, rf173_91, rf173_95]
  rw [if_neg a0, if_neg a1, if_neg a2, if_neg a3, if_neg a4, if_neg a5, if_neg a6, if_neg a7, if_neg a8, if_neg a9, if_neg a10, if_neg a0, if_neg a1, if_neg a2, if_neg a3, if_neg a4, if_neg a5, if_neg a6, if_neg a7, if_neg a8, if_neg a9, if_neg a10]
  exact ⟨-1, rfl, rfl⟩
