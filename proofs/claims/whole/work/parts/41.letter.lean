/-! letters of NAMES -/
theorem n32_dec (a : Nat) : Int32.ofNat (a + 1) + (-1 : Int32) = Int32.ofNat a := by
  rw [← n32_add a 1, Int32.add_assoc, show Int32.ofNat 1 + (-1 : Int32) = 0 from by decide, Int32.add_zero]
theorem x_nameIn_n {h : KH} {l N n : Nat} (hk : kkind l = 24) (hl : klen l = N) (hN : N < 1000) {a : Int32} (hn : n < 1000) (ha : ¬ (0 ≤ a.toInt ∧ a.toInt < (n : Int))) : f_X2_nameIn h l (Int32.ofNat n) a = some (-1) := by
  unfold f_X2_nameIn
  by_cases h0 : a < 0
  · rw [if_pos h0]
  · rw [if_neg h0, if_pos (rng_n (by omega) ha h0)]
theorem x_nameIn_y {h : KH} {l N n k r m : Nat} (hk : kkind l = 24) (hl : klen l = N) (hN : N < 1000) (hn : n ≤ N) (hkn : k < n) (hr : kR h l k = r) (hr9 : r < 999999) (hrk : kkind r = 20) (hrl : klen r = m) (hm : 0 < m) : f_X2_nameIn h l (Int32.ofNat n) (Int32.ofNat k) = some (kI h r 0) := by
  unfold f_X2_nameIn
  simp (disch := first | assumption | omega) only [if_true, if_false, kl_e, kb_s, false_or, or_false, n32_add, n32_mul, n32_sub, n32_div, n32_addl, n32_addr, n32_mull, n32_mulr, n32_subl, n32_subr, n32_divl, n32_lt, n32_le, n32_eq, n32_ltl, n32_ltr, n32_lel, n32_ler, n32_eql, n32_eqm, n32_cl, n32_nlt0, gor, gor1, gle, glt, gnlt, gne, Nat.reduceLT, Nat.reduceAdd, Nat.reduceMul, Nat.reduceSub, hk, hl, hr, hrk, hrl]
/-- the NAMES of a court at c: ns, nt, nm of them -/
theorem x_nameOf_y {h : KH} (hr : kRefs h) {c : Nat} (hc : ctc c) {s k n : Nat} (hs : s < 3) (hn : kI h c (3 + s) = Int32.ofNat n) (h6 : n ≤ if s = 2 then 5 else 6) (hk : k < n) : f_X2_nameOf h c (Int32.ofNat s) (Int32.ofNat k) = some (kI h (c + (2 + 7 * s) + k) 0) := by
  have c9 : c < 100 := Nat.lt_trans hc.lt (by omega)
  obtain ⟨r0, r1, r2, -⟩ := ct_r hr hc
  obtain ⟨k0, k1, k2, l0, l1, l2⟩ := ct_kt hc
  unfold f_X2_nameOf
  match s, hs with
  | 0, _ =>
    have h6 : n ≤ 6 := h6
    rw [if_pos (by decide), if_pos (ct_kk hc), r0, if_pos (by omega), hn, x_nameIn_y k0 l0 (by omega) h6 hk (ct_rk hr hc (by omega)) (by omega) (ct_kind hc (by omega)).1 (ct_kind hc (by omega)).2 (by omega), kb_s]
  | 1, _ =>
    have h6 : n ≤ 6 := h6
    rw [if_neg (by decide), if_pos (by decide), if_pos (ct_kk hc), r1, if_pos (by omega), hn, x_nameIn_y k1 l1 (by omega) h6 hk (ct_rt hr hc (by omega)) (by omega) (ct_test hc (by omega)).1 (ct_test hc (by omega)).2 (by omega), kb_s]
  | 2, _ =>
    have h6 : n ≤ 5 := h6
    rw [if_neg (by decide), if_neg (by decide), if_pos (by decide), if_pos (ct_kk hc), r2, if_pos (by omega), hn, x_nameIn_y k2 l2 (by omega) h6 hk (ct_rm hr hc (by omega)) (by omega) (ct_mark hc (by omega)).1 (ct_mark hc (by omega)).2 (by omega), kb_s]
theorem x_nameOf_n {h : KH} (hr : kRefs h) {c : Nat} (hc : ctc c) {s n : Nat} (hs : s < 3) (hn : kI h c (3 + s) = Int32.ofNat n) (h6 : n ≤ 6) {a : Int32} (ha : ¬ (0 ≤ a.toInt ∧ a.toInt < (n : Int))) : f_X2_nameOf h c (Int32.ofNat s) a = some (-1) := by
  have c9 : c < 100 := Nat.lt_trans hc.lt (by omega)
  obtain ⟨r0, r1, r2, -⟩ := ct_r hr hc
  obtain ⟨k0, k1, k2, l0, l1, l2⟩ := ct_kt hc
  unfold f_X2_nameOf
  match s, hs with
  | 0, _ => rw [if_pos (by decide), if_pos (ct_kk hc), r0, if_pos (by omega), hn, x_nameIn_n k0 l0 (by omega) (by omega) ha, kb_s]
  | 1, _ => rw [if_neg (by decide), if_pos (by decide), if_pos (ct_kk hc), r1, if_pos (by omega), hn, x_nameIn_n k1 l1 (by omega) (by omega) ha, kb_s]
  | 2, _ => rw [if_neg (by decide), if_neg (by decide), if_pos (by decide), if_pos (ct_kk hc), r2, if_pos (by omega), hn, x_nameIn_n k2 l2 (by omega) (by omega) ha, kb_s]
theorem x_nameOf_o {h : KH} {c : Nat} {a b : Int32} (ha : ¬ (0 ≤ a.toInt ∧ a.toInt < ((3 : Nat) : Int))) : f_X2_nameOf h c a b = some (-1) := by
  have z0 : (0 : Int32).toInt = 0 := rfl
  have z1 : (1 : Int32).toInt = 1 := rfl
  have z2 : (2 : Int32).toInt = 2 := rfl
  unfold f_X2_nameOf
  rw [if_neg, if_neg, if_neg]
  · rw [← Int32.toInt_inj, z2]; omega
  · rw [← Int32.toInt_inj, z1]; omega
  · rw [← Int32.toInt_inj, z0]; omega
theorem x_letterLoop (h : KH) {F k : Nat} (hF : F < 2147483648) (hk : k < 6) : kloop (f_X11_letter_l34 h) KF (Int32.ofNat F, Int32.ofNat (k + 1)) = some (Int32.ofNat (F / 27 ^ (5 - k))) := by
  have e := kloop_for (body := f_X11_letter_l34 h) (fun j => (Int32.ofNat (F / 27 ^ j), Int32.ofNat (k + 1 + j))) (5 - k) (Int32.ofNat (F / 27 ^ (5 - k))) (by omega) (fun j hj => by
    have hd : F / 27 ^ j ≤ F := Nat.div_le_self _ _
    unfold f_X11_letter_l34
    dsimp only
    simp (disch := first | assumption | omega) only [if_true, if_false, kl_e, kb_s, false_or, or_false, n32_add, n32_mul, n32_sub, n32_div, n32_addl, n32_addr, n32_mull, n32_mulr, n32_subl, n32_subr, n32_divl, n32_lt, n32_le, n32_eq, n32_ltl, n32_ltr, n32_lel, n32_ler, n32_eql, n32_eqm, n32_cl, n32_nlt0, gor, gor1, gle, glt, gnlt, gne, Nat.reduceLT, Nat.reduceAdd, Nat.reduceMul, Nat.reduceSub]
    rw [Nat.div_div_eq_div_mul, ← Nat.pow_succ, Nat.add_assoc]) (by
    unfold f_X11_letter_l34
    dsimp only
    rw [show k + 1 + (5 - k) = 6 by omega, if_pos (by decide)])
  simpa using e
theorem pow27 : ∀ n, n ≤ 6 → 27 ^ n ≤ 387420489 := by decide
theorem nmo.lt {v n : Nat} (z : nmo v n) : v < 387420489 := Nat.lt_of_lt_of_le z.2.2.2.1 (pow27 n z.2.1)
theorem nmo.fill {v n : Nat} (z : nmo v n) : v * 27 ^ (6 - n) < 387420489 := by
  obtain ⟨h1, h6, h2, h3, -⟩ := z
  have e : 27 ^ n * 27 ^ (6 - n) = 387420489 := by
    rw [← Nat.pow_add, show n + (6 - n) = 6 by omega]
  calc v * 27 ^ (6 - n) < 27 ^ n * 27 ^ (6 - n) := Nat.mul_lt_mul_of_pos_right h3 (Nat.pow_pos (by omega))
    _ = 387420489 := e
theorem m_letterLoop1 (h : KH) (v3 : Int32) (v4 : Int64) {v n : Nat} (z : nmo v n) : kloop (f_X12_letter_l69 h v3 v4) KF ((0 : Int32), Int64.ofNat v) = some (Int32.ofNat n) := by
  obtain ⟨h1, h6, h2, h3, -⟩ := id z
  have hv := z.lt
  have z0 : (0 : Int64) = Int64.ofNat 0 := rfl
  have e := kloop_for (body := f_X12_letter_l69 h v3 v4) (fun j => (Int32.ofNat j, Int64.ofNat (v / 27 ^ j))) n (Int32.ofNat n) (by omega) (fun j hj => by
    have hd : v / 27 ^ j ≤ v := Nat.div_le_self _ _
    have hp : 0 < v / 27 ^ j := Nat.div_pos (Nat.le_trans (Nat.pow_le_pow_right (by omega) (by omega)) h2) (Nat.pow_pos (by omega))
    unfold f_X12_letter_l69
    dsimp only
    rw [z0, if_neg (by rw [lgn_le0 (by omega) (by omega)]; omega), kl_e, kl_e, n64_divl (by omega) (by omega), Nat.div_div_eq_div_mul, ← Nat.pow_succ, n32_addl]) (by
    unfold f_X12_letter_l69
    dsimp only
    rw [Nat.div_eq_of_lt h3, z0, if_pos (by rw [lgn_le0 (by omega) (by omega)]; omega)])
  simpa using e
theorem m_letterLoop2 (h : KH) {v n k : Nat} (hv : v < 387420489) (hk : k < n) (hn : n ≤ 6) : kloop (f_X12_letter_l104 h (Int32.ofNat k)) KF (Int64.ofNat v, Int32.ofNat (n - 1)) = some (Int64.ofNat (v / 27 ^ (n - 1 - k))) := by
  have e := kloop_for (body := f_X12_letter_l104 h (Int32.ofNat k)) (fun j => (Int64.ofNat (v / 27 ^ j), Int32.ofNat (n - 1 - j))) (n - 1 - k) (Int64.ofNat (v / 27 ^ (n - 1 - k))) (by omega) (fun j hj => by
    have hd : v / 27 ^ j ≤ v := Nat.div_le_self _ _
    unfold f_X12_letter_l104
    dsimp only
    rw [if_neg (by rw [n32_le (by omega) (by omega)]; omega), kl_e, kl_e, n64_divl (by omega) (by omega), Nat.div_div_eq_div_mul, ← Nat.pow_succ, show n - 1 - j = (n - 1 - (j + 1)) + 1 by omega, n32_dec]) (by
    unfold f_X12_letter_l104
    dsimp only
    rw [if_pos (by rw [n32_le (by omega) (by omega)]; omega)])
  simpa using e
theorem c_letter {h : KH} {c : Nat} (rc : RC h c) (rn : Rnames h c) (a b d : Int32) : ∃ r, f_X11_letter h 0 a b d = some r ∧ f_X12_letter h 173 a b d = some r := by
  obtain ⟨hr, hc, h5, hm, hk, ht, hma⟩ := id rc
  have c39 := hc.lt
  have c9 : c < 999999 := Nat.lt_trans hc.lt (by omega)
  have z0 : (0 : Int64).toInt = 0 := rfl
  have z2 : (2 : Int64).toInt = 2 := rfl
  have z5 : (5 : Int64).toInt = 5 := rfl
  have hx : f_X11_letter h 0 a b d = kb (f_X2_nameOf h c a b) fun r4 => if r4 = (-1 : Int32) then some (-1 : Int32) else if d < 0 then some (-1 : Int32) else if d < (6 : Int32) then kl (d + (1 : Int32)) fun x10 => kb (kloop (f_X11_letter_l34 h) KF (r4, x10)) fun e12 => some (e12 - e12 / (27 : Int32) * (27 : Int32)) else some (-1 : Int32) := by
    unfold f_X11_letter
    rw [if_pos kk0, h5, if_pos c9, if_pos (ct_kk hc)]
  rw [hx]
  unfold f_X12_letter
  rcases n32_arg a (n := 3) (by omega) with ⟨s, hs, rfl⟩ | ha
  · have hcn : ∃ n, kI h 198 (3 + s) = Int32.ofNat n ∧ kI h c (3 + s) = Int32.ofNat n ∧ n = kN h 198 (3 + s) ∧ n ≤ if s = 2 then 5 else 6 := by
      match s, hs with
      | 0, _ => exact ⟨_, hm.1.1.1, hm.1.2.trans hm.1.1.1, rfl, hm.1.1.2⟩
      | 1, _ => exact ⟨_, hm.2.1.1.1, hm.2.1.2.trans hm.2.1.1.1, rfl, hm.2.1.1.2⟩
      | 2, _ => exact ⟨_, hm.2.2.1.1.1, hm.2.2.1.2.trans hm.2.2.1.1.1, rfl, hm.2.2.1.1.2⟩
    obtain ⟨n, e1, e2, e3, e4⟩ := hcn
    have e6 : n ≤ 6 := by
      by_cases s2 : s = 2
      · rw [if_pos s2] at e4; omega
      · rw [if_neg s2] at e4; exact e4
    rw [isIn_y h z0 z2 (by rw [n32_toInt (by omega)]; omega), kb_s, if_neg (show ¬ ((1 : Int32) = 0) by decide)]
    simp only [kk173, rf173_33 hr, kk198, kn198, if_true, Nat.reduceLT]
    rw [n32_addr, if_neg (by rw [n32_cl (by omega)]; exact fun z => z.elim (n32_nn (by omega)) (by omega)), n32_cl (by omega), e1]
    rcases n32_arg b (n := n) (by omega) with ⟨k, hk1, rfl⟩ | hb
    · rw [x_nameOf_y hr hc hs e2 e4 hk1, kb_s, isIn_cy h hk1 (by omega), kb_s, if_neg (show ¬ ((1 : Int32) = 0) by decide)]
      obtain ⟨v, m, z, g1, g2⟩ := rn s hs k (by omega)
      have hF := z.fill
      have hv := z.lt
      obtain ⟨m1, m6, -⟩ := id z
      rw [g2, if_neg (by rw [n32_eqm (by omega)]; exact id)]
      rcases n32_arg d (n := 6) (by omega) with ⟨j, hj, rfl⟩ | hd
      · rw [if_neg (n32_nn (by omega)), if_pos (by rw [n32_ltl (by omega) (by omega)]; exact hj), kl_e, n32_addl, x_letterLoop h (by omega) hj, kb_s]
        have hq : v * 27 ^ (6 - m) / 27 ^ (5 - j) ≤ v * 27 ^ (6 - m) := Nat.div_le_self _ _
        rw [show (27 : Int32) = Int32.ofNat 27 from rfl, n32_rem (by omega) (by omega)]
        refine ⟨_, rfl, ?_⟩
        rw [isIn_y h z0 z5 (by rw [n32_toInt (by omega)]; omega), kb_s, if_neg (by decide)]
        simp only [rf173_34 hr, kk199, kn199, if_true, Nat.reduceLT, n32_mulr, n32_addr, n32_add]
        rw [if_neg (by rw [n32_cl (by omega)]; exact fun z => z.elim (n32_nn (by omega)) (by omega)), n32_cl (by omega), g1, kl_e, m_letterLoop1 h _ _ z, kb_s]
        by_cases jm : j < m
        · rw [if_pos (by rw [n32_lt (by omega) (by omega)]; exact jm), n32_subl (by omega), kl_e]
          have q : v / 27 ^ (m - 1 - j) ≤ v := Nat.div_le_self _ _
          rw [m_letterLoop2 h hv jm m6, kb_s, show (27 : Int64) = Int64.ofNat 27 from rfl, n64_rem (by omega) (by omega), n64_to32 (by omega)]
          congr 3
          rw [show 5 - j = (6 - m) + (m - 1 - j) by omega, Nat.pow_add, ← Nat.div_div_eq_div_mul, Nat.mul_div_cancel _ (Nat.pow_pos (by omega))]
        · rw [if_neg (by rw [n32_lt (by omega) (by omega)]; exact jm)]
          have q : v * 27 ^ (6 - m) / 27 ^ (5 - j) % 27 = 0 := by
            rw [show 6 - m = (j - m) + 1 + (5 - j) by omega, Nat.pow_add, ← Nat.mul_assoc, Nat.mul_div_cancel _ (Nat.pow_pos (by omega)), Nat.pow_succ, ← Nat.mul_assoc, Nat.mul_mod_left]
          rw [q]
          rfl
      · refine ⟨-1, ?_, by rw [isIn_n h z0 z5 (by omega), kb_s, if_pos rfl]⟩
        by_cases d0 : d < 0
        · rw [if_pos d0]
        · rw [if_neg d0, if_neg]
          rw [i0_lt] at d0
          have y6 : (6 : Int32).toInt = 6 := rfl
          rw [Int32.lt_iff_toInt_lt, y6]
          omega
    · exact ⟨-1, by rw [x_nameOf_n hr hc hs e2 e6 hb, kb_s, if_pos rfl], by rw [isIn_cn h (by omega) hb, kb_s, if_pos rfl]⟩
  · exact ⟨-1, by rw [x_nameOf_o ha, kb_s, if_pos rfl], by rw [isIn_n h z0 z2 (by omega), kb_s, if_pos rfl]⟩
