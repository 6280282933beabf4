/-! acts: the past pushed and popped; kept, judge, look, undo -/
theorem past_chain {h : KH} {n a : Nat} (hp : ∀ k, 1 ≤ k → k ≤ n → Sst h (psl a k) 217 (pso a k) ∧ Kst h (psl a k) 217 (pso a k) ∧ kN h (psl a k) 2 ≤ kN h (ppr a k) 2 ∧ kN h (ppr a k) 2 ≤ kN h (psl a k) 2 + 30) :
    ∀ j, j + 1 ≤ n → kN h (psl a (j + 1)) 2 ≤ kN h 64 2 ∧ kN h 64 2 ≤ kN h (psl a (j + 1)) 2 + 30 * (j + 1)
  | 0, hj => by
    obtain ⟨-, -, h1, h2⟩ := hp 1 (by omega) hj
    have e : ppr a 1 = 64 := if_pos rfl
    rw [e] at h1 h2
    exact ⟨h1, h2⟩
  | j + 1, hj => by
    obtain ⟨c1, c2⟩ := past_chain hp j (by omega)
    obtain ⟨-, -, h1, h2⟩ := hp (j + 2) (by omega) hj
    have e : ppr a (j + 2) = psl a (j + 1) := if_neg (by omega)
    rw [e] at h1 h2
    show kN h (psl a (j + 2)) 2 ≤ kN h 64 2 ∧ kN h 64 2 ≤ kN h (psl a (j + 2)) 2 + 30 * (j + 2)
    exact ⟨by omega, by omega⟩
/-- behind an act: its start is the newest that can be undone -/
theorem past_push {h h' : KH} {n a : Nat} (rs : RS h) (rk : RK h) (n20 : n ≤ 20) (a20 : a < 20)
    (hp : ∀ k, 1 ≤ k → k ≤ n → Sst h (psl a k) 217 (pso a k) ∧ Kst h (psl a k) 217 (pso a k) ∧ kN h (psl a k) 2 ≤ kN h (ppr a k) 2 ∧ kN h (ppr a k) 2 ≤ kN h (psl a k) 2 + 30)
    (e1 : kI h' 72 3 = Int32.ofNat (min 20 (n + 1))) (e2 : kI h' 173 61 = Int32.ofNat (min 20 (n + 1))) (e3 : kI h' 72 2 = Int32.ofNat ((a + 1) % 20)) (e4 : kI h' 173 62 = Int32.ofNat ((a + 1) % 20))
    (A1 : ∀ i, i < 3 → kI h' (75 + 4 * a) i = kI h 64 i) (A2 : ∀ t, t < 6 → kI h' (75 + 4 * a + 1) t = kI h 65 t ∧ kI h' (75 + 4 * a + 2) t = kI h 66 t) (A3 : ∀ i, i < 10 → kI h' (75 + 4 * a + 3) i = kI h 67 i)
    (B : ∀ i, i < 185 → kI h' 217 (185 * ((a + 1) % 20) + i) = kI h 207 i)
    (C1 : ∀ l i, 75 ≤ l → l < 155 → ¬ (75 + 4 * a ≤ l ∧ l < 79 + 4 * a) → kI h' l i = kI h l i)
    (C2 : ∀ i, ¬ (185 * ((a + 1) % 20) ≤ i ∧ i < 185 * ((a + 1) % 20) + 185) → kI h' 217 i = kI h 217 i)
    (D0 : kN h 64 2 ≤ kN h' 64 2 ∧ kN h' 64 2 ≤ kN h 64 2 + 30)
    (D : ∀ x, x < kN h 64 2 → kN h' 64 2 ≤ x + 1024 → ∀ i, i < 4 → kI h' 74 (4 * (x % 1024) + i) = kI h 74 (4 * (x % 1024) + i))
    (E4 : kI h' 198 4 = kI h 198 4) (E5 : kI h' 198 5 = kI h 198 5) : Rpast h' := by
  refine ⟨min 20 (n + 1), (a + 1) % 20, by omega, by omega, e1, e2, e3, e4, fun k k1 kn => ?_⟩
  have s1 : psl ((a + 1) % 20) 1 = 75 + 4 * a := by unfold psl; omega
  have o1 : pso ((a + 1) % 20) 1 = 185 * ((a + 1) % 20) := by unfold pso; omega
  have k64 := rk.k.2
  by_cases z : k = 1
  · subst z
    have b : Bsame h h' 64 (75 + 4 * a) 207 217 0 (185 * ((a + 1) % 20)) := ⟨A1, A2, A3, fun i hi => by rw [B i hi, Nat.zero_add], E4, E5⟩
    have ek : kN h' (75 + 4 * a) 2 = kN h 64 2 := kN_same (A1 2 (by omega))
    have ep : ppr ((a + 1) % 20) 1 = 64 := if_pos rfl
    rw [s1, o1, ep, ek]
    refine ⟨rs.move b, rk.move b fun j hj i hi => D _ ?_ ?_ i hi, D0.1, D0.2⟩
    · have := Nat.min_le_left (kN h 64 2) 40
      omega
    · have := Nat.min_le_right (kN h 64 2) 40
      omega
  · obtain ⟨j, rfl⟩ : ∃ j, k = j + 2 := ⟨k - 2, by omega⟩
    have hj : j + 1 ≤ n := by omega
    have j19 : j + 1 ≤ 19 := by omega
    obtain ⟨p1, p2, p3, p4⟩ := hp (j + 1) (by omega) hj
    obtain ⟨q1, q2⟩ := past_chain hp j hj
    have s2 : psl ((a + 1) % 20) (j + 2) = psl a (j + 1) := by unfold psl; omega
    have o2 : pso ((a + 1) % 20) (j + 2) = pso a (j + 1) := by unfold pso; omega
    have l1 : 75 ≤ psl a (j + 1) ∧ psl a (j + 1) + 3 < 155 ∧ ¬ (75 + 4 * a ≤ psl a (j + 1) + 3 ∧ psl a (j + 1) < 79 + 4 * a) := by
      unfold psl
      omega
    have l2 : ¬ (185 * ((a + 1) % 20) < pso a (j + 1) + 185 ∧ pso a (j + 1) < 185 * ((a + 1) % 20) + 185) := by
      unfold pso
      omega
    have b : Bsame h h' (psl a (j + 1)) (psl a (j + 1)) 217 217 (pso a (j + 1)) (pso a (j + 1)) :=
      ⟨fun i _ => C1 _ i (by omega) (by omega) (by omega), fun t _ => ⟨C1 _ t (by omega) (by omega) (by omega), C1 _ t (by omega) (by omega) (by omega)⟩, fun i _ => C1 _ i (by omega) (by omega) (by omega), fun i _ => C2 _ (by omega), E4, E5⟩
    have ek : kN h' (psl a (j + 1)) 2 = kN h (psl a (j + 1)) 2 := kN_same (b.1 2 (by omega))
    have ep : kN h' (ppr ((a + 1) % 20) (j + 2)) 2 = kN h (ppr a (j + 1)) 2 := by
      unfold ppr
      rw [if_neg (by omega), show j + 2 - 1 = j + 1 by omega]
      by_cases y : j = 0
      · subst y
        rw [if_pos rfl, s1]
        exact kN_same (A1 2 (by omega))
      · rw [if_neg (by omega), show j + 1 - 1 = (j - 1) + 1 by omega, show j + 1 = (j - 1) + 2 by omega]
        have s3 : psl ((a + 1) % 20) ((j - 1) + 2) = psl a ((j - 1) + 1) := by unfold psl; omega
        rw [s3]
        refine kN_same (C1 _ 2 ?_ ?_ ?_) <;> (unfold psl; omega)
    rw [s2, o2, ek, ep]
    refine ⟨p1.move b, p2.move b fun x hx i hi => D _ ?_ ?_ i hi, p3, p4⟩
    · have := Nat.min_le_left (kN h (psl a (j + 1)) 2) 40
      omega
    · have := Nat.min_le_right (kN h (psl a (j + 1)) 2) 40
      omega
def Wact (l i : Nat) : Prop := (64 ≤ l ∧ l ≤ 67) ∨ (72 ≤ l ∧ l ≤ 154) ∨ (l = 155 ∧ i = 3) ∨ l = 207 ∨ l = 217 ∨ (l = 173 ∧ (i = 61 ∨ i = 62))
/-- how a call ends that acts: refused, or the state is the new one -/
def Aft (h h' : KH) : Prop := (kfp Wref h h' ∧ Rref h') ∨ (RS h' ∧ RK h' ∧ Rpast h' ∧ kI h' 155 3 = 0 ∧ kfp Wact h h')
theorem c_kept {h : KH} {c : Nat} (rc : RC h c) (k : RK h) (a b : Int32) : ∃ r, f_X11_kept h 0 a b = some r ∧ f_X12_kept h 173 a b = some r := by
  obtain ⟨hr, hc, h5, hm, -⟩ := id rc
  have z3 : (3 : Int64).toInt = 3 := rfl
  have z0 : (0 : Int64).toInt = 0 := rfl
  have y3 : (3 : Int32).toInt = 3 := rfl
  have e := k.k.1.1
  have kbd := k.k.1.2
  have km := k.m
  obtain ⟨m, hmm⟩ : ∃ m, min (kN h 64 2) 40 = m := ⟨_, rfl⟩
  have m40 : m ≤ 40 := by omega
  have mk : m ≤ kN h 64 2 := by omega
  rw [hmm] at km
  have hx : f_X11_kept h 0 a b = (if a < 0 then some (-1 : Int32) else if Int32.ofNat m ≤ a then some (-1 : Int32) else if b < 0 then some (-1 : Int32) else if b ≤ (3 : Int32) then kb (f_X5_cell h 72 ((Int32.ofNat (kN h 64 2) - Int32.ofNat m) + a) b) fun r13 => some r13 else some (-1 : Int32)) := by
    unfold f_X11_kept
    rw [if_pos kk0, x_keptCount hr k, kb_s, hmm, rf0_9 hr, rf0_7 hr, if_pos (show 72 < 999999 by omega), if_pos (show 64 < 999999 by omega), if_pos kk64, if_pos kk72, e]
  have hmx : f_X12_kept h 173 a b = kb (f_X12_isIn h a.toInt64 0 (Int32.ofNat m - (1 : Int32)).toInt64) fun r5 => if r5 = 0 then some (-1 : Int32) else kb (f_X12_isIn h b.toInt64 (0 : Int64) (3 : Int64)) fun r9 => if r9 = 0 then some (-1 : Int32) else
      if ((((25 : Int32) + ((4 : Int32) * a)) + b) < 0 ∨ 185 ≤ ((((25 : Int32) + ((4 : Int32) * a)) + b)).toNatClampNeg) then none else some (kI h 207 (((((25 : Int32) + ((4 : Int32) * a)) + b)).toNatClampNeg)) := by
    unfold f_X12_kept
    rw [if_pos kk173, rf173_45 hr, if_pos (show 207 < 999999 by omega), if_pos kk207, kn207, if_neg (show ¬ 185 ≤ 24 by omega), km]
  rw [hx, hmx]
  rcases n32_arg a (n := m) (by omega) with ⟨j, hj, rfl⟩ | ha
  · rw [if_neg (n32_nn (by omega)), if_neg (by rw [n32_le (by omega) (by omega)]; omega), isIn_cy h hj (by omega), kb_s, if_neg (show ¬ ((1 : Int32) = 0) by decide)]
    rcases n32_arg b (n := 4) (by omega) with ⟨i, hi, rfl⟩ | hb
    · refine ⟨kI h 207 (25 + 4 * j + i), ?_, ?_⟩
      · rw [if_neg (n32_nn (by omega)), if_pos (by rw [n32_lel (by omega) (by omega)]; omega), n32_sub mk, n32_add]
        unfold f_X5_cell
        have q := Nat.mod_lt (kN h 64 2 - m + j) (show 0 < 1024 by omega)
        have rr := k.r (j := j) (i := i) (by omega) hi
        rw [hmm] at rr
        rw [if_neg (n32_nn (by omega)), if_neg (by rw [n32_ler (by omega) (by omega)]; omega), if_pos kk72, rf72_1 hr, if_pos (by omega), x_floorMod h (by omega), kb_s, if_pos kk74, kn74, n32_mulr, n32_add, if_neg (by rw [n32_cl (by omega)]; exact fun z => z.elim (n32_nn (by omega)) (by omega)), n32_cl (by omega), kb_s, rr]
      · rw [isIn_y h z0 z3 (by rw [n32_toInt (by omega)]; omega), kb_s, if_neg (by decide), n32_mulr, n32_addr, n32_add, if_neg (by rw [n32_cl (by omega)]; exact fun z => z.elim (n32_nn (by omega)) (by omega)), n32_cl (by omega)]
    · refine ⟨-1, ?_, by rw [isIn_n h z0 z3 (by omega), kb_s, if_pos rfl]⟩
      by_cases b0 : b < 0
      · rw [if_pos b0]
      · rw [if_neg b0, if_neg]
        rw [i0_lt] at b0
        rw [Int32.le_iff_toInt_le, y3]
        omega
  · refine ⟨-1, ?_, by rw [isIn_cn h (by omega) ha, kb_s, if_pos rfl]⟩
    by_cases a0 : a < 0
    · rw [if_pos a0]
    · rw [if_neg a0, if_pos (rng_n (by omega) ha a0)]
