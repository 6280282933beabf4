/-! the class's steps: what a Code tells -/
/-- the class's step of a code -/
def csI (c : Nat) : Int32 := if 1000 ≤ c then Int32.ofNat (c - 1000) else if c = 60 then -9 else if 40 ≤ c then ([-2, -3, -7, -12, -13, -14, -15, -16] : List Int32).getD (c - 40) 0 else ([0, -143, -145, -142, -147, -21, -22, -160, -162, -161, -18, -17, -19, 1] : List Int32).getD c 0
/-- where the values lie -/
def pwN (k : Nat) : Nat := ([1, 2, 6, 11, 12, 13, 14, 15] : List Nat).getD k 0
/-- a Code at v, its steps at sl, its stack at kl -/
def Cd (h : KH) (v sl kl : Nat) : Prop := (kkind v = 1 ∧ kR h v 0 = sl ∧ kR h v 1 = kl) ∧ (kkind sl = 20 ∧ klen sl = 1600 ∧ sl < 999999) ∧ (kkind kl = 20 ∧ klen kl = 64 ∧ kl < 999999) ∧ v ≠ kl ∧ sl ≠ kl
theorem Cd.same {h h' : KH} {v sl kl : Nat} (x : Cd h v sl kl) (hr : ∀ l i, kR h' l i = kR h l i) : Cd h' v sl kl := by
  unfold Cd
  rw [hr, hr]
  exact x
/-- the pile as the stack holds it -/
def Pl (h : KH) (kl : Nat) : List Int → Prop
  | [] => True
  | v :: r => (kI h kl r.length).toInt = v ∧ Pl h kl r
theorem Pl.set {h : KH} {kl : Nat} {x : Int32} {l i : Nat} : ∀ {r : List Int}, Pl h kl r → (l ≠ kl ∨ r.length ≤ i) → Pl (ksI h l i x) kl r
  | [], _, _ => trivial
  | v :: r, hp, hl => by
    refine ⟨?_, Pl.set hp.2 ?_⟩
    · rw [kI_sI, if_neg (fun y => hl.elim (fun z => z y.1.symm) (fun z => by simp only [List.length_cons] at z; omega))]
      exact hp.1
    · rcases hl with hl | hl
      · exact Or.inl hl
      · right
        simp only [List.length_cons] at hl
        omega
theorem i32_of {a : Int32} {n : Nat} (h : a.toInt = n) (hn : n < 2147483648) : a = Int32.ofNat n := by
  rw [← Int32.toInt_inj, h, n32_toInt hn]
theorem i32_lt {a b : Int32} {x y : Int} (ha : a.toInt = x) (hb : b.toInt = y) : a < b ↔ x < y := by rw [Int32.lt_iff_toInt_lt, ha, hb]
theorem i32_le {a b : Int32} {x y : Int} (ha : a.toInt = x) (hb : b.toInt = y) : a ≤ b ↔ x ≤ y := by rw [Int32.le_iff_toInt_le, ha, hb]
theorem i32_eq {a b : Int32} {x y : Int} (ha : a.toInt = x) (hb : b.toInt = y) : a = b ↔ x = y := by rw [← Int32.toInt_inj, ha, hb]
theorem mul_b {x y : Int} (hx : -1000000 ≤ x ∧ x ≤ 1000000) (hy : -1000000 ≤ y ∧ y ≤ 1000000) : -1000000000000 ≤ x * y ∧ x * y ≤ 1000000000000 := by
  have h : (x * y).natAbs = x.natAbs * y.natAbs := Int.natAbs_mul x y
  have h2 : x.natAbs * y.natAbs ≤ 1000000 * 1000000 := Nat.mul_le_mul (by omega) (by omega)
  rw [← h] at h2
  omega
theorem x_sr135 (h : KH) {v : Int64} {x : Int} (hv : v.toInt = x) : ∃ z, f_X1_signResult_b135 h v = some z ∧ z.toInt = rclip x := by
  have a1 : (1000000 : Int64).toInt = 1000000 := by decide
  have a2 : (-1000000 : Int64).toInt = -1000000 := by decide
  unfold f_X1_signResult_b135 f_J9_min_f86c9 f_J9_max_f86c9 rclip
  by_cases h1 : 1000000 < x
  · rw [if_neg (by rw [lgc_gt, a1, hv]; omega), kb_s, if_pos (by rw [lgc_lt, a2, a1]; decide), kb_s, if_pos h1]
    exact ⟨_, rfl, by decide⟩
  · rw [if_neg h1]
    have e : (if 0 < lg_cmp 1000000 v then some v else some (1000000 : Int64)) = some v := by
      by_cases y : x = 1000000
      · rw [if_neg (by rw [lgc_gt, a1, hv]; omega)]
        congr 1
        rw [← Int64.toInt_inj, hv, a1, y]
      · rw [if_pos (by rw [lgc_gt, a1, hv]; omega)]
    rw [e, kb_s]
    by_cases h2 : x < -1000000
    · rw [if_neg (by rw [lgc_lt, a2, hv]; omega), kb_s, if_pos h2]
      exact ⟨_, rfl, by decide⟩
    · rw [if_neg h2]
      have e2 : (if lg_cmp (-1000000) v < 0 then some v else some (-1000000 : Int64)) = some v := by
        by_cases y : x = -1000000
        · rw [if_neg (by rw [lgc_lt, a2, hv]; omega)]
          congr 1
          rw [← Int64.toInt_inj, hv, a2, y]
        · rw [if_pos (by rw [lgc_lt, a2, hv]; omega)]
      rw [e2, kb_s]
      refine ⟨_, rfl, ?_⟩
      rw [Int64.toInt_toInt32, hv, Int.bmod_eq_of_le (by omega) (by omega)]
theorem x_need1 (h : KH) : f_X1_needOf h (csI 12) = some 1 := rfl
theorem x_need60 (h : KH) : f_X1_needOf h (csI 60) = some 1 := rfl
theorem x_need13 (h : KH) : f_X1_needOf h (csI 13) = some 0 := rfl
theorem x_need2_1 (h : KH) : f_X1_needOf h (csI 1) = some 2 := rfl
theorem x_need2_2 (h : KH) : f_X1_needOf h (csI 2) = some 2 := rfl
theorem x_need2_3 (h : KH) : f_X1_needOf h (csI 3) = some 2 := rfl
theorem x_need2_4 (h : KH) : f_X1_needOf h (csI 4) = some 2 := rfl
theorem x_need2_5 (h : KH) : f_X1_needOf h (csI 5) = some 2 := rfl
theorem x_need2_6 (h : KH) : f_X1_needOf h (csI 6) = some 2 := rfl
theorem x_need2_7 (h : KH) : f_X1_needOf h (csI 7) = some 2 := rfl
theorem x_need2_8 (h : KH) : f_X1_needOf h (csI 8) = some 2 := rfl
theorem x_need2_9 (h : KH) : f_X1_needOf h (csI 9) = some 2 := rfl
theorem x_need2_10 (h : KH) : f_X1_needOf h (csI 10) = some 2 := rfl
theorem x_need2_11 (h : KH) : f_X1_needOf h (csI 11) = some 2 := rfl
theorem x_need0_40 (h : KH) : f_X1_needOf h (csI 40) = some 0 := rfl
theorem x_need0_41 (h : KH) : f_X1_needOf h (csI 41) = some 0 := rfl
theorem x_need0_42 (h : KH) : f_X1_needOf h (csI 42) = some 0 := rfl
theorem x_need0_43 (h : KH) : f_X1_needOf h (csI 43) = some 0 := rfl
theorem x_need0_44 (h : KH) : f_X1_needOf h (csI 44) = some 0 := rfl
theorem x_need0_45 (h : KH) : f_X1_needOf h (csI 45) = some 0 := rfl
theorem x_need0_46 (h : KH) : f_X1_needOf h (csI 46) = some 0 := rfl
theorem x_need0_47 (h : KH) : f_X1_needOf h (csI 47) = some 0 := rfl
theorem n32_neg {n : Nat} (hn : n < 100000) {v : Int32} (hv : v < 0) : ¬ Int32.ofNat n = v := by
  intro e
  rw [← e] at hv
  exact n32_nn (by omega) hv
theorem x_needn (h : KH) {n : Nat} (hn : n ≤ 9999) : f_X1_needOf h (Int32.ofNat n) = some 0 := by
  unfold f_X1_needOf
  rw [if_neg (n32_neg (v := -22) (by omega) (by decide)), if_neg (n32_neg (v := -21) (by omega) (by decide)), if_neg (n32_neg (v := -20) (by omega) (by decide)), if_neg (n32_neg (v := -19) (by omega) (by decide)), if_neg (n32_neg (v := -18) (by omega) (by decide)), if_neg (n32_neg (v := -17) (by omega) (by decide)), if_neg (n32_neg (v := -16) (by omega) (by decide)), if_neg (n32_neg (v := -15) (by omega) (by decide)), if_neg (n32_neg (v := -14) (by omega) (by decide)), if_neg (n32_neg (v := -13) (by omega) (by decide)), if_neg (n32_neg (v := -12) (by omega) (by decide)), if_neg (n32_neg (v := -11) (by omega) (by decide)), if_neg (n32_neg (v := -10) (by omega) (by decide)), if_neg (n32_neg (v := -9) (by omega) (by decide)), if_pos]
  rw [Int32.le_iff_toInt_le, n32_toInt (by omega)]
  have : (-100 : Int32).toInt = -100 := by decide
  rw [this]
  omega
theorem x_resn (h : KH) {n : Nat} (hn : n ≤ 9999) (a b : Int32) (vl : Nat) : f_X1_resultOf h (Int32.ofNat n) a b vl = some (Int32.ofNat n) := by
  unfold f_X1_resultOf
  rw [if_neg (n32_neg (v := -22) (by omega) (by decide)), if_neg (n32_neg (v := -21) (by omega) (by decide)), if_neg (n32_neg (v := -20) (by omega) (by decide)), if_neg (n32_neg (v := -19) (by omega) (by decide)), if_neg (n32_neg (v := -18) (by omega) (by decide)), if_neg (n32_neg (v := -17) (by omega) (by decide)), if_neg (n32_neg (v := -16) (by omega) (by decide)), if_neg (n32_neg (v := -15) (by omega) (by decide)), if_neg (n32_neg (v := -14) (by omega) (by decide)), if_neg (n32_neg (v := -13) (by omega) (by decide)), if_neg (n32_neg (v := -12) (by omega) (by decide)), if_neg (n32_neg (v := -11) (by omega) (by decide)), if_neg (n32_neg (v := -10) (by omega) (by decide)), if_neg (n32_neg (v := -9) (by omega) (by decide)), if_neg (n32_nn (by omega))]
theorem x_resp40 (h : KH) (a b : Int32) (vl : Nat) : f_X1_resultOf h (csI 40) a b vl = kb (f_X1_valueAt h vl ((-1 : Int32) - (-2))) (fun r => some r) := rfl
theorem x_resp41 (h : KH) (a b : Int32) (vl : Nat) : f_X1_resultOf h (csI 41) a b vl = kb (f_X1_valueAt h vl ((-1 : Int32) - (-3))) (fun r => some r) := rfl
theorem x_resp42 (h : KH) (a b : Int32) (vl : Nat) : f_X1_resultOf h (csI 42) a b vl = kb (f_X1_valueAt h vl ((-1 : Int32) - (-7))) (fun r => some r) := rfl
theorem x_resp43 (h : KH) (a b : Int32) (vl : Nat) : f_X1_resultOf h (csI 43) a b vl = kb (f_X1_valueAt h vl ((-1 : Int32) - (-12))) (fun r => some r) := rfl
theorem x_resp44 (h : KH) (a b : Int32) (vl : Nat) : f_X1_resultOf h (csI 44) a b vl = kb (f_X1_valueAt h vl ((-1 : Int32) - (-13))) (fun r => some r) := rfl
theorem x_resp45 (h : KH) (a b : Int32) (vl : Nat) : f_X1_resultOf h (csI 45) a b vl = kb (f_X1_valueAt h vl ((-1 : Int32) - (-14))) (fun r => some r) := rfl
theorem x_resp46 (h : KH) (a b : Int32) (vl : Nat) : f_X1_resultOf h (csI 46) a b vl = kb (f_X1_valueAt h vl ((-1 : Int32) - (-15))) (fun r => some r) := rfl
theorem x_resp47 (h : KH) (a b : Int32) (vl : Nat) : f_X1_resultOf h (csI 47) a b vl = kb (f_X1_valueAt h vl ((-1 : Int32) - (-16))) (fun r => some r) := rfl
theorem x_res13 (h : KH) (a b : Int32) (vl : Nat) : f_X1_resultOf h (csI 13) a b vl = some 1 := rfl
theorem x_valueAt (h : KH) {vl k : Nat} (hk : kkind vl = 20) (hl : klen vl = 33) (hn : k < 33) : f_X1_valueAt h vl (Int32.ofNat k) = some (kI h vl k) := by
  unfold f_X1_valueAt
  rw [if_neg (n32_nn (by omega)), if_pos hk, hl, if_neg (by rw [n32_le (by omega) (by omega)]; omega), if_neg (by rw [n32_cl (by omega)]; exact fun z => z.elim (n32_nn (by omega)) (by omega)), n32_cl (by omega)]
theorem x_resp (h : KH) {c : Nat} (hc : 40 ≤ c ∧ c < 48) (a b : Int32) {vl : Nat} (hk : kkind vl = 20) (hl : klen vl = 33) : f_X1_resultOf h (csI c) a b vl = some (kI h vl (pwN (c - 40))) := by
  have e : c = 40 ∨ c = 41 ∨ c = 42 ∨ c = 43 ∨ c = 44 ∨ c = 45 ∨ c = 46 ∨ c = 47 := by omega
  have key : ∀ (s : Int32) (k : Nat), k < 33 → (-1 : Int32) - s = Int32.ofNat k → kb (f_X1_valueAt h vl ((-1 : Int32) - s)) (fun r => some r) = some (kI h vl k) := fun s k k33 e => by rw [e, x_valueAt h hk hl k33, kb_s]
  rcases e with rfl | rfl | rfl | rfl | rfl | rfl | rfl | rfl
  · rw [x_resp40]
    exact key (-2) 1 (by omega) (by decide)
  · rw [x_resp41]
    exact key (-3) 2 (by omega) (by decide)
  · rw [x_resp42]
    exact key (-7) 6 (by omega) (by decide)
  · rw [x_resp43]
    exact key (-12) 11 (by omega) (by decide)
  · rw [x_resp44]
    exact key (-13) 12 (by omega) (by decide)
  · rw [x_resp45]
    exact key (-14) 13 (by omega) (by decide)
  · rw [x_resp46]
    exact key (-15) 14 (by omega) (by decide)
  · rw [x_resp47]
    exact key (-16) 15 (by omega) (by decide)
theorem x_res60 (h : KH) (a b : Int32) (vl : Nat) : f_X1_resultOf h (csI 60) a b vl = if a < 0 then some (0 : Int32) else if (6 : Int32) ≤ a then some (0 : Int32) else kb (f_X1_valueAt h vl ((27 : Int32) + a)) (fun r => some r) := rfl
theorem x_res12 (h : KH) (a b : Int32) (vl : Nat) : f_X1_resultOf h (csI 12) a b vl = some ((1 : Int32) - a) := rfl
theorem x_ress1 (h : KH) (a b : Int32) (vl : Nat) : f_X1_resultOf h (csI 1) a b vl = kb (f_X1_signResult h (43 : Int32) a b) (fun r => some r) := rfl
theorem x_ress2 (h : KH) (a b : Int32) (vl : Nat) : f_X1_resultOf h (csI 2) a b vl = kb (f_X1_signResult h (45 : Int32) a b) (fun r => some r) := rfl
theorem x_ress3 (h : KH) (a b : Int32) (vl : Nat) : f_X1_resultOf h (csI 3) a b vl = kb (f_X1_signResult h (42 : Int32) a b) (fun r => some r) := rfl
theorem x_ress4 (h : KH) (a b : Int32) (vl : Nat) : f_X1_resultOf h (csI 4) a b vl = kb (f_X1_signResult h (47 : Int32) a b) (fun r => some r) := rfl
theorem x_ress7 (h : KH) (a b : Int32) (vl : Nat) : f_X1_resultOf h (csI 7) a b vl = kb (f_X1_signResult h (60 : Int32) a b) (fun r => some r) := rfl
theorem x_ress8 (h : KH) (a b : Int32) (vl : Nat) : f_X1_resultOf h (csI 8) a b vl = kb (f_X1_signResult h (62 : Int32) a b) (fun r => some r) := rfl
theorem x_ress9 (h : KH) (a b : Int32) (vl : Nat) : f_X1_resultOf h (csI 9) a b vl = kb (f_X1_signResult h (61 : Int32) a b) (fun r => some r) := rfl
theorem x_sg1 (h : KH) (a b : Int32) : f_X1_signResult h 43 a b = f_X1_signResult_b135 h (a.toInt64 + b.toInt64) := rfl
theorem x_sg2 (h : KH) (a b : Int32) : f_X1_signResult h 45 a b = f_X1_signResult_b135 h (a.toInt64 - b.toInt64) := rfl
theorem x_sg3 (h : KH) (a b : Int32) : f_X1_signResult h 42 a b = f_X1_signResult_b135 h (a.toInt64 * b.toInt64) := rfl
theorem x_sg4 (h : KH) (a b : Int32) : f_X1_signResult h 47 a b = if b = 0 then f_X1_signResult_b135 h 0 else kb (f_J9_floorDiv_7cf53 h a b) (fun r17 => f_X1_signResult_b135 h r17.toInt64) := rfl
theorem x_sg7 (h : KH) (a b : Int32) : f_X1_signResult h 60 a b = if b ≤ a then some (0 : Int32) else some (1 : Int32) := rfl
theorem x_sg8 (h : KH) (a b : Int32) : f_X1_signResult h 62 a b = if a ≤ b then some (0 : Int32) else some (1 : Int32) := rfl
theorem x_sg9 (h : KH) (a b : Int32) : f_X1_signResult h 61 a b = if a = b then some (1 : Int32) else some (0 : Int32) := rfl
theorem i32_nonneg (a : Int32) : 0 ≤ a ↔ a.toBitVec.msb = false := by
  rw [Int32.le_iff_toInt_le]
  show (0 : Int) ≤ a.toBitVec.toInt ↔ _
  rw [BitVec.toInt_eq_msb_cond]
  cases h : a.toBitVec.msb
  · simp
  · simp only [if_true]
    have := a.toBitVec.isLt
    constructor
    · intro y
      exact absurd y (by omega)
    · intro y
      cases y
theorem i32_xor (a b : Int32) : 0 ≤ (a ^^^ b) ↔ (a.toInt < 0 ↔ b.toInt < 0) := by
  rw [i32_nonneg, Int32.toBitVec_xor, BitVec.msb_xor]
  have ha := i32_nonneg a
  have hb := i32_nonneg b
  rw [Int32.le_iff_toInt_le] at ha hb
  have z0 : (0 : Int32).toInt = 0 := rfl
  rw [z0] at ha hb
  cases h1 : a.toBitVec.msb <;> cases h2 : b.toBitVec.msb <;> rw [h1] at ha <;> rw [h2] at hb <;> simp at ha hb ⊢ <;> omega
theorem x_floorDiv (h : KH) {a b : Int32} {x y : Int} (ha : a.toInt = x) (hb : b.toInt = y) (hx : -1000000 ≤ x ∧ x ≤ 1000000) (hy : -1000000 ≤ y ∧ y ≤ 1000000) (y0 : y ≠ 0) : ∃ z, f_J9_floorDiv_7cf53 h a b = some z ∧ z.toInt = rdiv x y := by
  have b0 : ¬ b = 0 := fun e => y0 (by rw [← hb, e]; rfl)
  have t := tdiv_b (b := y) hx
  have hq : (a / b).toInt = x.tdiv y := by rw [Int32.toInt_div, ha, hb, Int.bmod_eq_of_le (by omega) (by omega)]
  have em : (a / b * b = a) ↔ x.tmod y = 0 := by
    rw [← Int32.toInt_inj, Int32.toInt_mul, hq, ha, hb]
    have e1 := Int.mul_tdiv_add_tmod x y
    rw [Int.mul_comm] at e1
    have hm : (x.tmod y).natAbs ≤ x.natAbs := by
      rw [Int.natAbs_tmod]
      exact Nat.mod_le _ _
    rw [Int.bmod_eq_of_le (by omega) (by omega)]
    omega
  unfold f_J9_floorDiv_7cf53 rdiv
  rw [if_neg b0, kl_e, if_neg y0]
  by_cases s : x < 0 ↔ y < 0
  · rw [if_pos (by rw [i32_xor, ha, hb]; exact s), if_pos s]
    refine ⟨_, rfl, ?_⟩
    by_cases m : x.tmod y = 0
    · rw [if_pos m, hq]
    · rw [if_neg m, hq]
  · rw [if_neg (by rw [i32_xor, ha, hb]; exact s), if_neg s]
    by_cases m : x.tmod y = 0
    · rw [if_pos (em.mpr m), if_pos m]
      exact ⟨_, rfl, hq⟩
    · rw [if_neg (fun e => m (em.mp e)), if_neg m]
      refine ⟨_, rfl, ?_⟩
      have o1 : (1 : Int32).toInt = 1 := rfl
      rw [Int32.toInt_sub, hq, o1, Int.bmod_eq_of_le (by omega) (by omega)]
/-- a step of two: numbers -/
theorem x_bin (h : KH) {c : Nat} (hc : 1 ≤ c ∧ c ≤ 9) {a b : Int32} {x y : Int} (ha : a.toInt = x) (hb : b.toInt = y) (hx : -1000000 ≤ x ∧ x ≤ 1000000) (hy : -1000000 ≤ y ∧ y ≤ 1000000) (vl : Nat) : ∃ z, f_X1_resultOf h (csI c) a b vl = some z ∧ z.toInt = rjoin c x y := by
  have e : c = 1 ∨ c = 2 ∨ c = 3 ∨ c = 4 ∨ c = 5 ∨ c = 6 ∨ c = 7 ∨ c = 8 ∨ c = 9 := by omega
  have a64 : a.toInt64.toInt = x := by rw [Int32.toInt_toInt64, ha]
  have b64 : b.toInt64.toInt = y := by rw [Int32.toInt_toInt64, hb]
  have o1 : (1 : Int32).toInt = 1 := rfl
  have o0 : (0 : Int32).toInt = 0 := rfl
  have m := mul_b hx hy
  rcases e with rfl | rfl | rfl | rfl | rfl | rfl | rfl | rfl | rfl
  · obtain ⟨z, z1, z2⟩ := x_sr135 h (v := a.toInt64 + b.toInt64) (x := x + y) (by rw [Int64.toInt_add, a64, b64, Int.bmod_eq_of_le (by omega) (by omega)])
    exact ⟨z, by rw [x_ress1, x_sg1, z1, kb_s], by rw [rj1, z2]⟩
  · obtain ⟨z, z1, z2⟩ := x_sr135 h (v := a.toInt64 - b.toInt64) (x := x - y) (by rw [Int64.toInt_sub, a64, b64, Int.bmod_eq_of_le (by omega) (by omega)])
    exact ⟨z, by rw [x_ress2, x_sg2, z1, kb_s], by rw [rj2, z2]⟩
  · obtain ⟨z, z1, z2⟩ := x_sr135 h (v := a.toInt64 * b.toInt64) (x := x * y) (by rw [Int64.toInt_mul, a64, b64, Int.bmod_eq_of_le (by omega) (by omega)])
    exact ⟨z, by rw [x_ress3, x_sg3, z1, kb_s], by rw [rj3, z2]⟩
  · by_cases y0 : y = 0
    · obtain ⟨z, z1, z2⟩ := x_sr135 h (v := 0) (x := 0) rfl
      refine ⟨z, by rw [x_ress4, x_sg4, if_pos (by rw [← Int32.toInt_inj, hb, y0]; rfl), z1, kb_s], ?_⟩
      rw [rj4, z2, rdiv, if_pos y0]
      decide
    · obtain ⟨q, q1, q2⟩ := x_floorDiv h ha hb hx hy y0
      obtain ⟨z, z1, z2⟩ := x_sr135 h (v := q.toInt64) (x := rdiv x y) (by rw [Int32.toInt_toInt64, q2])
      refine ⟨z, by rw [x_ress4, x_sg4, if_neg (fun e => y0 (by rw [← hb, e]; rfl)), q1, kb_s, z1, kb_s], ?_⟩
      have r := rdiv_ok (b := y) hx
      rw [rj4, z2, rclip, if_neg (by omega), if_neg (by omega)]
  · have e : f_X1_resultOf h (csI 5) a b vl = kb (f_J9_min_7cf53 h a b) (fun r => some r) := rfl
    rw [e, rj5]
    unfold f_J9_min_7cf53
    by_cases z : y < x
    · rw [if_pos ((i32_lt hb ha).mpr z), if_neg (by omega)]
      exact ⟨b, rfl, hb⟩
    · rw [if_neg (fun w => z ((i32_lt hb ha).mp w))]
      refine ⟨a, rfl, ?_⟩
      by_cases w : x < y
      · rw [if_pos w, ha]
      · rw [if_neg w, ha]; omega
  · have e : f_X1_resultOf h (csI 6) a b vl = kb (f_J9_max_7cf53 h a b) (fun r => some r) := rfl
    rw [e, rj6]
    unfold f_J9_max_7cf53
    by_cases z : x < y
    · rw [if_pos ((i32_lt ha hb).mpr z), if_neg (by omega)]
      exact ⟨b, rfl, hb⟩
    · rw [if_neg (fun w => z ((i32_lt ha hb).mp w))]
      refine ⟨a, rfl, ?_⟩
      by_cases w : y < x
      · rw [if_pos w, ha]
      · rw [if_neg w, ha]; omega
  · rw [x_ress7, x_sg7, rj7]
    by_cases z : x < y
    · rw [if_neg (fun w => by have := (i32_le hb ha).mp w; omega), if_pos z]
      exact ⟨1, rfl, rfl⟩
    · rw [if_pos ((i32_le hb ha).mpr (by omega)), if_neg z]
      exact ⟨0, rfl, rfl⟩
  · rw [x_ress8, x_sg8, rj8]
    by_cases z : y < x
    · rw [if_neg (fun w => by have := (i32_le ha hb).mp w; omega), if_pos z]
      exact ⟨1, rfl, rfl⟩
    · rw [if_pos ((i32_le ha hb).mpr (by omega)), if_neg z]
      exact ⟨0, rfl, rfl⟩
  · rw [x_ress9, x_sg9, rj9]
    by_cases z : x = y
    · rw [if_pos ((i32_eq ha hb).mpr z), if_pos z]
      exact ⟨1, rfl, rfl⟩
    · rw [if_neg (fun w => z ((i32_eq ha hb).mp w)), if_neg z]
      exact ⟨0, rfl, rfl⟩
theorem i32_01 {a : Int32} {x : Int} (ha : a.toInt = x) (hx : x = 0 ∨ x = 1) : (a = 0 ∧ x = 0) ∨ (a = 1 ∧ x = 1) := by
  rcases hx with rfl | rfl
  · exact Or.inl ⟨by rw [← Int32.toInt_inj, ha]; rfl, rfl⟩
  · exact Or.inr ⟨by rw [← Int32.toInt_inj, ha]; rfl, rfl⟩
/-- a step of two: and, or -/
theorem x_bin2 (h : KH) {c : Nat} (hc : c = 10 ∨ c = 11) {a b : Int32} {x y : Int} (ha : a.toInt = x) (hb : b.toInt = y) (hx : x = 0 ∨ x = 1) (hy : y = 0 ∨ y = 1) (vl : Nat) : ∃ z, f_X1_resultOf h (csI c) a b vl = some z ∧ z.toInt = rjoin c x y := by
  have e1 : f_X1_resultOf h (csI 10) a b vl = some (a &&& b) := rfl
  have e2 : f_X1_resultOf h (csI 11) a b vl = some (a ||| b) := rfl
  rcases hc with rfl | rfl
  · refine ⟨_, e1, ?_⟩
    rcases i32_01 ha hx with ⟨rfl, rfl⟩ | ⟨rfl, rfl⟩ <;> rcases i32_01 hb hy with ⟨rfl, rfl⟩ | ⟨rfl, rfl⟩ <;> decide
  · refine ⟨_, e2, ?_⟩
    rcases i32_01 ha hx with ⟨rfl, rfl⟩ | ⟨rfl, rfl⟩ <;> rcases i32_01 hb hy with ⟨rfl, rfl⟩ | ⟨rfl, rfl⟩ <;> decide
