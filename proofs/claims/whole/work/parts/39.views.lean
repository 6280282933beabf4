/-! arguments in their ranges; the calls that only look: kind, test, mark, letter, has -/
def RC (h : KH) (c : Nat) : Prop := kRefs h ∧ ctc c ∧ kR h 0 5 = c ∧ Rmany h c ∧ Rkinds h c ∧ Rtests h c ∧ Rmarks h c
theorem rng_n {a : Int32} {n : Nat} (hn : n < 2147483648) (h : ¬ (0 ≤ a.toInt ∧ a.toInt < (n : Int))) (h0 : ¬ a < 0) : Int32.ofNat n ≤ a := by
  rw [i0_lt] at h0
  rw [Int32.le_iff_toInt_le, n32_toInt hn]
  omega
theorem m_kindMany {h : KH} (hr : kRefs h) : f_X12_kindMany h 173 = some (kI h 198 3) := by
  unfold f_X12_kindMany
  simp (disch := first | assumption | omega) only [if_true, if_false, kl_e, kb_s, false_or, or_false, n32_add, n32_mul, n32_sub, n32_div, n32_addl, n32_addr, n32_mull, n32_mulr, n32_subl, n32_subr, n32_divl, n32_lt, n32_le, n32_eq, n32_ltl, n32_ltr, n32_lel, n32_ler, n32_eql, n32_eqm, n32_cl, n32_nlt0, gor, gor1, gle, glt, gnlt, gne, Nat.reduceLT, Nat.reduceAdd, Nat.reduceMul, Nat.reduceSub, kk173, kk198, kk200, kk201, kk202, kk203, kk207, kn198, kn200, kn201, kn202, kn203, kn207, rf173_33, rf173_35, rf173_36, rf173_37, rf173_38, rf173_45]
theorem m_testMany {h : KH} (hr : kRefs h) : f_X12_testMany h 173 = some (kI h 198 4) := by
  unfold f_X12_testMany
  simp (disch := first | assumption | omega) only [if_true, if_false, kl_e, kb_s, false_or, or_false, n32_add, n32_mul, n32_sub, n32_div, n32_addl, n32_addr, n32_mull, n32_mulr, n32_subl, n32_subr, n32_divl, n32_lt, n32_le, n32_eq, n32_ltl, n32_ltr, n32_lel, n32_ler, n32_eql, n32_eqm, n32_cl, n32_nlt0, gor, gor1, gle, glt, gnlt, gne, Nat.reduceLT, Nat.reduceAdd, Nat.reduceMul, Nat.reduceSub, kk173, kk198, kk200, kk201, kk202, kk203, kk207, kn198, kn200, kn201, kn202, kn203, kn207, rf173_33, rf173_35, rf173_36, rf173_37, rf173_38, rf173_45]
theorem m_markMany {h : KH} (hr : kRefs h) : f_X12_markMany h 173 = some (kI h 198 5) := by
  unfold f_X12_markMany
  simp (disch := first | assumption | omega) only [if_true, if_false, kl_e, kb_s, false_or, or_false, n32_add, n32_mul, n32_sub, n32_div, n32_addl, n32_addr, n32_mull, n32_mulr, n32_subl, n32_subr, n32_divl, n32_lt, n32_le, n32_eq, n32_ltl, n32_ltr, n32_lel, n32_ler, n32_eql, n32_eqm, n32_cl, n32_nlt0, gor, gor1, gle, glt, gnlt, gne, Nat.reduceLT, Nat.reduceAdd, Nat.reduceMul, Nat.reduceSub, kk173, kk198, kk200, kk201, kk202, kk203, kk207, kn198, kn200, kn201, kn202, kn203, kn207, rf173_33, rf173_35, rf173_36, rf173_37, rf173_38, rf173_45]
/-- isIn of an int between 0 and one less than a count -/
theorem isIn_cnt (h : KH) (a : Int32) {n : Nat} (hn : n < 2147483648) : f_X12_isIn h a.toInt64 0 (Int32.ofNat n - (1 : Int32)).toInt64 = some (if 0 ≤ a.toInt ∧ a.toInt < (n : Int) then 1 else 0) := by
  have z0 : (0 : Int64).toInt = 0 := rfl
  rw [isIn_eq, Int32.toInt_toInt64, Int32.toInt_toInt64, n32_pred hn, z0]
  by_cases z : 0 ≤ a.toInt ∧ a.toInt < (n : Int)
  · rw [if_pos z, if_pos (by omega)]
  · rw [if_neg z, if_neg (by omega)]
theorem isIn_lit (h : KH) (a : Int32) {l m : Int64} {x y : Int} (hl : l.toInt = x) (hm : m.toInt = y) : f_X12_isIn h a.toInt64 l m = some (if x ≤ a.toInt ∧ a.toInt ≤ y then 1 else 0) := by
  rw [isIn_eq, Int32.toInt_toInt64, hl, hm]
theorem isIn_y (h : KH) {a : Int32} {l m : Int64} {x y : Int} (hl : l.toInt = x) (hm : m.toInt = y) (hp : x ≤ a.toInt ∧ a.toInt ≤ y) : f_X12_isIn h a.toInt64 l m = some 1 := by
  rw [isIn_lit h a hl hm, if_pos hp]
theorem isIn_n (h : KH) {a : Int32} {l m : Int64} {x y : Int} (hl : l.toInt = x) (hm : m.toInt = y) (hp : ¬ (x ≤ a.toInt ∧ a.toInt ≤ y)) : f_X12_isIn h a.toInt64 l m = some 0 := by
  rw [isIn_lit h a hl hm, if_neg hp]
theorem isIn_cy (h : KH) {k n : Nat} (hk : k < n) (hn : n < 2147483648) : f_X12_isIn h (Int32.ofNat k).toInt64 0 (Int32.ofNat n - (1 : Int32)).toInt64 = some 1 := by
  rw [isIn_cnt _ _ hn, if_pos]
  rw [n32_toInt (by omega)]
  omega
theorem isIn_cn (h : KH) {a : Int32} {n : Nat} (hn : n < 2147483648) (ha : ¬ (0 ≤ a.toInt ∧ a.toInt < (n : Int))) : f_X12_isIn h a.toInt64 0 (Int32.ofNat n - (1 : Int32)).toInt64 = some 0 := by
  rw [isIn_cnt _ _ hn, if_neg ha]
theorem x_isKind_y {h : KH} {c : Nat} (rc : RC h c) {k : Nat} (hk : k < kN h 198 3) : f_X11_isKind h 0 (Int32.ofNat k) = some 1 := by
  obtain ⟨hr, hc, h5, hm, -⟩ := rc
  have e := hm.1.2
  rw [hm.1.1.1] at e
  have hb := hm.1.1.2
  have c39 := hc.lt
  unfold f_X11_isKind
  simp (disch := first | assumption | omega) only [if_true, if_false, kl_e, kb_s, false_or, or_false, n32_add, n32_mul, n32_sub, n32_div, n32_addl, n32_addr, n32_mull, n32_mulr, n32_subl, n32_subr, n32_divl, n32_lt, n32_le, n32_eq, n32_ltl, n32_ltr, n32_lel, n32_ler, n32_eql, n32_eqm, n32_cl, n32_nlt0, gor, gor1, gle, glt, gnlt, gne, Nat.reduceLT, Nat.reduceAdd, Nat.reduceMul, Nat.reduceSub, kk0, h5, ct_kk hc, e]
theorem x_isKind_n {h : KH} {c : Nat} (rc : RC h c) {a : Int32} (hn : ¬ (0 ≤ a.toInt ∧ a.toInt < (kN h 198 3 : Int))) : f_X11_isKind h 0 a = some 0 := by
  obtain ⟨hr, hc, h5, hm, -⟩ := rc
  have e := hm.1.2
  rw [hm.1.1.1] at e
  have hb := hm.1.1.2
  have c39 := hc.lt
  unfold f_X11_isKind
  by_cases h0 : a < 0
  · rw [if_pos h0]
  · rw [if_neg h0]
    simp only [kk0, h5, ct_kk hc, e, if_true]
    rw [if_pos (show c < 999999 from Nat.lt_trans hc.lt (by omega)), if_pos (rng_n (by omega) hn h0)]
theorem x_isTest_y {h : KH} {c : Nat} (rc : RC h c) {k : Nat} (hk : k < kN h 198 4) : f_X11_isTest h 0 (Int32.ofNat k) = some 1 := by
  obtain ⟨hr, hc, h5, hm, -⟩ := rc
  have e := hm.2.1.2
  rw [hm.2.1.1.1] at e
  have hb := hm.2.1.1.2
  have c39 := hc.lt
  unfold f_X11_isTest
  simp (disch := first | assumption | omega) only [if_true, if_false, kl_e, kb_s, false_or, or_false, n32_add, n32_mul, n32_sub, n32_div, n32_addl, n32_addr, n32_mull, n32_mulr, n32_subl, n32_subr, n32_divl, n32_lt, n32_le, n32_eq, n32_ltl, n32_ltr, n32_lel, n32_ler, n32_eql, n32_eqm, n32_cl, n32_nlt0, gor, gor1, gle, glt, gnlt, gne, Nat.reduceLT, Nat.reduceAdd, Nat.reduceMul, Nat.reduceSub, kk0, h5, ct_kk hc, e]
theorem x_isTest_n {h : KH} {c : Nat} (rc : RC h c) {a : Int32} (hn : ¬ (0 ≤ a.toInt ∧ a.toInt < (kN h 198 4 : Int))) : f_X11_isTest h 0 a = some 0 := by
  obtain ⟨hr, hc, h5, hm, -⟩ := rc
  have e := hm.2.1.2
  rw [hm.2.1.1.1] at e
  have hb := hm.2.1.1.2
  have c39 := hc.lt
  unfold f_X11_isTest
  by_cases h0 : a < 0
  · rw [if_pos h0]
  · rw [if_neg h0]
    simp only [kk0, h5, ct_kk hc, e, if_true]
    rw [if_pos (show c < 999999 from Nat.lt_trans hc.lt (by omega)), if_pos (rng_n (by omega) hn h0)]
theorem x_isMark_y {h : KH} {c : Nat} (rc : RC h c) {k : Nat} (hk : k < kN h 198 5) : f_X11_isMark h 0 (Int32.ofNat k) = some 1 := by
  obtain ⟨hr, hc, h5, hm, -⟩ := rc
  have e := hm.2.2.1.2
  rw [hm.2.2.1.1.1] at e
  have hb := hm.2.2.1.1.2
  have c39 := hc.lt
  unfold f_X11_isMark
  simp (disch := first | assumption | omega) only [if_true, if_false, kl_e, kb_s, false_or, or_false, n32_add, n32_mul, n32_sub, n32_div, n32_addl, n32_addr, n32_mull, n32_mulr, n32_subl, n32_subr, n32_divl, n32_lt, n32_le, n32_eq, n32_ltl, n32_ltr, n32_lel, n32_ler, n32_eql, n32_eqm, n32_cl, n32_nlt0, gor, gor1, gle, glt, gnlt, gne, Nat.reduceLT, Nat.reduceAdd, Nat.reduceMul, Nat.reduceSub, kk0, h5, ct_kk hc, e]
theorem x_isMark_n {h : KH} {c : Nat} (rc : RC h c) {a : Int32} (hn : ¬ (0 ≤ a.toInt ∧ a.toInt < (kN h 198 5 : Int))) : f_X11_isMark h 0 a = some 0 := by
  obtain ⟨hr, hc, h5, hm, -⟩ := rc
  have e := hm.2.2.1.2
  rw [hm.2.2.1.1.1] at e
  have hb := hm.2.2.1.1.2
  have c39 := hc.lt
  unfold f_X11_isMark
  by_cases h0 : a < 0
  · rw [if_pos h0]
  · rw [if_neg h0]
    simp only [kk0, h5, ct_kk hc, e, if_true]
    rw [if_pos (show c < 999999 from Nat.lt_trans hc.lt (by omega)), if_pos (rng_n (by omega) hn h0)]
theorem m_isKind {h : KH} {c : Nat} (rc : RC h c) (a : Int32) : f_X12_isKind h 173 a = some (if 0 ≤ a.toInt ∧ a.toInt < (kN h 198 3 : Int) then 1 else 0) := by
  obtain ⟨hr, hc, h5, hm, -⟩ := rc
  have e := hm.1.1.1
  have hb := hm.1.1.2
  unfold f_X12_isKind
  rw [if_pos kk173, m_kindMany hr, kb_s, e, isIn_cnt _ _ (by omega), kb_s]
  by_cases z : 0 ≤ a.toInt ∧ a.toInt < (kN h 198 3 : Int)
  · rw [if_pos z, if_pos (Or.inr rfl)]
  · rw [if_neg z, if_pos (Or.inl rfl)]
theorem m_isKind_y {h : KH} {c : Nat} (rc : RC h c) {k : Nat} (hk : k < kN h 198 3) : f_X12_isKind h 173 (Int32.ofNat k) = some 1 := by
  have hb := rc.2.2.2.1.1.1.2
  rw [m_isKind rc, if_pos]
  rw [n32_toInt (by omega)]
  omega
theorem m_isKind_n {h : KH} {c : Nat} (rc : RC h c) {a : Int32} (hn : ¬ (0 ≤ a.toInt ∧ a.toInt < (kN h 198 3 : Int))) : f_X12_isKind h 173 a = some 0 := by
  rw [m_isKind rc, if_neg hn]
theorem m_isTest {h : KH} {c : Nat} (rc : RC h c) (a : Int32) : f_X12_isTest h 173 a = some (if 0 ≤ a.toInt ∧ a.toInt < (kN h 198 4 : Int) then 1 else 0) := by
  obtain ⟨hr, hc, h5, hm, -⟩ := rc
  have e := hm.2.1.1.1
  have hb := hm.2.1.1.2
  unfold f_X12_isTest
  rw [if_pos kk173, m_testMany hr, kb_s, e, isIn_cnt _ _ (by omega), kb_s]
  by_cases z : 0 ≤ a.toInt ∧ a.toInt < (kN h 198 4 : Int)
  · rw [if_pos z, if_pos (Or.inr rfl)]
  · rw [if_neg z, if_pos (Or.inl rfl)]
theorem m_isTest_y {h : KH} {c : Nat} (rc : RC h c) {k : Nat} (hk : k < kN h 198 4) : f_X12_isTest h 173 (Int32.ofNat k) = some 1 := by
  have hb := rc.2.2.2.1.2.1.1.2
  rw [m_isTest rc, if_pos]
  rw [n32_toInt (by omega)]
  omega
theorem m_isTest_n {h : KH} {c : Nat} (rc : RC h c) {a : Int32} (hn : ¬ (0 ≤ a.toInt ∧ a.toInt < (kN h 198 4 : Int))) : f_X12_isTest h 173 a = some 0 := by
  rw [m_isTest rc, if_neg hn]
theorem x_isBit (h : KH) (a : Int32) : f_X11_isBit h a = some (if 0 ≤ a.toInt ∧ a.toInt < (2 : Nat) then 1 else 0) := by
  unfold f_X11_isBit f_X11_isBit_b9
  have z1 : (1 : Int32).toInt = 1 := rfl
  have z0 : (0 : Int32).toInt = 0 := rfl
  by_cases a0 : a = 0
  · subst a0
    rfl
  · rw [if_neg a0]
    by_cases a1 : a = 1
    · subst a1
      rfl
    · rw [if_neg a1, if_neg]
      rw [← Int32.toInt_inj] at a0 a1
      omega
theorem n32_clt {k : Nat} (h : k < 2147483648) : (Int32.ofNat k).toInt = (k : Int) := n32_toInt h
theorem rgt {k n : Nat} (hk : k < n) (hn : n ≤ 2147483648) : 0 ≤ (Int32.ofNat k).toInt ∧ (Int32.ofNat k).toInt < (n : Int) := by
  rw [n32_toInt (by omega)]
  omega
/-- kind -/
theorem c_kind {h : KH} {c : Nat} (rc : RC h c) (a b : Int32) : ∃ r, f_X11_kind h 0 a b = some r ∧ f_X12_kind h 173 a b = some r := by
  obtain ⟨hr, hc, h5, hm, hk, -⟩ := id rc
  have c39 := hc.lt
  have c9 : c < 999999 := Nat.lt_trans hc.lt (by omega)
  have z3 : (3 : Int64).toInt = 3 := rfl
  have z0 : (0 : Int64).toInt = 0 := rfl
  unfold f_X11_kind f_X12_kind
  rw [if_pos kk0, if_pos kk173]
  rcases n32_arg a (n := kN h 198 3) (by have := hm.1.1.2; omega) with ⟨k, hk1, rfl⟩ | ha
  · have hk6 : k < 6 := Nat.lt_of_lt_of_le hk1 hm.1.1.2
    have hkn := hm.1.1.2
    rw [x_isKind_y rc hk1, kb_s, if_neg (by decide), m_isKind_y rc hk1, kb_s]
    rcases n32_arg b (n := 4) (by omega) with ⟨j, hj, rfl⟩ | hb
    · obtain ⟨g1, g2⟩ := hk k hk1 j hj
      have e1 := (ct_kt hc).1
      have e2 := (ct_kt hc).2.2.2.1
      obtain ⟨e3, e4⟩ := ct_kind hc hk6
      refine ⟨kI h 200 (24 + 4 * k + j), ?_, ?_⟩
      · simp (disch := first | assumption | omega) only [if_true, if_false, kl_e, kb_s, false_or, or_false, n32_add, n32_mul, n32_sub, n32_div, n32_addl, n32_addr, n32_mull, n32_mulr, n32_subl, n32_subr, n32_divl, n32_lt, n32_le, n32_eq, n32_ltl, n32_ltr, n32_lel, n32_ler, n32_eql, n32_eqm, n32_cl, n32_nlt0, gor, gor1, gle, glt, gnlt, gne, Nat.reduceLT, Nat.reduceAdd, Nat.reduceMul, Nat.reduceSub, h5, ct_kk hc, (ct_r hr hc).1, e1, e2, ct_rk hr hc hk6, e3, e4, g2]
      · rw [if_neg (by decide), isIn_y h z0 z3 (by rw [n32_toInt (by omega)]; omega), kb_s, if_neg (by decide)]
        simp (disch := first | assumption | omega) only [if_true, if_false, kl_e, kb_s, false_or, or_false, n32_add, n32_mul, n32_sub, n32_div, n32_addl, n32_addr, n32_mull, n32_mulr, n32_subl, n32_subr, n32_divl, n32_lt, n32_le, n32_eq, n32_ltl, n32_ltr, n32_lel, n32_ler, n32_eql, n32_eqm, n32_cl, n32_nlt0, gor, gor1, gle, glt, gnlt, gne, Nat.reduceLT, Nat.reduceAdd, Nat.reduceMul, Nat.reduceSub, kk173, kk198, kk200, kk201, kk202, kk203, kk207, kn198, kn200, kn201, kn202, kn203, kn207, rf173_33, rf173_35, rf173_36, rf173_37, rf173_38, rf173_45]
    · refine ⟨-1, ?_, ?_⟩
      · by_cases b0 : b < 0
        · rw [if_pos b0]
        · rw [if_neg b0, if_pos]
          rw [i0_lt] at b0
          have z : (3 : Int32).toInt = 3 := rfl
          rw [Int32.lt_iff_toInt_lt, z]
          omega
      · rw [if_neg (by decide), isIn_n h z0 z3 (by omega), kb_s, if_pos rfl]
  · exact ⟨-1, by rw [x_isKind_n rc ha, kb_s, if_pos rfl], by rw [m_isKind_n rc ha, kb_s, if_pos rfl]⟩
