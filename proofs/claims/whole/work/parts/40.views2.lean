/-! test, mark -/
theorem m_heardOf {h : KH} (hr : kRefs h) {t : Nat} (ht : t < 6) : f_X12_heardOf h 173 (Int32.ofNat t) = some (kI h 207 (2 + 2 * t)) := by
  unfold f_X12_heardOf
  simp (disch := first | assumption | omega) only [if_true, if_false, kl_e, kb_s, false_or, or_false, n32_add, n32_mul, n32_sub, n32_div, n32_addl, n32_addr, n32_mull, n32_mulr, n32_subl, n32_subr, n32_divl, n32_lt, n32_le, n32_eq, n32_ltl, n32_ltr, n32_lel, n32_ler, n32_eql, n32_eqm, n32_cl, n32_nlt0, gor, gor1, gle, glt, gnlt, gne, Nat.reduceLT, Nat.reduceAdd, Nat.reduceMul, Nat.reduceSub, kk173, kk198, kk200, kk201, kk202, kk203, kk207, kn198, kn200, kn201, kn202, kn203, kn207, rf173_33, rf173_35, rf173_36, rf173_37, rf173_38, rf173_45]
theorem m_stateOf {h : KH} (hr : kRefs h) {t : Nat} (ht : t < 6) : f_X12_stateOf h 173 (Int32.ofNat t) = some (kI h 207 (2 + 2 * t + 1)) := by
  unfold f_X12_stateOf
  simp (disch := first | assumption | omega) only [if_true, if_false, kl_e, kb_s, false_or, or_false, n32_add, n32_mul, n32_sub, n32_div, n32_addl, n32_addr, n32_mull, n32_mulr, n32_subl, n32_subr, n32_divl, n32_lt, n32_le, n32_eq, n32_ltl, n32_ltr, n32_lel, n32_ler, n32_eql, n32_eqm, n32_cl, n32_nlt0, gor, gor1, gle, glt, gnlt, gne, Nat.reduceLT, Nat.reduceAdd, Nat.reduceMul, Nat.reduceSub, kk173, kk198, kk200, kk201, kk202, kk203, kk207, kn198, kn200, kn201, kn202, kn203, kn207, rf173_33, rf173_35, rf173_36, rf173_37, rf173_38, rf173_45]
theorem m_markOf {h : KH} (hr : kRefs h) {m c : Nat} (hm : m < 5) (hc : c < 2) : f_X12_markOf h 173 (Int32.ofNat m) (Int32.ofNat c) = some (kI h 207 (14 + 2 * m + c)) := by
  unfold f_X12_markOf
  simp (disch := first | assumption | omega) only [if_true, if_false, kl_e, kb_s, false_or, or_false, n32_add, n32_mul, n32_sub, n32_div, n32_addl, n32_addr, n32_mull, n32_mulr, n32_subl, n32_subr, n32_divl, n32_lt, n32_le, n32_eq, n32_ltl, n32_ltr, n32_lel, n32_ler, n32_eql, n32_eqm, n32_cl, n32_nlt0, gor, gor1, gle, glt, gnlt, gne, Nat.reduceLT, Nat.reduceAdd, Nat.reduceMul, Nat.reduceSub, kk173, kk198, kk200, kk201, kk202, kk203, kk207, kn198, kn200, kn201, kn202, kn203, kn207, rf173_33, rf173_35, rf173_36, rf173_37, rf173_38, rf173_45]
theorem c_test {h : KH} {c : Nat} (rc : RC h c) (s : RS h) (a b : Int32) : ∃ r, f_X11_test h 0 a b = some r ∧ f_X12_test h 173 a b = some r := by
  obtain ⟨hr, hc, h5, hm, hk, ht, -⟩ := id rc
  have c39 := hc.lt
  have c9 : c < 999999 := Nat.lt_trans hc.lt (by omega)
  unfold f_X11_test f_X12_test
  rw [if_pos kk0, if_pos kk173]
  have hkn := hm.2.1.1.2
  rcases n32_arg a (n := kN h 198 4) (by omega) with ⟨k, hk1, rfl⟩ | ha
  · have hk6 : k < 6 := Nat.lt_of_lt_of_le hk1 hkn
    rw [x_isTest_y rc hk1, kb_s, if_neg (by decide), m_isTest_y rc hk1, kb_s, if_neg (show ¬ ((1 : Int32) = 0) by decide)]
    obtain ⟨g1, g2⟩ := ht k hk1
    have e1 := (ct_kt hc).2.1
    have e2 := (ct_kt hc).2.2.2.2.1
    obtain ⟨e3, e4⟩ := ct_test hc hk6
    by_cases b0 : b = 0
    · subst b0
      refine ⟨kI h 201 (6 + k), ?_, ?_⟩
      · simp (disch := first | assumption | omega) only [if_true, if_false, kl_e, kb_s, false_or, or_false, n32_add, n32_mul, n32_sub, n32_div, n32_addl, n32_addr, n32_mull, n32_mulr, n32_subl, n32_subr, n32_divl, n32_lt, n32_le, n32_eq, n32_ltl, n32_ltr, n32_lel, n32_ler, n32_eql, n32_eqm, n32_cl, n32_nlt0, gor, gor1, gle, glt, gnlt, gne, Nat.reduceLT, Nat.reduceAdd, Nat.reduceMul, Nat.reduceSub, h5, ct_kk hc, (ct_r hr hc).2.1, e1, e2, ct_rt hr hc hk6, e3, e4, g2]
      · simp (disch := first | assumption | omega) only [if_true, if_false, kl_e, kb_s, false_or, or_false, n32_add, n32_mul, n32_sub, n32_div, n32_addl, n32_addr, n32_mull, n32_mulr, n32_subl, n32_subr, n32_divl, n32_lt, n32_le, n32_eq, n32_ltl, n32_ltr, n32_lel, n32_ler, n32_eql, n32_eqm, n32_cl, n32_nlt0, gor, gor1, gle, glt, gnlt, gne, Nat.reduceLT, Nat.reduceAdd, Nat.reduceMul, Nat.reduceSub, kk173, kk198, kk200, kk201, kk202, kk203, kk207, kn198, kn200, kn201, kn202, kn203, kn207, rf173_33, rf173_35, rf173_36, rf173_37, rf173_38, rf173_45]
    · by_cases b1 : b = 1
      · subst b1
        refine ⟨kI h 207 (2 + 2 * k), ?_, ?_⟩
        · rw [if_neg (by decide), if_pos rfl]
          simp (disch := first | assumption | omega) only [if_true, if_false, kl_e, kb_s, false_or, or_false, n32_add, n32_mul, n32_sub, n32_div, n32_addl, n32_addr, n32_mull, n32_mulr, n32_subl, n32_subr, n32_divl, n32_lt, n32_le, n32_eq, n32_ltl, n32_ltr, n32_lel, n32_ler, n32_eql, n32_eqm, n32_cl, n32_nlt0, gor, gor1, gle, glt, gnlt, gne, Nat.reduceLT, Nat.reduceAdd, Nat.reduceMul, Nat.reduceSub, kk0, kk1, kk2, kk3, kk4, kk5, kk6, kk7, kk8, kk9, kk10, kk11, kk12, kk64, kk65, kk66, kk67, kk68, kk69, kk70, kk71, kk72, kk73, kk74, kk155, kk156, kk157, kk158, kk159, kk160, kk161, kk162, kk163, kk164, kk165, kk166, kk167, kk168, kk169, kk170, kk171, kk172, kn2, kn5, kn6, kn7, kn9, kn65, kn66, kn67, kn69, kn70, kn71, kn73, kn74, kn156, kn157, kn159, kn160, kn161, kn163, kn164, kn165, kn166, kn167, kn168, kn169, kn170, kn171, kn172, rf0_0, rf0_1, rf0_2, rf0_3, rf0_4, rf0_7, rf0_8, rf0_9, rf0_10, rf0_11, rf0_12, rf0_15, rf0_17, rf1_0, rf3_0, rf3_1, rf4_0, rf4_1, rf8_0, rf8_1, rf10_0, rf11_0, rf11_1, rf64_3, rf64_4, rf64_5, rf68_3, rf68_4, rf68_5, rf72_0, rf72_1, rf155_0, rf155_1, rf155_2, rf158_3, rf158_4, rf158_5, rf162_0, rf162_1, rf162_2, rf162_4, rf162_5, rf162_6, rf162_7, (s.t hk6).2]
        · rw [if_neg (by decide), if_pos rfl, m_heardOf hr hk6, kb_s]
      · by_cases b2 : b = 2
        · subst b2
          refine ⟨kI h 207 (2 + 2 * k + 1), ?_, ?_⟩
          · rw [if_neg (by decide), if_neg (by decide), if_pos rfl]
            simp (disch := first | assumption | omega) only [if_true, if_false, kl_e, kb_s, false_or, or_false, n32_add, n32_mul, n32_sub, n32_div, n32_addl, n32_addr, n32_mull, n32_mulr, n32_subl, n32_subr, n32_divl, n32_lt, n32_le, n32_eq, n32_ltl, n32_ltr, n32_lel, n32_ler, n32_eql, n32_eqm, n32_cl, n32_nlt0, gor, gor1, gle, glt, gnlt, gne, Nat.reduceLT, Nat.reduceAdd, Nat.reduceMul, Nat.reduceSub, kk0, kk1, kk2, kk3, kk4, kk5, kk6, kk7, kk8, kk9, kk10, kk11, kk12, kk64, kk65, kk66, kk67, kk68, kk69, kk70, kk71, kk72, kk73, kk74, kk155, kk156, kk157, kk158, kk159, kk160, kk161, kk162, kk163, kk164, kk165, kk166, kk167, kk168, kk169, kk170, kk171, kk172, kn2, kn5, kn6, kn7, kn9, kn65, kn66, kn67, kn69, kn70, kn71, kn73, kn74, kn156, kn157, kn159, kn160, kn161, kn163, kn164, kn165, kn166, kn167, kn168, kn169, kn170, kn171, kn172, rf0_0, rf0_1, rf0_2, rf0_3, rf0_4, rf0_7, rf0_8, rf0_9, rf0_10, rf0_11, rf0_12, rf0_15, rf0_17, rf1_0, rf3_0, rf3_1, rf4_0, rf4_1, rf8_0, rf8_1, rf10_0, rf11_0, rf11_1, rf64_3, rf64_4, rf64_5, rf68_3, rf68_4, rf68_5, rf72_0, rf72_1, rf155_0, rf155_1, rf155_2, rf158_3, rf158_4, rf158_5, rf162_0, rf162_1, rf162_2, rf162_4, rf162_5, rf162_6, rf162_7, (s.a hk6).2]
          · rw [if_neg (by decide), if_neg (by decide), if_pos rfl, m_stateOf hr hk6, kb_s]
        · exact ⟨-1, by rw [if_neg b0, if_neg b1, if_neg b2], by rw [if_neg b0, if_neg b1, if_neg b2]⟩
  · exact ⟨-1, by rw [x_isTest_n rc ha, kb_s, if_pos rfl], by rw [m_isTest_n rc ha, kb_s, if_pos rfl]⟩
theorem c_mark {h : KH} {c : Nat} (rc : RC h c) (s : RS h) (a b : Int32) : ∃ r, f_X11_mark h 0 a b = some r ∧ f_X12_mark h 173 a b = some r := by
  obtain ⟨hr, hc, h5, hm, hk, ht, hma⟩ := id rc
  have c39 := hc.lt
  have c9 : c < 999999 := Nat.lt_trans hc.lt (by omega)
  have z0 : (0 : Int64).toInt = 0 := rfl
  have z1 : (1 : Int64).toInt = 1 := rfl
  have z2 : (2 : Int64).toInt = 2 := rfl
  have z3 : (3 : Int64).toInt = 3 := rfl
  have y3 : (3 : Int32).toInt = 3 := rfl
  unfold f_X11_mark f_X12_mark
  have hkn := hm.2.2.1.1.2
  rw [if_pos kk0, if_pos kk173, m_markMany hr, kb_s, hm.2.2.1.1.1]
  rcases n32_arg a (n := kN h 198 5) (by omega) with ⟨k, hk1, rfl⟩ | ha
  · have hk5 : k < 5 := Nat.lt_of_lt_of_le hk1 hkn
    rw [x_isMark_y rc hk1, kb_s, if_neg (by decide), isIn_cy h hk1 (by omega), kb_s, if_neg (show ¬ ((1 : Int32) = 0) by decide)]
    have e1 := (ct_kt hc).2.2.1
    have e2 := (ct_kt hc).2.2.2.2.2
    obtain ⟨e3, e4⟩ := ct_mark hc hk5
    rcases n32_arg b (n := 4) (by omega) with ⟨j, hj, rfl⟩ | hb
    · by_cases j2 : j < 2
      · refine ⟨kI h 202 (10 + 2 * k + j), ?_, ?_⟩
        · simp (disch := first | assumption | omega) only [if_true, if_false, kl_e, kb_s, false_or, or_false, n32_add, n32_mul, n32_sub, n32_div, n32_addl, n32_addr, n32_mull, n32_mulr, n32_subl, n32_subr, n32_divl, n32_lt, n32_le, n32_eq, n32_ltl, n32_ltr, n32_lel, n32_ler, n32_eql, n32_eqm, n32_cl, n32_nlt0, gor, gor1, gle, glt, gnlt, gne, Nat.reduceLT, Nat.reduceAdd, Nat.reduceMul, Nat.reduceSub, h5, ct_kk hc, (ct_r hr hc).2.2.1, e1, e2, ct_rm hr hc hk5, e3, e4, (hma k hk1 j j2).2]
        · rw [isIn_y h z0 z1 (by rw [n32_toInt (by omega)]; omega), kb_s, if_neg (by decide)]
          simp (disch := first | assumption | omega) only [if_true, if_false, kl_e, kb_s, false_or, or_false, n32_add, n32_mul, n32_sub, n32_div, n32_addl, n32_addr, n32_mull, n32_mulr, n32_subl, n32_subr, n32_divl, n32_lt, n32_le, n32_eq, n32_ltl, n32_ltr, n32_lel, n32_ler, n32_eql, n32_eqm, n32_cl, n32_nlt0, gor, gor1, gle, glt, gnlt, gne, Nat.reduceLT, Nat.reduceAdd, Nat.reduceMul, Nat.reduceSub, kk173, kk198, kk200, kk201, kk202, kk203, kk207, kn198, kn200, kn201, kn202, kn203, kn207, rf173_33, rf173_35, rf173_36, rf173_37, rf173_38, rf173_45]
      · have q := (s.l (i := k * 2 + j - 2) (by omega)).2
        have e5 : 14 + (k * 2 + j - 2) = 14 + 2 * k + (j - 2) := by omega
        rw [e5] at q
        refine ⟨kI h 207 (14 + 2 * k + (j - 2)), ?_, ?_⟩
        · simp (disch := first | assumption | omega) only [if_true, if_false, kl_e, kb_s, false_or, or_false, n32_add, n32_mul, n32_sub, n32_div, n32_addl, n32_addr, n32_mull, n32_mulr, n32_subl, n32_subr, n32_divl, n32_lt, n32_le, n32_eq, n32_ltl, n32_ltr, n32_lel, n32_ler, n32_eql, n32_eqm, n32_cl, n32_nlt0, gor, gor1, gle, glt, gnlt, gne, Nat.reduceLT, Nat.reduceAdd, Nat.reduceMul, Nat.reduceSub, kk0, kk1, kk2, kk3, kk4, kk5, kk6, kk7, kk8, kk9, kk10, kk11, kk12, kk64, kk65, kk66, kk67, kk68, kk69, kk70, kk71, kk72, kk73, kk74, kk155, kk156, kk157, kk158, kk159, kk160, kk161, kk162, kk163, kk164, kk165, kk166, kk167, kk168, kk169, kk170, kk171, kk172, kn2, kn5, kn6, kn7, kn9, kn65, kn66, kn67, kn69, kn70, kn71, kn73, kn74, kn156, kn157, kn159, kn160, kn161, kn163, kn164, kn165, kn166, kn167, kn168, kn169, kn170, kn171, kn172, rf0_0, rf0_1, rf0_2, rf0_3, rf0_4, rf0_7, rf0_8, rf0_9, rf0_10, rf0_11, rf0_12, rf0_15, rf0_17, rf1_0, rf3_0, rf3_1, rf4_0, rf4_1, rf8_0, rf8_1, rf10_0, rf11_0, rf11_1, rf64_3, rf64_4, rf64_5, rf68_3, rf68_4, rf68_5, rf72_0, rf72_1, rf155_0, rf155_1, rf155_2, rf158_3, rf158_4, rf158_5, rf162_0, rf162_1, rf162_2, rf162_4, rf162_5, rf162_6, rf162_7, q]
        · rw [isIn_n h z0 z1 (by rw [n32_toInt (by omega)]; omega), kb_s, if_pos rfl, isIn_y h z2 z3 (by rw [n32_toInt (by omega)]; omega), kb_s, if_neg (by decide), n32_subl (by omega), m_markOf hr hk5 (by omega), kb_s]
    · refine ⟨-1, ?_, ?_⟩
      · by_cases b0 : b < 0
        · rw [if_pos b0]
        · rw [if_neg b0, if_neg]
          rw [i0_lt] at b0
          rw [Int32.le_iff_toInt_le, y3]
          omega
      · rw [isIn_n h z0 z1 (by omega), kb_s, if_pos rfl, isIn_n h z2 z3 (by omega), kb_s, if_pos rfl]
  · exact ⟨-1, by rw [x_isMark_n rc ha, kb_s, if_pos rfl], by rw [isIn_cn h (by omega) ha, kb_s, if_pos rfl]⟩
