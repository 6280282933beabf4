/-! the model's run of a QUESTION's codes -/
theorem rclip_id {v : Int} (h : -1000000 ≤ v ∧ v ≤ 1000000) : rclip v = v := by
  unfold rclip
  rw [if_neg (by omega), if_neg (by omega)]
theorem m_partQ {h g : KH} {c t : Nat} (rc : RC h c) (rg : kRefs g) (rs : RS h) (I : ∀ l i, 198 ≤ l → l ≤ 207 → kI g l i = kI h l i) (mr : MR h g (kN h 198 4)) (k44 : kI g 173 44 = 0) (ht : t < kN h 198 4) : ∀ p, pal false p → ∃ z, f_X12_qPartOf g 173 (Int32.ofNat p) (Int32.ofNat t) = some z ∧ z.toInt = pvQ h t p := by
  intro p hp
  obtain ⟨hr, hc, h5, hm, -, htt, -⟩ := id rc
  have n4 := hm.2.1.1.2
  obtain ⟨m1, m2, -⟩ := mr t ht
  have b1 := (htt t ht).1.2
  have a1 : kI g 201 (6 + t) = Int32.ofNat (kN h 201 (6 + t)) := (I _ _ (by omega) (by omega)).trans (htt t ht).1.1
  have a2 : kI g 207 (2 + 2 * t) = Int32.ofNat (tmM h t) := (I _ _ (by omega) (by omega)).trans (rs.t (show t < 6 by omega)).1.1
  have b2 : tmM h t ≤ 99 := (rs.t (show t < 6 by omega)).1.2
  have e : p = 2 ∨ p = 3 ∨ p = 5 ∨ p = 6 ∨ p = 7 := by
    rcases hp with z | z
    · exact absurd z.1 (by decide)
    · omega
  have d : ∀ i j : Nat, i < 100 → j < 100 → i ≠ j → ¬ (Int32.ofNat i = Int32.ofNat j) := fun i j hi hj hn e => hn ((n32_eq (by omega) (by omega)).mp e)
  unfold f_X12_qPartOf
  rcases e with rfl | rfl | rfl | rfl | rfl
  · rw [if_neg (show ¬ Int32.ofNat 2 = (0 : Int32) from d 2 0 (by omega) (by omega) (by omega)), if_neg (show ¬ Int32.ofNat 2 = (1 : Int32) from d 2 1 (by omega) (by omega) (by omega)), if_pos (show Int32.ofNat 2 = (2 : Int32) from rfl), if_pos kk173, rf173_36 rg, if_pos (show 201 < 999999 by omega), if_pos kk201, kn201, n32_addr, if_neg (by rw [n32_cl (by omega)]; exact fun z => z.elim (n32_nn (by omega)) (by omega)), n32_cl (by omega), a1, n32_toI64 (by omega)]
    exact ⟨_, rfl, n64_toInt (by omega)⟩
  · rw [if_neg (show ¬ Int32.ofNat 3 = (0 : Int32) from d 3 0 (by omega) (by omega) (by omega)), if_neg (show ¬ Int32.ofNat 3 = (1 : Int32) from d 3 1 (by omega) (by omega) (by omega)), if_neg (show ¬ Int32.ofNat 3 = (2 : Int32) from d 3 2 (by omega) (by omega) (by omega)), if_pos (show Int32.ofNat 3 = (3 : Int32) from rfl), if_pos kk173, k44, if_pos rfl, m_heardOf rg (by omega), kb_s, a2, n32_toI64 (by omega)]
    exact ⟨_, rfl, n64_toInt (by omega)⟩
  · rw [if_neg (show ¬ Int32.ofNat 5 = (0 : Int32) from d 5 0 (by omega) (by omega) (by omega)), if_neg (show ¬ Int32.ofNat 5 = (1 : Int32) from d 5 1 (by omega) (by omega) (by omega)), if_neg (show ¬ Int32.ofNat 5 = (2 : Int32) from d 5 2 (by omega) (by omega) (by omega)), if_neg (show ¬ Int32.ofNat 5 = (3 : Int32) from d 5 3 (by omega) (by omega) (by omega)), if_neg (show ¬ Int32.ofNat 5 = (4 : Int32) from d 5 4 (by omega) (by omega) (by omega)), if_pos (show Int32.ofNat 5 = (5 : Int32) from rfl), n32_toI64 (by omega)]
    exact ⟨_, rfl, n64_toInt (by omega)⟩
  · rw [if_neg (show ¬ Int32.ofNat 6 = (0 : Int32) from d 6 0 (by omega) (by omega) (by omega)), if_neg (show ¬ Int32.ofNat 6 = (1 : Int32) from d 6 1 (by omega) (by omega) (by omega)), if_neg (show ¬ Int32.ofNat 6 = (2 : Int32) from d 6 2 (by omega) (by omega) (by omega)), if_neg (show ¬ Int32.ofNat 6 = (3 : Int32) from d 6 3 (by omega) (by omega) (by omega)), if_neg (show ¬ Int32.ofNat 6 = (4 : Int32) from d 6 4 (by omega) (by omega) (by omega)), if_neg (show ¬ Int32.ofNat 6 = (5 : Int32) from d 6 5 (by omega) (by omega) (by omega)), if_pos (show Int32.ofNat 6 = (6 : Int32) from rfl), if_pos kk173, rf173_52 rg, if_pos (show 211 < 999999 by omega), if_pos kk211, kn211, if_neg (by rw [n32_cl (by omega)]; exact fun z => z.elim (n32_nn (by omega)) (by omega)), n32_cl (by omega)]
    exact ⟨_, rfl, m1⟩
  · rw [if_neg (show ¬ Int32.ofNat 7 = (0 : Int32) from d 7 0 (by omega) (by omega) (by omega)), if_neg (show ¬ Int32.ofNat 7 = (1 : Int32) from d 7 1 (by omega) (by omega) (by omega)), if_neg (show ¬ Int32.ofNat 7 = (2 : Int32) from d 7 2 (by omega) (by omega) (by omega)), if_neg (show ¬ Int32.ofNat 7 = (3 : Int32) from d 7 3 (by omega) (by omega) (by omega)), if_neg (show ¬ Int32.ofNat 7 = (4 : Int32) from d 7 4 (by omega) (by omega) (by omega)), if_neg (show ¬ Int32.ofNat 7 = (5 : Int32) from d 7 5 (by omega) (by omega) (by omega)), if_neg (show ¬ Int32.ofNat 7 = (6 : Int32) from d 7 6 (by omega) (by omega) (by omega)), if_pos kk173, rf173_53 rg, if_pos (show 212 < 999999 by omega), if_pos kk212, kn212, if_neg (by rw [n32_cl (by omega)]; exact fun z => z.elim (n32_nn (by omega)) (by omega)), n32_cl (by omega), m2, n32_toI64 (by unfold sqN; split <;> omega)]
    exact ⟨_, rfl, n64_toInt (by unfold sqN; split <;> omega)⟩
theorem m_ofQ {h g : KH} {c t : Nat} (rc : RC h c) (rr : Rrule h c) (rg : kRefs g) (rs : RS h) (I : ∀ l i, 198 ≤ l → l ≤ 207 → kI g l i = kI h l i) (mr : MR h g (kN h 198 4)) (ht : t < kN h 198 4) {v : Int64} {a : Int} (hv : v.toInt = a) (ha : -1000000 ≤ a ∧ a ≤ 1000000) (x : Int32) : ∃ z, f_X12_qOf g 173 x v (Int32.ofNat t) = some z ∧ z.toInt = yvQ h t a := by
  obtain ⟨hr, hc, h5, hm, -, htt, -⟩ := id rc
  have n4 := hm.2.1.1.2
  have n3 := hm.1.1.2
  have e3 : kI g 198 3 = Int32.ofNat (kN h 198 3) := (I _ _ (by omega) (by omega)).trans hm.1.1.1
  have em : (Int32.ofNat (kN h 198 3) - (1 : Int32)).toInt64.toInt = (kN h 198 3 : Int) - 1 := by rw [Int32.toInt_toInt64, n32_pred (by omega)]
  have z0 : (0 : Int64).toInt = 0 := rfl
  unfold f_X12_qOf
  rw [if_pos kk173, m_kindMany rg, kb_s, e3, isIn_eq, kb_s, z0, em, hv]
  by_cases y : 0 ≤ a ∧ a ≤ (kN h 198 3 : Int) - 1
  · rw [if_pos y, if_neg (by decide)]
    obtain ⟨k, hk⟩ : ∃ k : Nat, a = (k : Int) := ⟨a.toNat, by omega⟩
    have kl : k < kN h 198 3 := by omega
    have ev : v.toInt32 = Int32.ofNat k := by
      rw [← Int32.toInt_inj, Int64.toInt_toInt32, hv, n32_toInt (by omega), Int.bmod_eq_of_le (by omega) (by omega), hk]
    have bT : tmM h t ≤ 99 := (rs.t (show t < 6 by omega)).1.2
    have y0 := ybN_lt rc rr (k := k) (t := t) (tr := 0) (x := tmM h t) kl ht (by omega) bT
    have y1 := ybN_lt rc rr (k := k) (t := t) (tr := 1) (x := tmM h t) kl ht (by omega) bT
    rw [rf173_51 rg, if_pos (show 210 < 999999 by omega), if_pos kk210, kn210, ev, n32_mulr, n32_add, if_neg (by rw [n32_cl (by omega)]; exact fun z => z.elim (n32_nn (by omega)) (by omega)), n32_cl (by omega), (mr t ht).2.2 k kl, n32_toI64 (by omega)]
    refine ⟨_, rfl, ?_⟩
    unfold yvQ
    rw [if_pos (by omega), n64_toInt (by omega), hk, Int.toNat_natCast]
  · rw [if_neg y, if_pos rfl]
    refine ⟨_, rfl, ?_⟩
    unfold yvQ
    rw [if_neg (by omega)]
    rfl
theorem m_qstep {g : KH} (hr : kRefs g) {n i cc t : Nat} (hn : kI g 173 86 = Int32.ofNat n) (n16 : n ≤ 1600) (hi : i < n) (hcd : kI g 239 i = Int32.ofNat cc) {pv : Nat → Int} {yv : Int → Int} {ts ts' : List Nat} {vs : List Int} (ht : rty false cc ts = some ts') (l60 : ts'.length ≤ 60) (ok : vok ts vs) (hq : Qp g vs)
    (hpb : ∀ k, pal false k → -1000000 ≤ pv k ∧ pv k ≤ 1000000) (hyb : ∀ n, -1000000 ≤ yv n ∧ yv n ≤ 1000000) (hp : ∀ p, pal false p → ∃ z, f_X12_qPartOf g 173 (Int32.ofNat p) (Int32.ofNat t) = some z ∧ z.toInt = pv p) (hy : ∀ (v : Int64) (a : Int) (x : Int32), v.toInt = a → (-1000000 ≤ a ∧ a ≤ 1000000) → ∃ z, f_X12_qOf g 173 x v (Int32.ofNat t) = some z ∧ z.toInt = yv a) :
    ∃ g', f_X12_qTold_l7 173 (Int32.ofNat t) (Int32.ofNat i, g) = some (.inl (Int32.ofNat (i + 1), g')) ∧ kfp Wq g g' ∧ Qp g' (rstep pv yv cc vs) := by
  have len := vok_len ts vs ok
  have b162 : ∀ g', f_X12_qTold_b162 g' 173 (Int32.ofNat t) (Int32.ofNat i) = some (.inl (Int32.ofNat (i + 1), g')) := fun g' => by
    unfold f_X12_qTold_b162
    rw [kl_e, n32_addl]
  have d : ∀ i j : Nat, i < 100 → j < 100 → i ≠ j → ¬ (Int32.ofNat i = Int32.ofNat j) := fun i j hi hj hn e => hn ((n32_eq (by omega) (by omega)).mp e)
  have cb : cc < 11000 := by
    rcases rty_cases ht with h | h | h | h | h | h | h | h <;> omega
  unfold f_X12_qTold_l7
  dsimp only
  rw [if_pos kk173, hn, if_neg (by rw [n32_le (by omega) (by omega)]; omega), rf173_85 hr, if_pos (show 239 < 999999 by omega), if_pos kk239, kn239, if_neg (by rw [n32_cl (by omega)]; exact fun z => z.elim (n32_nn (by omega)) (by omega)), n32_cl (show i < 2147483648 by omega), hcd, kl_e]
  rcases rty_cases ht with ⟨h1, h2, rfl⟩ | ⟨rfl, h2, r, rfl, rfl⟩ | ⟨h1, h2, h3, rfl⟩ | ⟨rfl, rfl⟩ | ⟨rfl, r, rfl, rfl⟩ | ⟨h1, h2, r, rfl, rfl⟩ | ⟨h1, h2, r, rfl, rfl⟩ | ⟨h1, r, rfl, rfl⟩
  · have er : rstep pv yv cc vs = ((cc - 1000 : Nat) : Int) :: vs := if_pos h1
    simp only [List.length_cons] at l60
    obtain ⟨g', q1, q2, q3⟩ := m_qPuts hr hq.1 (by omega) rfl hq.2 (x := (Int32.ofNat cc - (1000 : Int32)).toInt64) (v := ((cc - 1000 : Nat) : Int)) (by rw [n32_subl (by omega), n32_toI64 (by omega), n64_toInt (by omega)])
    refine ⟨g', ?_, q2, by rw [er]; exact q3⟩
    rw [if_neg (by rw [n32_ltl (by omega) (by omega)]; omega), q1, kb_s, b162]
  · match vs, ok, hq with
    | a :: vs, ok, hq =>
      have ha : -1000000 ≤ a ∧ a ≤ 1000000 := ok.1
      obtain ⟨q1, q2, q3⟩ := hq
      simp only [List.length_cons] at l60 len q1 q2
      obtain ⟨z, z1, z2⟩ := hy (kL g 241 vs.length) a 0 q2 ha
      obtain ⟨z', z3, z4⟩ := m_qClip g z2
      rw [rclip_id (hyb a)] at z4
      refine ⟨ksL g 241 vs.length z', ?_, kfp.rf.sL _ (Or.inr rfl), ?_, ?_, q3.setL (Nat.le_refl _)⟩
      · rw [if_pos (by decide), if_neg (by decide), rf173_91 hr, if_pos (show 241 < 999999 by omega), if_pos kk241, kn241, q1, n32_subl (by omega), show vs.length + 1 - 1 = vs.length by omega, if_neg (by rw [n32_cl (by omega)]; exact fun z => z.elim (n32_nn (by omega)) (by omega)), n32_cl (by omega), show Int32.ofNat 60 - (60 : Int32) = 0 from rfl, z1, kb_s, z3, kb_s, kl_e, b162]
      · exact q1
      · rw [kL_sL, if_pos ⟨rfl, rfl⟩]
        exact z4
  · have er : rstep pv yv cc vs = pv (cc - 40) :: vs := by
      unfold rstep
      rw [if_neg (by omega), if_neg (by omega), if_pos h1]
    simp only [List.length_cons] at l60
    have hpal : pal false (cc - 40) := by
      unfold pal
      rcases h3 with h3 | h3
      · exact absurd h3.1 (by decide)
      · exact Or.inr ⟨rfl, by omega, by omega⟩
    obtain ⟨z, z1, z2⟩ := hp (cc - 40) hpal
    obtain ⟨z', z3, z4⟩ := m_qClip g z2
    rw [rclip_id (hpb _ hpal)] at z4
    obtain ⟨g', q1, q2, q3⟩ := m_qPuts hr hq.1 (by omega) rfl hq.2 z4
    refine ⟨g', ?_, q2, by rw [er]; exact q3⟩
    rw [if_pos (by rw [n32_ltl (by omega) (by omega)]; omega), if_pos (by rw [n32_ltl (by omega) (by omega)]; omega), if_neg (by rw [n32_ltl (by omega) (by omega)]; omega), n32_subl (by omega), z1, kb_s, z3, kb_s, q1, kb_s, b162]
  · simp only [List.length_cons] at l60
    obtain ⟨g', q1, q2, q3⟩ := m_qPuts hr hq.1 (by omega) rfl hq.2 (x := 1) (v := 1) rfl
    refine ⟨g', ?_, q2, q3⟩
    rw [if_pos (by decide), if_pos (by decide), if_pos (by decide), if_pos (show Int32.ofNat 13 = (13 : Int32) from rfl), q1, kb_s, b162]
  · match vs, ok, hq with
    | a :: vs, ok, hq =>
      have ha : a = 0 ∨ a = 1 := ok.1
      obtain ⟨q1, q2, q3⟩ := hq
      simp only [List.length_cons] at l60 len q1 q2
      refine ⟨ksL g 241 vs.length ((1 : Int64) - kL g 241 vs.length), ?_, kfp.rf.sL _ (Or.inr rfl), ?_, ?_, q3.setL (Nat.le_refl _)⟩
      · rw [if_pos (by decide), if_pos (by decide), if_pos (by decide), if_neg (by decide), if_pos (show Int32.ofNat 12 = (12 : Int32) from rfl), rf173_91 hr, if_pos (show 241 < 999999 by omega), if_pos kk241, kn241, q1, n32_subl (by omega), show vs.length + 1 - 1 = vs.length by omega, if_neg (by rw [n32_cl (by omega)]; exact fun z => z.elim (n32_nn (by omega)) (by omega)), n32_cl (by omega), kl_e, b162]
      · exact q1
      · rw [kL_sL, if_pos ⟨rfl, rfl⟩]
        have o1 : (1 : Int64).toInt = 1 := rfl
        rw [Int64.toInt_sub, q2, o1, Int.bmod_eq_of_le (by omega) (by omega)]
  · match vs, ok, hq with
    | y :: x :: vs, ok, hq =>
      simp only [List.length_cons] at l60 len
      obtain ⟨g', q1, q2, q3⟩ := m_qJoins hr (c := cc) (by omega) hq (by omega) (Or.inl ⟨by omega, ok.2.1, ok.1⟩)
      have er : rstep pv yv cc (y :: x :: vs) = rjoin cc x y :: vs := by
        unfold rstep
        rw [if_neg (by omega), if_neg (by omega), if_neg (by omega), if_neg (by omega), if_neg (by omega)]
      refine ⟨g', ?_, q2, by rw [er]; exact q3⟩
      rw [if_pos (by rw [n32_ltl (by omega) (by omega)]; omega), if_pos (by rw [n32_ltl (by omega) (by omega)]; omega), if_pos (by rw [n32_ltl (by omega) (by omega)]; omega), if_neg (show ¬ Int32.ofNat cc = (13 : Int32) from d cc 13 (by omega) (by omega) (by omega)), if_neg (show ¬ Int32.ofNat cc = (12 : Int32) from d cc 12 (by omega) (by omega) (by omega)), q1, kb_s, b162]
  · match vs, ok, hq with
    | y :: x :: vs, ok, hq =>
      simp only [List.length_cons] at l60 len
      obtain ⟨g', q1, q2, q3⟩ := m_qJoins hr (c := cc) (by omega) hq (by omega) (Or.inl ⟨by omega, ok.2.1, ok.1⟩)
      have er : rstep pv yv cc (y :: x :: vs) = rjoin cc x y :: vs := by
        unfold rstep
        rw [if_neg (by omega), if_neg (by omega), if_neg (by omega), if_neg (by omega), if_neg (by omega)]
      refine ⟨g', ?_, q2, by rw [er]; exact q3⟩
      rw [if_pos (by rw [n32_ltl (by omega) (by omega)]; omega), if_pos (by rw [n32_ltl (by omega) (by omega)]; omega), if_pos (by rw [n32_ltl (by omega) (by omega)]; omega), if_neg (show ¬ Int32.ofNat cc = (13 : Int32) from d cc 13 (by omega) (by omega) (by omega)), if_neg (show ¬ Int32.ofNat cc = (12 : Int32) from d cc 12 (by omega) (by omega) (by omega)), q1, kb_s, b162]
  · match vs, ok, hq with
    | y :: x :: vs, ok, hq =>
      simp only [List.length_cons] at l60 len
      obtain ⟨g', q1, q2, q3⟩ := m_qJoins hr (c := cc) (by omega) hq (by omega) (Or.inr ⟨by omega, ok.2.1, ok.1⟩)
      have er : rstep pv yv cc (y :: x :: vs) = rjoin cc x y :: vs := by
        unfold rstep
        rw [if_neg (by omega), if_neg (by omega), if_neg (by omega), if_neg (by omega), if_neg (by omega)]
      refine ⟨g', ?_, q2, by rw [er]; exact q3⟩
      rw [if_pos (by rw [n32_ltl (by omega) (by omega)]; omega), if_pos (by rw [n32_ltl (by omega) (by omega)]; omega), if_pos (by rw [n32_ltl (by omega) (by omega)]; omega), if_neg (show ¬ Int32.ofNat cc = (13 : Int32) from d cc 13 (by omega) (by omega) (by omega)), if_neg (show ¬ Int32.ofNat cc = (12 : Int32) from d cc 12 (by omega) (by omega) (by omega)), q1, kb_s, b162]
