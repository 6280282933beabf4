/-! which tests it can be -/
def okR (h : KH) (t j : Nat) : Prop := ybN h (kN h 216 (4 * j)) t 1 (tmM h t) = kN h 216 (4 * j + 2) ∧ ybN h (kN h 216 (4 * j + 1)) t 0 (tmM h t) = kN h 216 (4 * j + 3)
def okT (h : KH) (t : Nat) : Prop := ∀ j, j < kN h 173 58 → okR h t j
theorem ans_row {h : KH} (ra : Rans h) {j : Nat} (hj : j < kN h 173 58) : (∀ i, i < 4 → kI h 170 (4 * j + i) = Int32.ofNat (kN h 216 (4 * j + i)) ∧ kI h 216 (4 * j + i) = Int32.ofNat (kN h 216 (4 * j + i))) ∧ kN h 216 (4 * j) < kN h 198 3 ∧ kN h 216 (4 * j + 1) < kN h 198 3 ∧ kN h 216 (4 * j + 2) < 2 ∧ kN h 216 (4 * j + 3) < 2 ∧ kN h 173 58 ≤ 16 := by
  obtain ⟨r, r16, e1, e2, f⟩ := ra
  have er : kN h 173 58 = r := by
    show (kI h 173 58).toNatClampNeg = r
    rw [e2, n32_cl (by omega)]
  rw [er] at hj
  have a := fun i (hi : i < 4) => f (4 * j + i) (by omega)
  have b0 := (a 0 (by omega)).2.2
  have b1 := (a 1 (by omega)).2.2
  have b2 := (a 2 (by omega)).2.2
  have b3 := (a 3 (by omega)).2.2
  unfold mxN at b0 b1 b2 b3
  rw [if_pos (by omega)] at b0 b1
  rw [if_neg (by omega)] at b2 b3
  exact ⟨fun i hi => ⟨(a i hi).2.1.trans (a i hi).1.1, (a i hi).1.1⟩, b0, b1, b2, b3, by omega⟩
theorem ans_many {h : KH} (ra : Rans h) : kI h 0 13 = Int32.ofNat (kN h 173 58) ∧ kI h 173 58 = Int32.ofNat (kN h 173 58) ∧ kN h 173 58 ≤ 16 := by
  obtain ⟨r, r16, e1, e2, f⟩ := ra
  have er : kN h 173 58 = r := by
    show (kI h 173 58).toNatClampNeg = r
    rw [e2, n32_cl (by omega)]
  rw [er]
  exact ⟨e1, e2, r16⟩
theorem x_explains {h q : KH} {c : Nat} (rc : RC h c) (rs : RS h) (rr : Rrule h c) (ra : Rans h) (sc : Scr h q c) {t : Nat} (ht : t < kN h 198 4) :
    ∃ r q', f_X11_explainsAnswers q 0 (Int32.ofNat t) = some (r, q') ∧ Scr h q' c ∧ ((r = 1 ∧ okT h t) ∨ (r = 0 ∧ ¬ okT h t)) := by
  obtain ⟨hr, hc, h5, hm, -⟩ := id rc
  have c39 := hc.lt
  have n4 := hm.2.1.1.2
  have n3 := hm.1.1.2
  have rq := hr.fp sc.1
  have rcq := rc.sc sc.1
  have rrq := rr.sc hc sc.1
  have tl : tmM h t ≤ 99 := (rs.t (t := t) (by omega)).1.2
  have t65 : kI q 65 t = Int32.ofNat (tmM h t) := by
    rw [sc.1.2.2.1 _ _ (by unfold Wscr; omega)]
    exact (rs.t (t := t) (by omega)).2.trans (rs.t (t := t) (by omega)).1.1
  obtain ⟨q', e, f, y⟩ := x_yieldBits rcq rrq sc.2.1 (t := t) (x := tmM h t) (by rw [n4_sc sc.1]; exact ht) tl
  have f' : kfp Wscr q q' := f.wide fun l i z => by unfold Wyb at z; unfold Wscr; rcases hc with rfl | rfl <;> omega
  have z' : Rzero q' := sc.2.2.fp f fun l i z w => by unfold Wyb at w; rcases hc with rfl | rfl <;> omega
  have s' : Scr h q' c := ⟨sc.1.tr f', y, z'⟩
  have eb : bitsN q t (tmM h t) = bitsN h t (tmM h t) := by rw [bitsN_eq (h := h) (h' := q) (fun l i z => sc.1.2.2.1 _ _ (by unfold Wlw at z; unfold Wscr; omega)) (sc.1.2.2.1 _ _ (by unfold Wscr; omega))]
  have bl := bits_lt rc rr ht tl
  obtain ⟨am, -, ar⟩ := ans_many ra
  have r' := hr.fp s'.1
  have R13 : kI q' 0 13 = Int32.ofNat (kN h 173 58) := by rw [s'.1.2.2.1 _ _ (by unfold Wscr; omega), am]
  have row : ∀ j, j < kN h 173 58 → ∀ i, i < 4 → kI q' 170 (4 * j + i) = Int32.ofNat (kN h 216 (4 * j + i)) := fun j hj i hi => by rw [s'.1.2.2.1 _ _ (by unfold Wscr; omega)]; exact ((ans_row ra hj).1 i hi).1
  have turn : ∀ j, j < kN h 173 58 → (okR h t j → f_X11_explainsAnswers_l20 q' 0 (Int32.ofNat (bitsN h t (tmM h t))) (Int32.ofNat j) = some (.inl (Int32.ofNat (j + 1)))) ∧ (¬ okR h t j → f_X11_explainsAnswers_l20 q' 0 (Int32.ofNat (bitsN h t (tmM h t))) (Int32.ofNat j) = some (.inr (.inr ((0 : Int32), q')))) := fun j hj => by
    obtain ⟨-, k0, k1, a2, a3, -⟩ := ans_row ra hj
    have b1 := bits_bit rc rr k0 ht (tr := 1) (by omega) tl
    have b0 := bits_bit rc rr k1 ht (tr := 0) (by omega) tl
    have y1 := ybN_lt rc rr k0 ht (tr := 1) (by omega) tl
    have y0 := ybN_lt rc rr k1 ht (tr := 0) (by omega) tl
    have r0 : kI q' 170 (j * 4) = Int32.ofNat (kN h 216 (4 * j)) := by rw [Nat.mul_comm j 4]; exact row j hj 0 (by omega)
    have r1 : kI q' 170 (j * 4 + 1) = Int32.ofNat (kN h 216 (4 * j + 1)) := by rw [Nat.mul_comm j 4]; exact row j hj 1 (by omega)
    have r2 : kI q' 170 (j * 4 + 2) = Int32.ofNat (kN h 216 (4 * j + 2)) := by rw [Nat.mul_comm j 4]; exact row j hj 2 (by omega)
    have r3 : kI q' 170 (j * 4 + 3) = Int32.ofNat (kN h 216 (4 * j + 3)) := by rw [Nat.mul_comm j 4]; exact row j hj 3 (by omega)
    rw [Nat.add_zero] at b0
    have start : f_X11_explainsAnswers_l20 q' 0 (Int32.ofNat (bitsN h t (tmM h t))) (Int32.ofNat j) = if Int32.ofNat (ybN h (kN h 216 (4 * j)) t 1 (tmM h t)) = Int32.ofNat (kN h 216 (4 * j + 2)) then (if Int32.ofNat (ybN h (kN h 216 (4 * j + 1)) t 0 (tmM h t)) = Int32.ofNat (kN h 216 (4 * j + 3)) then some (.inl (Int32.ofNat (j + 1))) else some (.inr (.inr ((0 : Int32), q')))) else some (.inr (.inr ((0 : Int32), q'))) := by
      unfold f_X11_explainsAnswers_l20
      rw [if_pos kk0, R13, if_neg (by rw [n32_le (by omega) (by omega)]; omega), rf0_12 r', if_pos (show 170 < 999999 by omega), if_pos kk170, kn170, n32_mull, if_neg (by rw [n32_cl (by omega)]; exact fun z => z.elim (n32_nn (by omega)) (by omega)), n32_cl (show j * 4 < 2147483648 by omega), r0, n32_mull, n32_addl, n32_bit (by omega) (by omega), kl_e, n32_addl, if_neg (by rw [n32_cl (by omega)]; exact fun z => z.elim (n32_nn (by omega)) (by omega)), n32_cl (show j * 4 + 1 < 2147483648 by omega), r1, n32_mull, n32_bit (by omega) (by omega), kl_e, n32_addl, if_neg (by rw [n32_cl (by omega)]; exact fun z => z.elim (n32_nn (by omega)) (by omega)), n32_cl (show j * 4 + 2 < 2147483648 by omega), r2, Nat.mul_comm (kN h 216 (4 * j)) 2, Nat.mul_comm (kN h 216 (4 * j + 1)) 2, b1, b0]
      by_cases u : ybN h (kN h 216 (4 * j)) t 1 (tmM h t) = kN h 216 (4 * j + 2)
      · rw [if_pos (by rw [u]), n32_addl, if_neg (by rw [n32_cl (by omega)]; exact fun z => z.elim (n32_nn (by omega)) (by omega)), n32_cl (show j * 4 + 3 < 2147483648 by omega), r3, kl_e, n32_addl, if_pos (show Int32.ofNat (ybN h (kN h 216 (4 * j)) t 1 (tmM h t)) = Int32.ofNat (kN h 216 (4 * j + 2)) by rw [u])]
        rfl
      · rw [if_neg (by rw [n32_eq (by omega) (by omega)]; exact u), if_neg (by rw [n32_eq (by omega) (by omega)]; exact u)]
        rfl
    rw [start]
    unfold okR
    refine ⟨fun z => ?_, fun z => ?_⟩
    · rw [if_pos (by rw [z.1]), if_pos (by rw [z.2])]
    · by_cases u : ybN h (kN h 216 (4 * j)) t 1 (tmM h t) = kN h 216 (4 * j + 2)
      · rw [if_pos (by rw [u]), if_neg (by rw [n32_eq (by omega) (by omega)]; exact fun v => z ⟨u, v⟩)]
      · rw [if_neg (by rw [n32_eq (by omega) (by omega)]; exact u)]
  have lp := kloop_all (body := f_X11_explainsAnswers_l20 q' 0 (Int32.ofNat (bitsN h t (tmM h t)))) (fun j => Int32.ofNat j) (kN h 173 58) (okR h t) (.inl ()) (.inr ((0 : Int32), q')) (by omega) (fun j hj => (turn j hj).1) (fun j hj => (turn j hj).2) (by
    unfold f_X11_explainsAnswers_l20
    rw [if_pos kk0, R13, if_pos (by rw [n32_le (by omega) (by omega)]; omega)])
  have start : f_X11_explainsAnswers q 0 (Int32.ofNat t) = kb (kloop (f_X11_explainsAnswers_l20 q' 0 (Int32.ofNat (bitsN h t (tmM h t)))) KF (Int32.ofNat 0)) fun e13 => ksum e13 (fun _ => some ((1 : Int32), q')) (fun o17 => some o17) := by
    unfold f_X11_explainsAnswers
    rw [if_pos kk0, sc.1.2.1, h5, if_pos (show c < 999999 by omega), rf0_7 rq, if_pos (show 64 < 999999 by omega), if_pos kk64, rf64_3 rq, if_pos (show 65 < 999999 by omega), if_pos kk65, kn65, if_neg (by rw [n32_cl (by omega)]; exact fun z => z.elim (n32_nn (by omega)) (by omega)), n32_cl (by omega), if_pos (ct_kk hc), t65, e, kb_s, eb]
    rfl
  rcases lp with ⟨l1, l2⟩ | ⟨l1, l2⟩
  · exact ⟨1, q', by rw [start, l1, kb_s, ksum_l], s', Or.inl ⟨rfl, l2⟩⟩
  · exact ⟨0, q', by rw [start, l1, kb_s, ksum_r], s', Or.inr ⟨rfl, l2⟩⟩
/-- the tests it can be, as bits -/
noncomputable def tkN (h : KH) : Nat → Nat
  | 0 => 0
  | n + 1 => @ite Nat (okT h n) (Classical.propDecidable _) (tkN h n ||| 2 ^ n) (tkN h n)
theorem x_trickLoop {h : KH} {c : Nat} (rc : RC h c) (rs : RS h) (rr : Rrule h c) (ra : Rans h) (ry : Ryt h c) (rz : Rzero h) : ∃ h', f_X11_trick h 0 = some (Int32.ofNat (tkN h (kN h 198 4)), h') ∧ Scr h h' c := by
  obtain ⟨hr, hc, h5, hm, -⟩ := id rc
  have c39 := hc.lt
  have n4 := hm.2.1.1.2
  obtain ⟨r, e, q⟩ := kloop_inv (body := f_X11_trick_l4 0) (fun t s => s.1 = Int32.ofNat (tkN h t) ∧ s.2.1 = Int32.ofNat t ∧ Scr h s.2.2 c) (fun r => r.1 = Int32.ofNat (tkN h (kN h 198 4)) ∧ Scr h r.2 c) (kN h 198 4) (s0 := ((0 : Int32), (0 : Int32), h)) (by omega) ⟨by rw [tkN]; rfl, rfl, Scr.rf ry rz⟩ (fun t s ht hP => by
    obtain ⟨s0, s1, q⟩ := s
    obtain ⟨p0, p1, p2⟩ := hP
    dsimp only at p0 p1 p2
    subst p0
    subst p1
    have rq := hr.fp p2.1
    have c4 : kI q c 4 = Int32.ofNat (kN h 198 4) := by rw [← n4_sc p2.1, (rc.sc p2.1).2.2.2.1.2.1.2, (rc.sc p2.1).2.2.2.1.2.1.1.1]
    obtain ⟨r, q', e, sq, y⟩ := x_explains rc rs rr ra p2 ht
    have start : f_X11_trick_l4 0 (Int32.ofNat (tkN h t), Int32.ofNat t, q) = if r = 0 then some (.inl (Int32.ofNat (tkN h t), Int32.ofNat (t + 1), q')) else some (.inl (Int32.ofNat (tkN h t ||| 2 ^ t), Int32.ofNat (t + 1), q')) := by
      unfold f_X11_trick_l4 f_X11_trick_b29
      dsimp only
      rw [if_pos kk0, p2.1.2.1, h5, if_pos (show c < 999999 by omega), if_pos (ct_kk hc), c4, if_neg (by rw [n32_le (by omega) (by omega)]; omega), e, kb_s, n32_shl _ (by omega), n32_or, kl_e, kl_e, n32_addl]
      rfl
    rcases y with ⟨y1, y2⟩ | ⟨y1, y2⟩
    · refine ⟨_, by rw [start, if_neg (by rw [y1]; decide)], ?_, rfl, sq⟩
      show _ = Int32.ofNat (tkN h (t + 1))
      rw [tkN, if_pos y2]
    · refine ⟨_, by rw [start, if_pos y1], ?_, rfl, sq⟩
      show _ = Int32.ofNat (tkN h (t + 1))
      rw [tkN, if_neg y2]) (fun s hP => by
    obtain ⟨s0, s1, q⟩ := s
    obtain ⟨p0, p1, p2⟩ := hP
    dsimp only at p0 p1 p2
    subst p0
    subst p1
    have c4 : kI q c 4 = Int32.ofNat (kN h 198 4) := by rw [← n4_sc p2.1, (rc.sc p2.1).2.2.2.1.2.1.2, (rc.sc p2.1).2.2.2.1.2.1.1.1]
    refine ⟨(Int32.ofNat (tkN h (kN h 198 4)), q), ?_, rfl, p2⟩
    unfold f_X11_trick_l4
    dsimp only
    rw [if_pos kk0, p2.1.2.1, h5, if_pos (show c < 999999 by omega), if_pos (ct_kk hc), c4, if_pos (by rw [n32_le (by omega) (by omega)]; omega)])
  obtain ⟨r0, r1⟩ := r
  obtain ⟨q1, q2⟩ := q
  dsimp only at q1 q2
  subst q1
  refine ⟨r1, ?_, q2⟩
  unfold f_X11_trick
  rw [e, kb_s]
theorem c_trick {h : KH} {c : Nat} (rc : RC h c) (rs : RS h) (rr : Rrule h c) (ra : Rans h) (ry : Ryt h c) (rz : Rzero h) : ∃ r h1 h2, f_X11_trick h 0 = some (r, h1) ∧ f_X12_trick h1 173 = some (r, h2) ∧ Scr h h2 c := by
  obtain ⟨hr, hc, h5, hm, -⟩ := id rc
  have c39 := hc.lt
  have n4 := hm.2.1.1.2
  have n3 := hm.1.1.2
  obtain ⟨h1, e1, s1⟩ := x_trickLoop rc rs rr ra ry rz
  have rc1 := rc.sc s1.1
  have rr1 := rr.sc hc s1.1
  obtain ⟨g, e2, f2, yl⟩ := m_laysYields rc1 rr1 (rs.sc s1.1).ms
  have f2' : kfp Wscr h1 g := f2.wide fun l i z => by unfold Wy at z; unfold Wscr; omega
  have sg : Scr h g c := ⟨s1.1.tr f2', s1.2.1.fp f2 fun l i z w => by unfold Wlw at z; unfold Wy at w; rcases hc with rfl | rfl <;> omega, s1.2.2.fp f2 fun l i z w => by unfold Wy at w; omega⟩
  have rg := hr.fp sg.1
  obtain ⟨-, am, ar⟩ := ans_many ra
  have A58 : kI g 173 58 = Int32.ofNat (kN h 173 58) := by rw [sg.1.2.2.1 _ _ (by unfold Wscr; omega), am]
  have row : ∀ j, j < kN h 173 58 → ∀ i, i < 4 → kI g 216 (4 * j + i) = Int32.ofNat (kN h 216 (4 * j + i)) := fun j hj i hi => by rw [sg.1.2.2.1 _ _ (by unfold Wscr; omega)]; exact ((ans_row ra hj).1 i hi).2
  have y' : ∀ t k tr, t < kN h 198 4 → k < kN h 198 3 → tr < 2 → kI g 209 (36 * tr + 6 * t + k) = Int32.ofNat (ybN h k t tr (tmM h t)) := fun t k tr a b d => by
    have n3' : kN h1 198 3 = kN h 198 3 := kN_same (s1.1.2.2.1 _ _ (by unfold Wscr; omega))
    rw [yl t k tr (by rw [n4_sc s1.1]; exact a) (by rw [n3']; exact b) d, ybN_sc s1.1, (tm_sc s1.1).1]
  have asked : ∀ t, t < kN h 198 4 → ∃ r, f_X12_isAsAnswered g 173 (Int32.ofNat t) = some r ∧ ((r = 1 ∧ okT h t) ∨ (r = 0 ∧ ¬ okT h t)) := fun t ht => by
    have tl : tmM h t ≤ 99 := (rs.t (t := t) (by omega)).1.2
    have turn : ∀ j, j < kN h 173 58 → (okR h t j → f_X12_isAsAnswered_l2 g 173 (Int32.ofNat t) (Int32.ofNat j) = some (.inl (Int32.ofNat (j + 1)))) ∧ (¬ okR h t j → f_X12_isAsAnswered_l2 g 173 (Int32.ofNat t) (Int32.ofNat j) = some (.inr (.inr (0 : Int32)))) := fun j hj => by
      obtain ⟨-, k0, k1, a2, a3, -⟩ := ans_row ra hj
      have y1 := ybN_lt rc rr k0 ht (tr := 1) (by omega) tl
      have y0 := ybN_lt rc rr k1 ht (tr := 0) (by omega) tl
      have r0 := row j hj 0 (by omega)
      have r1 := row j hj 1 (by omega)
      have r2 := row j hj 2 (by omega)
      have r3 := row j hj 3 (by omega)
      rw [Nat.add_zero] at r0
      have q1 := y' t _ 1 ht k0 (by omega)
      have q0 := y' t _ 0 ht k1 (by omega)
      rw [Nat.mul_one] at q1
      rw [Nat.mul_zero, Nat.zero_add] at q0
      have start : f_X12_isAsAnswered_l2 g 173 (Int32.ofNat t) (Int32.ofNat j) = if Int32.ofNat (ybN h (kN h 216 (4 * j)) t 1 (tmM h t)) = Int32.ofNat (kN h 216 (4 * j + 2)) then (if Int32.ofNat (ybN h (kN h 216 (4 * j + 1)) t 0 (tmM h t)) = Int32.ofNat (kN h 216 (4 * j + 3)) then some (.inl (Int32.ofNat (j + 1))) else some (.inr (.inr (0 : Int32)))) else some (.inr (.inr (0 : Int32))) := by
        unfold f_X12_isAsAnswered_l2
        rw [if_pos kk173, A58, if_neg (by rw [n32_le (by omega) (by omega)]; omega), rf173_50 rg, if_pos (show 209 < 999999 by omega), rf173_59 rg, if_pos (show 216 < 999999 by omega), if_pos kk216, kn216, n32_mulr, if_neg (by rw [n32_cl (by omega)]; exact fun z => z.elim (n32_nn (by omega)) (by omega)), n32_cl (show 4 * j < 2147483648 by omega), if_pos kk209, kn209, r0, n32_mulr, n32_addr, n32_add, if_neg (by rw [n32_cl (by omega)]; exact fun z => z.elim (n32_nn (by omega)) (by omega)), n32_cl (show 36 + 6 * t + kN h 216 (4 * j) < 2147483648 by omega), n32_addl, if_neg (by rw [n32_cl (by omega)]; exact fun z => z.elim (n32_nn (by omega)) (by omega)), n32_cl (show 4 * j + 2 < 2147483648 by omega), r2, q1]
        by_cases u : ybN h (kN h 216 (4 * j)) t 1 (tmM h t) = kN h 216 (4 * j + 2)
        · rw [if_pos (by rw [u]), n32_addl, if_neg (by rw [n32_cl (by omega)]; exact fun z => z.elim (n32_nn (by omega)) (by omega)), n32_cl (show 4 * j + 1 < 2147483648 by omega), r1, n32_add, if_neg (by rw [n32_cl (by omega)]; exact fun z => z.elim (n32_nn (by omega)) (by omega)), n32_cl (show 6 * t + kN h 216 (4 * j + 1) < 2147483648 by omega), n32_addl, if_neg (by rw [n32_cl (by omega)]; exact fun z => z.elim (n32_nn (by omega)) (by omega)), n32_cl (show 4 * j + 3 < 2147483648 by omega), r3, q0, kl_e, n32_addl, if_pos (show Int32.ofNat (ybN h (kN h 216 (4 * j)) t 1 (tmM h t)) = Int32.ofNat (kN h 216 (4 * j + 2)) by rw [u])]
          rfl
        · rw [if_neg (by rw [n32_eq (by omega) (by omega)]; exact u), if_neg (by rw [n32_eq (by omega) (by omega)]; exact u)]
          rfl
      rw [start]
      unfold okR
      refine ⟨fun z => ?_, fun z => ?_⟩
      · rw [if_pos (by rw [z.1]), if_pos (by rw [z.2])]
      · by_cases u : ybN h (kN h 216 (4 * j)) t 1 (tmM h t) = kN h 216 (4 * j + 2)
        · rw [if_pos (by rw [u]), if_neg (by rw [n32_eq (by omega) (by omega)]; exact fun v => z ⟨u, v⟩)]
        · rw [if_neg (by rw [n32_eq (by omega) (by omega)]; exact u)]
    have lp := kloop_all (body := f_X12_isAsAnswered_l2 g 173 (Int32.ofNat t)) (fun j => Int32.ofNat j) (kN h 173 58) (okR h t) (.inl ()) (.inr (0 : Int32)) (by omega) (fun j hj => (turn j hj).1) (fun j hj => (turn j hj).2) (by
      unfold f_X12_isAsAnswered_l2
      rw [if_pos kk173, A58, if_pos (by rw [n32_le (by omega) (by omega)]; omega)])
    have start : f_X12_isAsAnswered g 173 (Int32.ofNat t) = kb (kloop (f_X12_isAsAnswered_l2 g 173 (Int32.ofNat t)) KF (Int32.ofNat 0)) fun e1 => ksum e1 (fun _ => some (1 : Int32)) (fun o5 => some o5) := rfl
    rcases lp with ⟨l1, l2⟩ | ⟨l1, l2⟩
    · exact ⟨1, by rw [start, l1, kb_s, ksum_l], Or.inl ⟨rfl, l2⟩⟩
    · exact ⟨0, by rw [start, l1, kb_s, ksum_r], Or.inr ⟨rfl, l2⟩⟩
  have many : f_X12_testMany g 173 = some (Int32.ofNat (kN h 198 4)) := by rw [m_testMany rg, sg.1.2.2.1 _ _ (by unfold Wscr; omega), hm.2.1.1.1]
  have e := kloop_for (body := f_X12_trick_l8 g 173) (fun t => (Int32.ofNat (tkN h t), Int32.ofNat t)) (kN h 198 4) (Int32.ofNat (tkN h (kN h 198 4))) (by omega) (fun t ht => by
    obtain ⟨r, e, y⟩ := asked t ht
    unfold f_X12_trick_l8 f_X12_trick_b30
    dsimp only
    rw [if_pos kk173, many, kb_s, if_neg (by rw [n32_le (by omega) (by omega)]; omega), e, kb_s, n32_shl _ (by omega), n32_or, tkN]
    rcases y with ⟨y1, y2⟩ | ⟨y1, y2⟩
    · rw [if_neg (by rw [y1]; decide), if_pos y2, kl_e, kl_e, n32_addl]
    · rw [if_pos y1, if_neg y2, kl_e, n32_addl]) (by
    unfold f_X12_trick_l8
    dsimp only
    rw [if_pos kk173, many, kb_s, if_pos (by rw [n32_le (by omega) (by omega)]; omega)])
  refine ⟨_, h1, g, e1, ?_, sg⟩
  unfold f_X12_trick
  rw [if_pos kk173, e2, kb_s, show ((0 : Int32), (0 : Int32)) = (Int32.ofNat (tkN h 0), Int32.ofNat 0) from rfl, e, kb_s]
