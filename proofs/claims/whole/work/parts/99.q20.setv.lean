/-! the class sets a QUESTION's values -/
theorem bit_and1 {bits j : Nat} (hb : bits < 4096) (hj : j < 12) : ((Int32.ofNat bits >>> (Int32.ofNat j &&& 31)) &&& (1 : Int32)) = Int32.ofNat (bits / 2 ^ j % 2) := n32_bit (by omega) (by omega)
theorem x_setValues {h g : KH} {c t : Nat} (rc : RC h c) (rs : RS h) (rr : Rrule h c) (f : kfp Wk h g) (ryg : Ryt g c) (rzg : Rzero g) (ws : Wst g (WN h) (paN h (tmM h)) 72) (ht : t < kN h 198 4) : ∃ g', f_X6_setValues g 3 c 64 162 (Int32.ofNat t) = some g' ∧ kfp (fun l _ => Wv c l) g g' ∧ Ryt g' c ∧ Rzero g' ∧ Vx g' 7 false (pvQ h t) (yvQ h t) := by
  obtain ⟨hr, hc, h5, hm, -, htt, -⟩ := id rc
  have n4 := hm.2.1.1.2
  have t6 : t < 6 := by omega
  have p6 : 2 ^ t < 64 := Nat.lt_of_lt_of_le (Nat.pow_lt_pow_right (by omega) t6) (by omega)
  have c39 := hc.lt
  have wb := WN_le rc
  have ab := aT_b rc
  have I : ∀ l i, ¬ Wk l i → kI g l i = kI h l i := fun l i z => f.2.2.1 _ _ z
  have eT : kI g 65 t = Int32.ofNat (tmM h t) := (I _ _ (by unfold Wk Wscr; omega)).trans ((rs.t t6).2.trans (rs.t t6).1.1)
  have eA : kI g 66 t = Int32.ofNat (anN h t) := (I _ _ (by unfold Wk Wscr; omega)).trans ((rs.a t6).2.trans (rs.a t6).1.1)
  have bT : tmM h t ≤ 99 := (rs.t t6).1.2
  have bA : anN h t ≤ 4 := (rs.a t6).1.2
  have eH : kI g (c + 9 + t) 1 = Int32.ofNat (kN h 201 (6 + t)) := (I _ _ (by unfold Wk Wscr; rcases hc with rfl | rfl <;> omega)).trans ((htt t ht).2.trans (htt t ht).1.1)
  have sh := n32_shl t (by omega)
  obtain ⟨q1, q2, q3, q4, q5, q6, q7, q8, q9⟩ := Wk.eq f
  have hd := hdN_lt rc
  have hdb : hdN h / 2 ^ t % 2 = if anN h t = 0 then 0 else 1 := hb_bit (anN h) (kN h 198 4) t ht
  -- yields, and SURE before
  have b117 : ∀ g4, kfp (fun l _ => Wv c l) g g4 → Ryt g4 c → Rzero g4 → kI g4 7 13 = Int32.ofNat t → kI g4 7 6 = Int32.ofNat (kN h 201 (6 + t)) → kI g4 7 11 = Int32.ofNat (tmM h t) → (kI g4 7 14).toInt = mqZ h t → ∃ g', f_X6_setValues_b117 g4 3 c 64 (Int32.ofNat t) 7 (15 : Int32) (Int32.ofNat (sqN h t)) = some g' ∧ kfp (fun l _ => Wv c l) g g' ∧ Ryt g' c ∧ Rzero g' ∧ Vx g' 7 false (pvQ h t) (yvQ h t) := fun g4 f4 y4 z4 v13 v6 v11 v14 => by
    obtain ⟨g5, eg5⟩ : ∃ g5, g5 = ksI g4 7 15 (Int32.ofNat (sqN h t)) := ⟨_, rfl⟩
    have f45 : kfp (fun l _ => l = 7) g4 g5 := by rw [eg5]; exact kfp.rf.sI _ rfl
    have f5 : kfp (fun l _ => Wv c l) g g5 := f4.tr (f45.wide fun l i z => Or.inl z)
    have fk5 : kfp Wk h g5 := f.tr (f5.wide fun l i z => by unfold Wv at z; unfold Wk Wscr; rcases hc with rfl | rfl <;> omega)
    have y5 : Ryt g5 c := y4.fp f45 fun l i z w => by unfold Wlw at z; omega
    have z5 : Rzero g5 := z4.fp f45 fun l i z w => by omega
    have r5 := hr.fp fk5
    have eT5 : kI g5 65 t = Int32.ofNat (tmM h t) := (f5.2.2.1 _ _ (by unfold Wv; rcases hc with rfl | rfl <;> omega)).trans eT
    obtain ⟨-, -, -, -, b5, k5, -⟩ := Wk.eq fk5
    have rc5 := Wk.rc rc fk5
    have rr5 := Wk.rr rc rr fk5
    obtain ⟨g6, e6, f6, y6⟩ := x_yieldBits rc5 rr5 y5 (t := t) (x := tmM h t) (by rw [(Wk.eq fk5).2.2.2.2.2.2.1]; exact ht) bT
    rw [b5] at e6
    have bl := bits_lt rc rr (x := tmM h t) ht bT
    have F6 : kfp (fun l _ => Wv c l) g5 g6 := f6.wide fun l i z => by unfold Wyb at z; unfold Wv; omega
    have z6 : Rzero g6 := z5.fp f6 fun l i z w => by unfold Wyb at w; rcases hc with rfl | rfl <;> omega
    have V : ∀ i, kI g6 7 i = kI g5 7 i := fun i => f6.2.2.1 _ _ (by unfold Wyb; rcases hc with rfl | rfl <;> omega)
    -- the loop over KINDS
    obtain ⟨r, er, u1, u2⟩ := kloop_inv (body := f_X6_setValues_l136 3 c (Int32.ofNat (bitsN h t (tmM h t)))) (fun k s => s.1 = Int32.ofNat k ∧ kfp (fun l i => l = 7 ∧ 27 ≤ i) g6 s.2 ∧ ∀ j, j < k → (kI s.2 7 (27 + j)).toInt = yvQ h t (j : Int))
      (fun r => kfp (fun l i => l = 7 ∧ 27 ≤ i) g6 r ∧ ∀ j, j < 6 → (kI r 7 (27 + j)).toInt = yvQ h t (j : Int)) 6 (s0 := ((0 : Int32), g6)) (by omega) ⟨rfl, kfp.rf, fun j hj => absurd hj (Nat.not_lt_zero _)⟩ (fun k s hk hP => by
        obtain ⟨s1, q⟩ := s
        obtain ⟨p1, p2, p3⟩ := hP
        dsimp only at p1 p2 p3
        subst p1
        have rq := (r5.fp F6).fp p2
        have fq : kfp Wk h q := fk5.tr ((F6.wide fun l i z => by unfold Wv at z; unfold Wk Wscr; rcases hc with rfl | rfl <;> omega).tr (p2.wide fun l i z => by unfold Wk; omega))
        have c3 : kI q c 3 = Int32.ofNat (kN h 198 3) := (fq.2.2.1 _ _ (by unfold Wk Wscr; rcases hc with rfl | rfl <;> omega)).trans (hm.1.2.trans hm.1.1.1)
        have k36 := hm.1.1.2
        have go : ∀ (v : Nat), v = (if kN h 198 3 ≤ k then 0 else (bitsN h t (tmM h t) / 2 ^ (2 * k) % 2 + bitsN h t (tmM h t) / 2 ^ (2 * k + 1) % 2)) → f_X6_setValues_l136 3 c (Int32.ofNat (bitsN h t (tmM h t))) (Int32.ofNat k, q) = some (.inl (Int32.ofNat (k + 1), ksI q 7 (27 + k) (Int32.ofNat v))) := fun v hv => by
          have b190 : ∀ v6 (w2 : Int32), f_X6_setValues_b190 q 3 c v6 (Int32.ofNat k) 7 ((27 : Int32) + Int32.ofNat k) w2 = some (.inl (Int32.ofNat (k + 1), ksI q 7 (27 + k) w2)) := fun v6 w2 => by
            unfold f_X6_setValues_b190
            rw [if_pos kk7, n32_addr, kn7, if_neg (by rw [n32_cl (by omega)]; exact fun z => z.elim (n32_nn (by omega)) (by omega)), n32_cl (show 27 + k < 2147483648 by omega), kl_e, kl_e, n32_addl]
          unfold f_X6_setValues_l136
          dsimp only
          rw [if_neg (by rw [n32_ler (by omega) (by omega)]; omega), kl_e, if_pos kk3, rf3_1 rq, if_pos (show 7 < 999999 by omega), if_pos (ct_kk hc), c3]
          by_cases y : kN h 198 3 ≤ k
          · rw [if_pos y] at hv
            rw [if_pos (by rw [n32_le (by omega) (by omega)]; exact y), b190, hv]
            rfl
          · rw [if_neg y] at hv
            rw [if_neg (by rw [n32_le (by omega) (by omega)]; exact y), b190, n32_mulr, n32_addl, bit_and1 bl (by omega), bit_and1 bl (by omega), n32_add, hv]
        refine ⟨_, go _ rfl, rfl, p2.sI _ ⟨rfl, by omega⟩, fun j hj => ?_⟩
        show (kI (ksI q 7 (27 + k) _) 7 (27 + j)).toInt = _
        by_cases y : j = k
        · subst y
          rw [kI_sI, if_pos ⟨rfl, rfl⟩]
          unfold yvQ
          by_cases z : kN h 198 3 ≤ j
          · rw [if_pos z, if_neg (by omega)]
            rfl
          · have b0 := bits_bit rc rr (k := j) (t := t) (tr := 0) (x := tmM h t) (by omega) ht (by omega) bT
            have b1 := bits_bit rc rr (k := j) (t := t) (tr := 1) (x := tmM h t) (by omega) ht (by omega) bT
            rw [Nat.add_zero] at b0
            rw [if_neg z, if_pos (by omega), b0, b1, Int.toNat_natCast]
            have y0 := ybN_lt rc rr (k := j) (t := t) (tr := 0) (x := tmM h t) (by omega) ht (by omega) bT
            have y1 := ybN_lt rc rr (k := j) (t := t) (tr := 1) (x := tmM h t) (by omega) ht (by omega) bT
            exact n32_toInt (by omega)
        · rw [kI_sI, if_neg (by omega)]
          exact p3 j (by omega)) (fun s hP => by
        obtain ⟨s1, q⟩ := s
        obtain ⟨p1, p2, p3⟩ := hP
        dsimp only at p1 p2 p3
        subst p1
        refine ⟨q, ?_, p2, p3⟩
        unfold f_X6_setValues_l136
        dsimp only
        rw [if_pos (by decide)])
    have Vr : ∀ i, i < 27 → kI r 7 i = kI g5 7 i := fun i hi => (u1.2.2.1 _ _ (by omega)).trans (V i)
    have V4 : ∀ i, i ≠ 15 → kI g5 7 i = kI g4 7 i := fun i hi => by rw [eg5, kI_sI, if_neg (by omega)]
    unfold f_X6_setValues_b117
    rw [if_pos kk7, kn7, if_neg (show ¬ ((15 : Int32) < 0 ∨ 33 ≤ (15 : Int32).toNatClampNeg) by decide), show (15 : Int32).toNatClampNeg = 15 from rfl, kl_e, ← eg5, if_pos kk64, rf64_0 r5]
    sorry
  sorry
