/-! the class sets a QUESTION's values -/
theorem bit_and1 {bits j : Nat} (hb : bits < 4096) (hj : j < 12) : ((Int32.ofNat bits >>> (Int32.ofNat j &&& 31)) &&& (1 : Int32)) = Int32.ofNat (bits / 2 ^ j % 2) := n32_bit (by omega) (by omega)
theorem x_setValues {h g : KH} {c t : Nat} (rc : RC h c) (rs : RS h) (rr : Rrule h c) (f : kfp Wk h g) (ryg : Ryt g c) (rzg : Rzero g) (ws : Wst g (WN h) (paN h (tmM h)) 72) (ht : t < kN h 198 4) : ∃ g', f_X6_setValues g 3 c 64 162 (Int32.ofNat t) = some g' ∧ kfp (fun l _ => Wv c l) g g' ∧ Ryt g' c ∧ Rzero g' ∧ Vx g' 7 false (pvQ h t) (yvQ h t) := by
  obtain ⟨hr, hc, h5, hm, -, htt, -⟩ := id rc
  have n4 := hm.2.1.1.2
  have t6 : t < 6 := by omega
  have p6 : 2 ^ t < 64 := Nat.lt_of_lt_of_le (Nat.pow_lt_pow_right (by omega) t6) (by omega)
  have c39 := hc.lt
  have wb := WN_le rc
  have ab := aT_b rc
  have I : ∀ l i, ¬ Wk l i → kI g l i = kI h l i := fun l i z => f.2.2.1 _ _ z
  have eT : kI g 65 t = Int32.ofNat (tmM h t) := (I _ _ (by unfold Wk Wscr; omega)).trans ((rs.t t6).2.trans (rs.t t6).1.1)
  have eA : kI g 66 t = Int32.ofNat (anN h t) := (I _ _ (by unfold Wk Wscr; omega)).trans ((rs.a t6).2.trans (rs.a t6).1.1)
  have bT : tmM h t ≤ 99 := (rs.t t6).1.2
  have bA : anN h t ≤ 4 := (rs.a t6).1.2
  have eH : kI g (c + 9 + t) 1 = Int32.ofNat (kN h 201 (6 + t)) := (I _ _ (by unfold Wk Wscr; rcases hc with rfl | rfl <;> omega)).trans ((htt t ht).2.trans (htt t ht).1.1)
  have sh := n32_shl t (by omega)
  obtain ⟨q1, q2, q3, q4, q5, q6, q7, q8, q9⟩ := Wk.eq f
  have hd := hdN_lt rc
  have hdb : hdN h / 2 ^ t % 2 = if anN h t = 0 then 0 else 1 := hb_bit (anN h) (kN h 198 4) t ht
  -- yields, and SURE before
  have b117 : ∀ g4, kfp (fun l _ => Wv c l) g g4 → Ryt g4 c → Rzero g4 → kI g4 7 13 = Int32.ofNat t → kI g4 7 6 = Int32.ofNat (kN h 201 (6 + t)) → kI g4 7 11 = Int32.ofNat (tmM h t) → (kI g4 7 14).toInt = mqZ h t → ∃ g', f_X6_setValues_b117 g4 3 c 64 (Int32.ofNat t) 7 (15 : Int32) (Int32.ofNat (sqN h t)) = some g' ∧ kfp (fun l _ => Wv c l) g g' ∧ Ryt g' c ∧ Rzero g' ∧ Vx g' 7 false (pvQ h t) (yvQ h t) := fun g4 f4 y4 z4 v13 v6 v11 v14 => by
    obtain ⟨g5, eg5⟩ : ∃ g5, g5 = ksI g4 7 15 (Int32.ofNat (sqN h t)) := ⟨_, rfl⟩
    have f45 : kfp (fun l _ => l = 7) g4 g5 := by rw [eg5]; exact kfp.rf.sI _ rfl
    have f5 : kfp (fun l _ => Wv c l) g g5 := f4.tr (f45.wide fun l i z => Or.inl z)
    have fk5 : kfp Wk h g5 := f.tr (f5.wide fun l i z => by unfold Wv at z; unfold Wk Wscr; rcases hc with rfl | rfl <;> omega)
    have y5 : Ryt g5 c := y4.fp f45 fun l i z w => by unfold Wlw at z; omega
    have z5 : Rzero g5 := z4.fp f45 fun l i z w => by omega
    have r5 := hr.fp fk5
    have eT5 : kI g5 65 t = Int32.ofNat (tmM h t) := (f5.2.2.1 _ _ (by unfold Wv; rcases hc with rfl | rfl <;> omega)).trans eT
    obtain ⟨-, -, -, -, b5, k5, -⟩ := Wk.eq fk5
    have rc5 := Wk.rc rc fk5
    have rr5 := Wk.rr rc rr fk5
    obtain ⟨g6, e6, f6, y6⟩ := x_yieldBits rc5 rr5 y5 (t := t) (x := tmM h t) (by rw [(Wk.eq fk5).2.2.2.2.2.2.1]; exact ht) bT
    rw [b5] at e6
    have bl := bits_lt rc rr (x := tmM h t) ht bT
    have F6 : kfp (fun l _ => Wv c l) g5 g6 := f6.wide fun l i z => by unfold Wyb at z; unfold Wv; omega
    have z6 : Rzero g6 := z5.fp f6 fun l i z w => by unfold Wyb at w; rcases hc with rfl | rfl <;> omega
    have V : ∀ i, kI g6 7 i = kI g5 7 i := fun i => f6.2.2.1 _ _ (by unfold Wyb; rcases hc with rfl | rfl <;> omega)
    -- the loop over KINDS
    obtain ⟨r, er, u1, u2⟩ := kloop_inv (body := f_X6_setValues_l136 3 c (Int32.ofNat (bitsN h t (tmM h t)))) (fun k s => s.1 = Int32.ofNat k ∧ kfp (fun l i => l = 7 ∧ 27 ≤ i) g6 s.2 ∧ ∀ j, j < k → (kI s.2 7 (27 + j)).toInt = yvQ h t (j : Int))
      (fun r => kfp (fun l i => l = 7 ∧ 27 ≤ i) g6 r ∧ ∀ j, j < 6 → (kI r 7 (27 + j)).toInt = yvQ h t (j : Int)) 6 (s0 := ((0 : Int32), g6)) (by omega) ⟨rfl, kfp.rf, fun j hj => absurd hj (Nat.not_lt_zero _)⟩ (fun k s hk hP => by
        obtain ⟨s1, q⟩ := s
        obtain ⟨p1, p2, p3⟩ := hP
        dsimp only at p1 p2 p3
        subst p1
        have rq := (r5.fp F6).fp p2
        have fq : kfp Wk h q := fk5.tr ((F6.wide fun l i z => by unfold Wv at z; unfold Wk Wscr; rcases hc with rfl | rfl <;> omega).tr (p2.wide fun l i z => by unfold Wk; omega))
        have c3 : kI q c 3 = Int32.ofNat (kN h 198 3) := (fq.2.2.1 _ _ (by unfold Wk Wscr; rcases hc with rfl | rfl <;> omega)).trans (hm.1.2.trans hm.1.1.1)
        have k36 := hm.1.1.2
        have go : ∀ (v : Nat), v = (if kN h 198 3 ≤ k then 0 else (bitsN h t (tmM h t) / 2 ^ (2 * k) % 2 + bitsN h t (tmM h t) / 2 ^ (2 * k + 1) % 2)) → f_X6_setValues_l136 3 c (Int32.ofNat (bitsN h t (tmM h t))) (Int32.ofNat k, q) = some (.inl (Int32.ofNat (k + 1), ksI q 7 (27 + k) (Int32.ofNat v))) := fun v hv => by
          have b190 : ∀ v6 (w2 : Int32), f_X6_setValues_b190 q 3 c v6 (Int32.ofNat k) 7 ((27 : Int32) + Int32.ofNat k) w2 = some (.inl (Int32.ofNat (k + 1), ksI q 7 (27 + k) w2)) := fun v6 w2 => by
            unfold f_X6_setValues_b190
            rw [if_pos kk7, n32_addr, kn7, if_neg (by rw [n32_cl (by omega)]; exact fun z => z.elim (n32_nn (by omega)) (by omega)), n32_cl (show 27 + k < 2147483648 by omega), kl_e, kl_e, n32_addl]
          unfold f_X6_setValues_l136
          dsimp only
          rw [if_neg (by rw [n32_ler (by omega) (by omega)]; omega), kl_e, if_pos kk3, rf3_1 rq, if_pos (show 7 < 999999 by omega), if_pos (ct_kk hc), c3]
          by_cases y : kN h 198 3 ≤ k
          · rw [if_pos y] at hv
            rw [if_pos (by rw [n32_le (by omega) (by omega)]; exact y), b190, hv]
            rfl
          · rw [if_neg y] at hv
            rw [if_neg (by rw [n32_le (by omega) (by omega)]; exact y), b190, n32_mulr, n32_addl, bit_and1 bl (by omega), bit_and1 bl (by omega), n32_add, hv]
        refine ⟨_, go _ rfl, rfl, p2.sI _ ⟨rfl, by omega⟩, fun j hj => ?_⟩
        show (kI (ksI q 7 (27 + k) _) 7 (27 + j)).toInt = _
        by_cases y : j = k
        · subst y
          rw [kI_sI, if_pos ⟨rfl, rfl⟩]
          unfold yvQ
          by_cases z : kN h 198 3 ≤ j
          · rw [if_pos z, if_neg (by omega)]
            rfl
          · have b0 := bits_bit rc rr (k := j) (t := t) (tr := 0) (x := tmM h t) (by omega) ht (by omega) bT
            have b1 := bits_bit rc rr (k := j) (t := t) (tr := 1) (x := tmM h t) (by omega) ht (by omega) bT
            rw [Nat.add_zero] at b0
            rw [if_neg z, if_pos (by omega), b0, b1, Int.toNat_natCast]
            have y0 := ybN_lt rc rr (k := j) (t := t) (tr := 0) (x := tmM h t) (by omega) ht (by omega) bT
            have y1 := ybN_lt rc rr (k := j) (t := t) (tr := 1) (x := tmM h t) (by omega) ht (by omega) bT
            exact n32_toInt (by omega)
        · rw [kI_sI, if_neg (by omega)]
          exact p3 j (by omega)) (fun s hP => by
        obtain ⟨s1, q⟩ := s
        obtain ⟨p1, p2, p3⟩ := hP
        dsimp only at p1 p2 p3
        subst p1
        refine ⟨q, ?_, p2, p3⟩
        unfold f_X6_setValues_l136
        dsimp only
        rw [if_pos (by decide)])
    have Vr : ∀ i, i < 27 → kI r 7 i = kI g5 7 i := fun i hi => (u1.2.2.1 _ _ (by omega)).trans (V i)
    have V4 : ∀ i, i ≠ 15 → kI g5 7 i = kI g4 7 i := fun i hi => by rw [eg5, kI_sI, if_neg (by omega)]
    have er' : kloop (f_X6_setValues_l136 3 c (Int32.ofNat (bitsN h t (tmM h t)))) KF ((0 : Int32), g6) = some r := er
    unfold f_X6_setValues_b117
    rw [if_pos kk7, kn7, if_neg (show ¬ ((15 : Int32) < 0 ∨ 33 ≤ (15 : Int32).toNatClampNeg) by decide), show (15 : Int32).toNatClampNeg = 15 from rfl, kl_e, ← eg5, if_pos kk64, rf64_3 r5, if_pos (show 65 < 999999 by omega), if_pos kk65, kn65, if_neg (by rw [n32_cl (by omega)]; exact fun z => z.elim (n32_nn (by omega)) (by omega)), n32_cl (show t < 2147483648 by omega), eT5, if_pos (ct_kk hc), e6, kb_s]
    dsimp only
    rw [er', kb_s]
    have W : ∀ i, i < 27 → i ≠ 15 → kI r 7 i = kI g4 7 i := fun i a b => (Vr i a).trans (V4 i b)
    refine ⟨r, rfl, (f5.tr F6).tr (u1.wide fun l i z => Or.inl z.1), y6.fp u1 fun l i z w => by unfold Wlw at z; omega, z6.fp u1 fun l i z w => by omega, ⟨kk7, kn7⟩, fun k hk => ?_, fun _ => ⟨fun k hk => (u2 k hk).symm, fun n hn => ?_⟩⟩
    · have e : k = 2 ∨ k = 3 ∨ k = 5 ∨ k = 6 ∨ k = 7 := by
        rcases hk with z | z
        · exact absurd z.1 (by decide)
        · omega
      rcases e with rfl | rfl | rfl | rfl | rfl
      · show (kI r 7 6).toInt = (kN h 201 (6 + t) : Int)
        rw [W 6 (by omega) (by omega), v6]
        exact n32_toInt (by have := (htt t ht).1.2; omega)
      · show (kI r 7 11).toInt = (tmM h t : Int)
        rw [W 11 (by omega) (by omega), v11]
        exact n32_toInt (by omega)
      · show (kI r 7 13).toInt = (t : Int)
        rw [W 13 (by omega) (by omega), v13]
        exact n32_toInt (by omega)
      · show (kI r 7 14).toInt = mqZ h t
        rw [W 14 (by omega) (by omega)]
        exact v14
      · show (kI r 7 15).toInt = (sqN h t : Int)
        rw [Vr 15 (by omega), eg5, kI_sI, if_pos ⟨rfl, rfl⟩]
        exact n32_toInt (by unfold sqN; split <;> omega)
    · unfold yvQ
      rw [if_neg (by have := hm.1.1.2; omega)]
  have eS : ∀ g4, kfp (fun l _ => Wv c l) g g4 → Rzero g4 → ∃ g5, f_X10_isSure g4 162 (Int32.ofNat (2 ^ t)) (Int32.ofNat (hdN h)) = some (Int32.ofNat (sqN h t), g5) ∧ kfp W89 g4 g5 ∧ Rzero g5 := fun g4 f4 z4 => by
    have ws4 := ws.same f4 fun l i a b => by unfold Wv at b; rcases hc with rfl | rfl <;> omega
    have r4 := (hr.fp f).fp f4
    obtain ⟨g5, e5, f5, z5⟩ := x_isSure r4 wb ws4 z4 p6 hd.2
    refine ⟨g5, ?_, f5, z5⟩
    rw [e5]
    have a6 := and6 t t6 (hdN h) hd.2
    rw [hdb] at a6
    unfold sqN
    by_cases y : anN h t = 0
    · rw [if_pos y] at a6
      by_cases z : aT (WN h) 72 ≠ 0 ∧ rN (WN h) (kX (paN h (tmM h)) (2 ^ t)) = aT (WN h) 72
      · rw [if_pos ⟨a6.mpr rfl, z.1, z.2⟩, if_pos ⟨y, z.1, z.2⟩]
        rfl
      · rw [if_neg (fun u => z u.2), if_neg (fun u => z u.2)]
        rfl
    · rw [if_neg y] at a6
      rw [if_neg (fun u => absurd (a6.mp u.1) (by decide)), if_neg (fun u => y u.1)]
      rfl
  have b90 : ∀ g3 (w2 : Int32), kfp (fun l _ => Wv c l) g g3 → Ryt g3 c → Rzero g3 → kI g3 7 13 = Int32.ofNat t → kI g3 7 6 = Int32.ofNat (kN h 201 (6 + t)) → kI g3 7 11 = Int32.ofNat (tmM h t) → w2.toInt = mqZ h t → ∃ g', f_X6_setValues_b90 g3 3 c 64 162 (Int32.ofNat t) 7 (14 : Int32) w2 = some g' ∧ kfp (fun l _ => Wv c l) g g' ∧ Ryt g' c ∧ Rzero g' ∧ Vx g' 7 false (pvQ h t) (yvQ h t) := fun g3 w2 f3 y3 z3 v13 v6 v11 hw2 => by
    obtain ⟨g4, eg4⟩ : ∃ g4, g4 = ksI g3 7 14 w2 := ⟨_, rfl⟩
    have f34 : kfp (fun l _ => l = 7) g3 g4 := by rw [eg4]; exact kfp.rf.sI _ rfl
    have f4 : kfp (fun l _ => Wv c l) g g4 := f3.tr (f34.wide fun l i z => Or.inl z)
    have fk4 : kfp Wk h g4 := f.tr (f4.wide fun l i z => by unfold Wv at z; unfold Wk Wscr; rcases hc with rfl | rfl <;> omega)
    have y4 : Ryt g4 c := y3.fp f34 fun l i z w => by unfold Wlw at z; omega
    have z4 : Rzero g4 := z3.fp f34 fun l i z w => by omega
    have r4 := hr.fp fk4
    have xh := x_hd (Wk.rc rc fk4) (Wk.rs rs fk4) kfp.rf
    rw [(Wk.eq fk4).2.2.1] at xh
    obtain ⟨g5, e5, f5, z5⟩ := eS g4 f4 z4
    have F5 : kfp (fun l _ => Wv c l) g4 g5 := f5.wide fun l i z => by unfold W89 at z; unfold Wv; omega
    have y5 : Ryt g5 c := y4.fp f5 fun l i z w => by unfold Wlw at z; unfold W89 at w; rcases hc with rfl | rfl <;> omega
    have r5 := r4.fp f5
    have K : ∀ i, kI g5 7 i = kI g4 7 i := fun i => f5.2.2.1 _ _ (by unfold W89; omega)
    have K4 : ∀ i, i ≠ 14 → kI g4 7 i = kI g3 7 i := fun i hi => by rw [eg4, kI_sI, if_neg (by omega)]
    obtain ⟨g', e', fin⟩ := b117 g5 (f4.tr F5) y5 z5 ((K 13).trans ((K4 13 (by omega)).trans v13)) ((K 6).trans ((K4 6 (by omega)).trans v6)) ((K 11).trans ((K4 11 (by omega)).trans v11)) (by rw [K 14, eg4, kI_sI, if_pos ⟨rfl, rfl⟩]; exact hw2)
    refine ⟨g', ?_, fin⟩
    unfold f_X6_setValues_b90
    rw [if_pos kk7, kn7, if_neg (show ¬ ((14 : Int32) < 0 ∨ 33 ≤ (14 : Int32).toNatClampNeg) by decide), show (14 : Int32).toNatClampNeg = 14 from rfl, kl_e, ← eg4, if_pos kk3, rf3_1 r4, if_pos (show 7 < 999999 by omega), if_pos kk64, xh, kb_s, if_pos kk162, sh, e5, kb_s]
    dsimp only
    by_cases y : sqN h t = 0
    · rw [y] at e'
      rw [y, if_pos (show Int32.ofNat 0 = 0 from rfl)]
      exact e'
    · have y1 : sqN h t = 1 := by
        unfold sqN at y ⊢
        split at y
        · rename_i u
          rw [if_pos u]
        · exact absurd rfl y
      rw [y1] at e'
      rw [y1, if_neg (show ¬ Int32.ofNat 1 = 0 by decide)]
      exact e'
  -- NUMBER, HARM, HEARD, MERIT
  have b24 : ∀ w0 : Int32, ((w0 = 1 ∧ aT (WN h) 72 ≠ 0 ∧ anN h t = 0) ∨ (w0 = 0 ∧ ¬ (aT (WN h) 72 ≠ 0 ∧ anN h t = 0))) → ∃ g', f_X6_setValues_b24 g 3 c 64 162 (Int32.ofNat t) w0 = some g' ∧ kfp (fun l _ => Wv c l) g g' ∧ Ryt g' c ∧ Rzero g' ∧ Vx g' 7 false (pvQ h t) (yvQ h t) := fun w0 hw => by
    have r0 := hr.fp f
    obtain ⟨g1, eg1⟩ : ∃ g1, g1 = ksI g 7 13 (Int32.ofNat t) := ⟨_, rfl⟩
    have f1 : kfp (fun l _ => l = 7) g g1 := by rw [eg1]; exact kfp.rf.sI _ rfl
    have r1 := r0.fp f1
    obtain ⟨g2, eg2⟩ : ∃ g2, g2 = ksI g1 7 6 (Int32.ofNat (kN h 201 (6 + t))) := ⟨_, rfl⟩
    have f2 : kfp (fun l _ => l = 7) g g2 := by rw [eg2]; exact f1.sI _ rfl
    have r2 := r0.fp f2
    obtain ⟨g3, eg3⟩ : ∃ g3, g3 = ksI g2 7 11 (Int32.ofNat (tmM h t)) := ⟨_, rfl⟩
    have f3 : kfp (fun l _ => l = 7) g g3 := by rw [eg3]; exact f2.sI _ rfl
    have r3 := r0.fp f3
    have F3 : kfp (fun l _ => Wv c l) g g3 := f3.wide fun l i z => Or.inl z
    have fk3 : kfp Wk h g3 := f.tr (f3.wide fun l i z => by unfold Wk; omega)
    have y3 : Ryt g3 c := ryg.fp f3 fun l i z w => by unfold Wlw at z; omega
    have z3 : Rzero g3 := rzg.fp f3 fun l i z w => by omega
    have v13 : kI g3 7 13 = Int32.ofNat t := by rw [eg3, kI_sI, if_neg (by omega), eg2, kI_sI, if_neg (by omega), eg1, kI_sI, if_pos ⟨rfl, rfl⟩]
    have v6 : kI g3 7 6 = Int32.ofNat (kN h 201 (6 + t)) := by rw [eg3, kI_sI, if_neg (by omega), eg2, kI_sI, if_pos ⟨rfl, rfl⟩]
    have v11 : kI g3 7 11 = Int32.ofNat (tmM h t) := by rw [eg3, kI_sI, if_pos ⟨rfl, rfl⟩]
    have ws3 := ws.same f3 fun l i a b => by omega
    have eH1 : kI g1 (c + 9 + t) 1 = Int32.ofNat (kN h 201 (6 + t)) := (f1.2.2.1 _ _ (by rcases hc with rfl | rfl <;> omega)).trans eH
    have eT2 : kI g2 65 t = Int32.ofNat (tmM h t) := (f2.2.2.1 _ _ (by omega)).trans eT
    unfold f_X6_setValues_b24
    rw [if_pos kk3, rf3_1 r0, if_pos (show 7 < 999999 by omega), if_pos kk7, kn7, if_neg (show ¬ 33 ≤ 13 by omega), kl_e, ← eg1, rf3_1 r1, if_pos (show 7 < 999999 by omega), if_pos (ct_kk hc), (ct_r r1 hc).2.1, if_pos (show c + 8 < 999999 by omega), if_pos (ct_kt hc).2.1, (ct_kt hc).2.2.2.2.1, if_neg (by rw [n32_cl (by omega)]; exact fun z => z.elim (n32_nn (by omega)) (by omega)), n32_cl (show t < 2147483648 by omega), ct_rt r1 hc t6, if_pos (show c + 9 + t < 999999 by omega), if_pos (ct_test hc t6).1, (ct_test hc t6).2, if_neg (show ¬ 2 ≤ 1 by omega), if_pos kk7, kn7, if_neg (show ¬ 33 ≤ 6 by omega), kl_e, eH1, ← eg2, rf3_1 r2, if_pos (show 7 < 999999 by omega), if_pos kk64, rf64_3 r2, if_pos (show 65 < 999999 by omega), if_pos kk65, kn65, if_neg (fun z => z.elim (n32_nn (by omega)) (by omega)), if_pos kk7, kn7, if_neg (show ¬ 33 ≤ 11 by omega), kl_e, eT2, ← eg3, rf3_1 r3, if_pos (show 7 < 999999 by omega)]
    rcases hw with ⟨w1, a0, y⟩ | ⟨w1, y⟩
    · obtain ⟨g4, e4, f4, z4⟩ := x_meritOf (Wk.rc rc fk3) kfp.rf wb ws3 z3 a0 p6
      have em : mrZ g3 (WN h) (kX (paN h (tmM h)) (2 ^ t)) (2 ^ t) = mqZ h t := by
        obtain ⟨-, -, -, -, -, -, k4, kp, k201⟩ := Wk.eq fk3
        unfold mqZ
        rw [if_pos ⟨a0, y⟩]
        unfold mrZ
        rw [kp, k4, hm_one t6 _ n4, hm_one t6 _ n4, k201]
      rw [em] at e4
      have mb := mqZ_b rc ht
      have F4 : kfp (fun l _ => Wv c l) g3 g4 := f4.wide fun l i z => by unfold W89 at z; unfold Wv; omega
      have y4 : Ryt g4 c := y3.fp f4 fun l i z w => by unfold Wlw at z; unfold W89 at w; rcases hc with rfl | rfl <;> omega
      have K : ∀ i, kI g4 7 i = kI g3 7 i := fun i => f4.2.2.1 _ _ (by unfold W89; omega)
      rw [w1, if_neg (by decide), if_pos kk162, sh, e4, kb_s]
      dsimp only
      exact b90 g4 _ (F3.tr F4) y4 z4 ((K 13).trans v13) ((K 6).trans v6) ((K 11).trans v11) (by rw [Int64.toInt_toInt32, z64_toInt (by omega), Int.bmod_eq_of_le (by omega) (by omega)])
    · rw [w1, if_pos rfl]
      exact b90 g3 0 F3 y3 z3 v13 v6 v11 (by unfold mqZ; rw [if_neg y]; rfl)
  have r0 := hr.fp f
  unfold f_X6_setValues f_X6_setValues_b23
  rw [if_pos kk162, x_totalW r0 ws, kb_s]
  by_cases a0 : aT (WN h) 72 = 0
  · rw [if_pos (by rw [a0]; decide)]
    exact b24 0 (Or.inr ⟨rfl, fun z => z.1 a0⟩)
  · rw [if_neg (by rw [show (0 : Int64) = Int64.ofNat 0 from rfl, lgn_le0 (by omega) (by omega)]; omega), if_pos kk64, rf64_4 r0, if_pos (show 66 < 999999 by omega), if_pos kk66, kn66, if_neg (by rw [n32_cl (by omega)]; exact fun z => z.elim (n32_nn (by omega)) (by omega)), n32_cl (show t < 2147483648 by omega), eA]
    by_cases y : anN h t = 0
    · rw [if_pos (by rw [y]; rfl)]
      exact b24 1 (Or.inl ⟨rfl, a0, y⟩)
    · rw [if_neg (by rw [n32_ne0 (by omega)]; exact y)]
      exact b24 0 (Or.inr ⟨rfl, fun z => y z.2⟩)
