/-! on: all is as it tells -/
theorem xclear_I (h : KH) (v : Nat) : (∀ i, i < 3 → kI (xclear h v) v i = 0) ∧ (∀ t, t < 6 → kI (xclear h v) (v + 1) t = 0 ∧ kI (xclear h v) (v + 2) t = 0) ∧ ∀ i, i < 10 → kI (xclear h v) (v + 3) i = 0 := by
  have f := xforget_fp (kfill (ksI (ksI (ksI h v 0 0) v 1 0) v 2 0) (v + 1) 0 6) v
  have z := xforget_I (kfill (ksI (ksI (ksI h v 0 0) v 1 0) v 2 0) (v + 1) 0 6) v
  refine ⟨fun i hi => ?_, fun t ht => ⟨?_, z.1 t ht⟩, z.2⟩
  · show kI (xforget _ _) _ _ = _
    rw [f.2.2.1 _ _ (by omega), kfill_I, if_neg (by omega), kI_sI]
    have e : i = 0 ∨ i = 1 ∨ i = 2 := by omega
    rcases e with rfl | rfl | rfl
    · rw [if_neg (by omega), kI_sI, if_neg (by omega), kI_sI, if_pos ⟨rfl, rfl⟩]
    · rw [if_neg (by omega), kI_sI, if_pos ⟨rfl, rfl⟩]
    · rw [if_pos ⟨rfl, rfl⟩]
  · show kI (xforget _ _) _ _ = _
    rw [f.2.2.1 _ _ (by omega), kfill_I, if_pos ⟨rfl, ht⟩]
theorem x_takeImage {h : KH} {c : Nat} (rc : RC h c) (ht : Rtape h) : ∃ h', f_X11_takeImage h 0 = some h' ∧ kfp (fun l i => (64 ≤ l ∧ l ≤ 67) ∨ (l = 72 ∧ i = 3) ∨ (l = 155 ∧ i = 3)) h h' ∧ kI h' 64 0 = Int32.ofNat (tyN h 0 * 256 + tyN h 1) ∧ kI h' 64 1 = Int32.ofNat (tyN h 2 * 256 + tyN h 3) ∧ kI h' 64 2 = Int32.ofNat 0 ∧
    (∀ t, t < 6 → kI h' 65 t = Int32.ofNat (if t < kN h 198 4 then tyN h (4 + 2 * t) else 0) ∧ kI h' 66 t = Int32.ofNat (if t < kN h 198 4 then tyN h (5 + 2 * t) else 0)) ∧ (∀ i, i < 10 → kI h' 67 i = Int32.ofNat (if i < 2 * kN h 198 5 then tyN h (4 + 2 * kN h 198 4 + i) else 0)) ∧ kI h' 72 3 = Int32.ofNat 0 ∧ kI h' 155 3 = 0 := by
  obtain ⟨hr, hc, h5, hm, -⟩ := id rc
  have c39 := hc.lt
  have n4 := hm.2.1.1.2
  have n5 := hm.2.2.1.1.2
  have z0 : (0 : Int32) = Int32.ofNat 0 := rfl
  obtain ⟨c1, c2, c3⟩ := xclear_I h 64
  have fc := xclear_fp h 64
  generalize hg0 : xclear h 64 = g0 at c1 c2 c3 fc
  have r0 := hr.fp fc
  obtain ⟨g1, e1⟩ : ∃ g, g = ksI g0 64 0 (Int32.ofNat (tyN h 0 * 256 + tyN h 1)) := ⟨_, rfl⟩
  have f1 : kfp (fun l i => l = 64 ∧ i = 0) g0 g1 := by rw [e1]; exact kfp.rf.sI _ ⟨rfl, rfl⟩
  obtain ⟨g2, e2⟩ : ∃ g, g = ksI g1 64 1 (Int32.ofNat (tyN h 2 * 256 + tyN h 3)) := ⟨_, rfl⟩
  have f2 : kfp (fun l i => l = 64 ∧ i = 1) g1 g2 := by rw [e2]; exact kfp.rf.sI _ ⟨rfl, rfl⟩
  have r1 := r0.fp f1
  have r2 := r1.fp f2
  have F2 : kfp (fun l i => 64 ≤ l ∧ l ≤ 67) h g2 := ((fc.wide fun l i y => by omega).tr (f1.wide fun l i y => by omega)).tr (f2.wide fun l i y => by omega)
  obtain ⟨g3, e3, f3, v3⟩ := kloop_inv (body := f_X11_takeImage_l39 0) (fun k s => s.1 = Int32.ofNat k ∧ kfp (fun l i => l = 65 ∨ l = 66) g2 s.2 ∧ ∀ t, t < 6 → kI s.2 65 t = Int32.ofNat (if t < k then tyN h (4 + 2 * t) else 0) ∧ kI s.2 66 t = Int32.ofNat (if t < k then tyN h (5 + 2 * t) else 0))
    (fun r => kfp (fun l i => l = 65 ∨ l = 66) g2 r ∧ ∀ t, t < 6 → kI r 65 t = Int32.ofNat (if t < kN h 198 4 then tyN h (4 + 2 * t) else 0) ∧ kI r 66 t = Int32.ofNat (if t < kN h 198 4 then tyN h (5 + 2 * t) else 0)) (kN h 198 4) (s0 := ((0 : Int32), g2)) (by omega) ⟨rfl, kfp.rf, fun t h6 => by
      dsimp only
      rw [if_neg (by omega), if_neg (by omega), f2.2.2.1 _ _ (by omega), f1.2.2.1 _ _ (by omega), f2.2.2.1 _ _ (by omega), f1.2.2.1 _ _ (by omega)]
      exact c2 t h6⟩ (fun k s hk hP => by
      obtain ⟨s1, g⟩ := s
      obtain ⟨p1, p2, p3⟩ := hP
      dsimp only at p1 p2 p3
      subst p1
      have F : kfp (fun l i => 64 ≤ l ∧ l ≤ 67) h g := F2.tr (p2.wide fun l i y => by omega)
      have rg := hr.fp F
      have e5 : kI g c 4 = Int32.ofNat (kN h 198 4) := (F.2.2.1 _ _ (by rcases hc with rfl | rfl <;> omega)).trans (hm.2.1.2.trans hm.2.1.1.1)
      have r5 : kR g 0 5 = c := (F.2.1 0 5).trans h5
      have b1 : f_X9_byteAt g 1 (Int32.ofNat (4 + 2 * k)) = some (Int32.ofNat (tyN h (4 + 2 * k))) := x_byte rg ht (by omega) (F.2.2.1 _ _ (by omega))
      have rg1 := rg.sI 65 k (Int32.ofNat (tyN h (4 + 2 * k)))
      have b2 : f_X9_byteAt (ksI g 65 k (Int32.ofNat (tyN h (4 + 2 * k)))) 1 (Int32.ofNat (5 + 2 * k)) = some (Int32.ofNat (tyN h (5 + 2 * k))) := x_byte rg1 ht (by omega) (by rw [kI_sI, if_neg (by omega)]; exact F.2.2.1 _ _ (by omega))
      refine ⟨(Int32.ofNat (k + 1), ksI (ksI g 65 k (Int32.ofNat (tyN h (4 + 2 * k)))) 66 k (Int32.ofNat (tyN h (5 + 2 * k)))), ?_, rfl, (p2.sI _ (Or.inl rfl)).sI _ (Or.inr rfl), fun t h6 => ?_⟩
      · unfold f_X11_takeImage_l39
        dsimp only
        rw [if_pos kk0, r5, if_pos (show c < 999999 by omega), if_pos (ct_kk hc), e5, if_neg (by rw [n32_le (by omega) (by omega)]; omega), rf0_7 rg, if_pos (show 64 < 999999 by omega), if_pos kk64, rf64_3 rg, if_pos (show 65 < 999999 by omega), rf0_0 rg, if_pos (show 1 < 999999 by omega), if_pos kk1, n32_mulr, n32_addr, b1, kb_s, if_pos kk65, kn65, if_neg (by rw [n32_cl (by omega)]; exact fun z => z.elim (n32_nn (by omega)) (by omega)), n32_cl (by omega), kl_e]
        rw [rf0_7 rg1, if_pos (show 64 < 999999 by omega), if_pos kk64, rf64_4 rg1, if_pos (show 66 < 999999 by omega), rf0_0 rg1, if_pos (show 1 < 999999 by omega), if_pos kk1, n32_addr, b2, kb_s, if_pos kk66, kn66, if_neg (fun z => z.elim (n32_nn (by omega)) (by omega)), kl_e, kl_e, n32_addl]
      · dsimp only
        obtain ⟨q1, q2⟩ := p3 t h6
        refine ⟨?_, ?_⟩
        · rw [kI_sI, if_neg (show ¬ (65 = 66 ∧ t = k) by omega), kI_sI]
          by_cases z : t = k
          · rw [if_pos ⟨rfl, z⟩, if_pos (show t < k + 1 by omega), z]
          · rw [if_neg (show ¬ (65 = 65 ∧ t = k) by omega), q1]
            by_cases y : t < k
            · rw [if_pos y, if_pos (show t < k + 1 by omega)]
            · rw [if_neg y, if_neg (show ¬ t < k + 1 by omega)]
        · rw [kI_sI]
          by_cases z : t = k
          · rw [if_pos ⟨rfl, z⟩, if_pos (show t < k + 1 by omega), z]
          · rw [if_neg (show ¬ (66 = 66 ∧ t = k) by omega), kI_sI, if_neg (show ¬ (66 = 65 ∧ t = k) by omega), q2]
            by_cases y : t < k
            · rw [if_pos y, if_pos (show t < k + 1 by omega)]
            · rw [if_neg y, if_neg (show ¬ t < k + 1 by omega)]) (fun s hP => by
      obtain ⟨s1, g⟩ := s
      obtain ⟨p1, p2, p3⟩ := hP
      dsimp only at p1 p2 p3
      subst p1
      have F : kfp (fun l i => 64 ≤ l ∧ l ≤ 67) h g := F2.tr (p2.wide fun l i y => by omega)
      have e5 : kI g c 4 = Int32.ofNat (kN h 198 4) := (F.2.2.1 _ _ (by rcases hc with rfl | rfl <;> omega)).trans (hm.2.1.2.trans hm.2.1.1.1)
      have r5 : kR g 0 5 = c := (F.2.1 0 5).trans h5
      refine ⟨g, ?_, p2, p3⟩
      unfold f_X11_takeImage_l39
      dsimp only
      rw [if_pos kk0, r5, if_pos (show c < 999999 by omega), if_pos (ct_kk hc), e5, if_pos (by rw [n32_le (by omega) (by omega)]; omega)])
  have F3 : kfp (fun l i => 64 ≤ l ∧ l ≤ 67) h g3 := F2.tr (f3.wide fun l i y => by omega)
  obtain ⟨g4, e4, f4, v4⟩ := kloop_inv (body := f_X11_takeImage_l100 0) (fun k s => s.1 = Int32.ofNat k ∧ kfp (fun l i => l = 67) g3 s.2 ∧ ∀ t, t < 10 → kI s.2 67 t = Int32.ofNat (if t < k then tyN h (4 + 2 * kN h 198 4 + t) else 0))
    (fun r => kfp (fun l i => l = 67) g3 r ∧ ∀ t, t < 10 → kI r 67 t = Int32.ofNat (if t < 2 * kN h 198 5 then tyN h (4 + 2 * kN h 198 4 + t) else 0)) (2 * kN h 198 5) (s0 := ((0 : Int32), g3)) (by omega) ⟨rfl, kfp.rf, fun t h6 => by
      dsimp only
      rw [if_neg (by omega), f3.2.2.1 _ _ (by omega), f2.2.2.1 _ _ (by omega), f1.2.2.1 _ _ (by omega)]
      exact c3 t h6⟩ (fun k s hk hP => by
      obtain ⟨s1, g⟩ := s
      obtain ⟨p1, p2, p3⟩ := hP
      dsimp only at p1 p2 p3
      subst p1
      have F : kfp (fun l i => 64 ≤ l ∧ l ≤ 67) h g := F3.tr (p2.wide fun l i y => by omega)
      have rg := hr.fp F
      have e5 : kI g c 4 = Int32.ofNat (kN h 198 4) := (F.2.2.1 _ _ (by rcases hc with rfl | rfl <;> omega)).trans (hm.2.1.2.trans hm.2.1.1.1)
      have e6 : kI g c 5 = Int32.ofNat (kN h 198 5) := (F.2.2.1 _ _ (by rcases hc with rfl | rfl <;> omega)).trans (hm.2.2.1.2.trans hm.2.2.1.1.1)
      have r5 : kR g 0 5 = c := (F.2.1 0 5).trans h5
      have b1 : f_X9_byteAt g 1 (Int32.ofNat (4 + 2 * kN h 198 4 + k)) = some (Int32.ofNat (tyN h (4 + 2 * kN h 198 4 + k))) := x_byte rg ht (by omega) (F.2.2.1 _ _ (by omega))
      refine ⟨(Int32.ofNat (k + 1), ksI g 67 k (Int32.ofNat (tyN h (4 + 2 * kN h 198 4 + k)))), ?_, rfl, p2.sI _ rfl, fun t h6 => ?_⟩
      · unfold f_X11_takeImage_l100
        dsimp only
        rw [if_pos kk0, r5, if_pos (show c < 999999 by omega), if_pos (ct_kk hc), e6, n32_mulr, if_neg (by rw [n32_le (by omega) (by omega)]; omega), rf0_7 rg, if_pos (show 64 < 999999 by omega), if_pos kk64, rf64_5 rg, if_pos (show 67 < 999999 by omega), rf0_0 rg, if_pos (show 1 < 999999 by omega), if_pos kk1, e5, n32_mulr, n32_addr, n32_add, b1, kb_s, if_pos kk67, kn67, if_neg (by rw [n32_cl (by omega)]; exact fun z => z.elim (n32_nn (by omega)) (by omega)), n32_cl (by omega), kl_e, kl_e, n32_addl]
      · dsimp only
        rw [kI_sI]
        by_cases z : t = k
        · subst z
          rw [if_pos ⟨rfl, rfl⟩, if_pos (show t < t + 1 by omega)]
        · rw [if_neg (by omega), p3 t h6]
          by_cases y : t < k
          · rw [if_pos y, if_pos (by omega)]
          · rw [if_neg y, if_neg (by omega)]) (fun s hP => by
      obtain ⟨s1, g⟩ := s
      obtain ⟨p1, p2, p3⟩ := hP
      dsimp only at p1 p2 p3
      subst p1
      have F : kfp (fun l i => 64 ≤ l ∧ l ≤ 67) h g := F3.tr (p2.wide fun l i y => by omega)
      have e6 : kI g c 5 = Int32.ofNat (kN h 198 5) := (F.2.2.1 _ _ (by rcases hc with rfl | rfl <;> omega)).trans (hm.2.2.1.2.trans hm.2.2.1.1.1)
      have r5 : kR g 0 5 = c := (F.2.1 0 5).trans h5
      refine ⟨g, ?_, p2, p3⟩
      unfold f_X11_takeImage_l100
      dsimp only
      rw [if_pos kk0, r5, if_pos (show c < 999999 by omega), if_pos (ct_kk hc), e6, n32_mulr, if_pos (by rw [n32_le (by omega) (by omega)]; omega)])
  have F4 : kfp (fun l i => 64 ≤ l ∧ l ≤ 67) h g4 := F3.tr (f4.wide fun l i y => by omega)
  have r4 := hr.fp F4
  have J : ∀ i, kI g4 64 i = kI g2 64 i := fun i => by rw [f4.2.2.1 _ _ (by omega), f3.2.2.1 _ _ (by omega)]
  refine ⟨ksI (ksI g4 72 3 0) 155 3 0, ?_, ((F4.wide fun l i y => by omega).sI _ (by omega)).sI _ (by omega), ?_, ?_, ?_, fun t h6 => ?_, fun i hi => ?_, ?_, ?_⟩
  · unfold f_X11_takeImage
    have p0 : f_X9_pairAt g0 1 (0 : Int32) = some (Int32.ofNat (tyN h 0 * 256 + tyN h 1)) := x_pair (k := 0) r0 ht (by omega) (fun i => fc.2.2.1 _ _ (by omega))
    have p2 : f_X9_pairAt g1 1 (2 : Int32) = some (Int32.ofNat (tyN h 2 * 256 + tyN h 3)) := x_pair (k := 2) r1 ht (by omega) (fun i => by rw [f1.2.2.1 _ _ (by omega), fc.2.2.1 _ _ (by omega)])
    rw [if_pos kk0, rf0_7 hr, if_pos (show 64 < 999999 by omega), if_pos kk64, x_clear (St64 hr), hg0, kb_s, rf0_7 r0, if_pos (show 64 < 999999 by omega), rf0_0 r0, if_pos (show 1 < 999999 by omega), if_pos kk1, p0, kb_s, if_pos kk64, ← e1, kl_e, rf0_7 r1, if_pos (show 64 < 999999 by omega), rf0_0 r1, if_pos (show 1 < 999999 by omega), if_pos kk1, p2, kb_s, if_pos kk64, ← e2, kl_e, e3, kb_s, e4, kb_s, rf0_9 r4, if_pos (show 72 < 999999 by omega), if_pos kk72, kl_e, rf0_10 (r4.sI _ _ _), if_pos (show 155 < 999999 by omega), if_pos kk155, kl_e]
  · rw [kI_sI, if_neg (by omega), kI_sI, if_neg (by omega), J, f2.2.2.1 _ _ (by omega), e1, kI_sI, if_pos ⟨rfl, rfl⟩]
  · rw [kI_sI, if_neg (by omega), kI_sI, if_neg (by omega), J, e2, kI_sI, if_pos ⟨rfl, rfl⟩]
  · rw [kI_sI, if_neg (by omega), kI_sI, if_neg (by omega), J, f2.2.2.1 _ _ (by omega), f1.2.2.1 _ _ (by omega)]
    exact c1 2 (by omega)
  · obtain ⟨w1, w2⟩ := v3 t h6
    exact ⟨by rw [kI_sI, if_neg (show ¬ (65 = 155 ∧ t = 3) by omega), kI_sI, if_neg (show ¬ (65 = 72 ∧ t = 3) by omega), f4.2.2.1 _ _ (by omega), w1], by rw [kI_sI, if_neg (show ¬ (66 = 155 ∧ t = 3) by omega), kI_sI, if_neg (show ¬ (66 = 72 ∧ t = 3) by omega), f4.2.2.1 _ _ (by omega), w2]⟩
  · rw [kI_sI, if_neg (by omega), kI_sI, if_neg (by omega)]
    exact v4 i hi
  · rw [kI_sI, if_neg (by omega), kI_sI, if_pos ⟨rfl, rfl⟩]
    rfl
  · rw [kI_sI, if_pos ⟨rfl, rfl⟩]
