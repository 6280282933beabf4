/-! on: both sides -/
theorem m_onLoops {h g : KH} {c : Nat} (rc : RC h c) (ht : Rtape h) (hr : kRefs g) (g174 : ∀ i, kI g 174 i = kI h 174 i) (g198 : ∀ i, kI g 198 i = kI h 198 i) :
    ∃ g1 g2, kloop (f_X12_on_l54 173) KF ((0 : Int32), g) = some g1 ∧ kloop (f_X12_on_l88 173) KF ((0 : Int32), g1) = some g2 ∧ kfp (fun l i => l = 207 ∧ 2 ≤ i ∧ i < 24) g g2 ∧
      (∀ i, i < 12 → kI g2 207 (2 + i) = if i < 2 * kN h 198 4 then Int32.ofNat (tyN h (4 + i)) else kI g 207 (2 + i)) ∧ ∀ i, i < 10 → kI g2 207 (14 + i) = if i < 2 * kN h 198 5 then Int32.ofNat (tyN h (4 + 2 * kN h 198 4 + i)) else kI g 207 (14 + i) := by
  obtain ⟨-, hc, h5, hm, -⟩ := id rc
  have n4 := hm.2.1.1.2
  have n5 := hm.2.2.1.1.2
  have gb : ∀ i, i < 1600 → kI g 174 i = Int32.ofNat (tyN h i) := fun i hi => by rw [g174]; exact (ht.ty hi).1
  have E4 : kI g 198 4 = Int32.ofNat (kN h 198 4) := by rw [g198]; exact hm.2.1.1.1
  have E5 : kI g 198 5 = Int32.ofNat (kN h 198 5) := by rw [g198]; exact hm.2.2.1.1.1
  obtain ⟨g1, e1, f1, v1⟩ := kloop_inv (body := f_X12_on_l54 173) (fun k s => s.1 = Int32.ofNat k ∧ kfp (fun l i => l = 207 ∧ 2 ≤ i ∧ i < 14) g s.2 ∧ ∀ t, t < 12 → kI s.2 207 (2 + t) = if t < k then Int32.ofNat (tyN h (4 + t)) else kI g 207 (2 + t))
    (fun r => kfp (fun l i => l = 207 ∧ 2 ≤ i ∧ i < 14) g r ∧ ∀ t, t < 12 → kI r 207 (2 + t) = if t < 2 * kN h 198 4 then Int32.ofNat (tyN h (4 + t)) else kI g 207 (2 + t)) (2 * kN h 198 4) (s0 := ((0 : Int32), g)) (by omega) ⟨rfl, kfp.rf, fun t _ => by dsimp only; rw [if_neg (by omega)]⟩ (fun k s hk hP => by
      obtain ⟨s1, q⟩ := s
      obtain ⟨p1, p2, p3⟩ := hP
      dsimp only at p1 p2 p3
      subst p1
      have rg := hr.fp p2
      have e4 : kI q 198 4 = Int32.ofNat (kN h 198 4) := (p2.2.2.1 _ _ (by omega)).trans E4
      have b1 : kI q 174 (4 + k) = Int32.ofNat (tyN h (4 + k)) := (p2.2.2.1 _ _ (by omega)).trans (gb _ (by omega))
      refine ⟨(Int32.ofNat (k + 1), ksI q 207 (2 + k) (Int32.ofNat (tyN h (4 + k)))), ?_, rfl, p2.sI _ ⟨rfl, by omega, by omega⟩, fun t h6 => ?_⟩
      · unfold f_X12_on_l54
        dsimp only
        rw [if_pos kk173, m_testMany rg, kb_s, e4, n32_mulr, if_neg (by rw [n32_le (by omega) (by omega)]; omega), rf173_45 rg, if_pos (show 207 < 999999 by omega), rf173_0 rg, if_pos (show 174 < 999999 by omega), if_pos kk174, kn174, n32_addr, if_neg (by rw [n32_cl (by omega)]; exact fun z => z.elim (n32_nn (by omega)) (by omega)), if_pos kk207, kn207, n32_addr, if_neg (by rw [n32_cl (by omega)]; exact fun z => z.elim (n32_nn (by omega)) (by omega)), n32_cl (by omega), n32_cl (by omega), b1, kl_e, kl_e, n32_addl]
      · dsimp only
        rw [kI_sI]
        by_cases z : t = k
        · rw [if_pos ⟨rfl, by omega⟩, if_pos (show t < k + 1 by omega), z]
        · rw [if_neg (by omega), p3 t h6]
          by_cases y : t < k
          · rw [if_pos y, if_pos (show t < k + 1 by omega)]
          · rw [if_neg y, if_neg (show ¬ t < k + 1 by omega)]) (fun s hP => by
      obtain ⟨s1, q⟩ := s
      obtain ⟨p1, p2, p3⟩ := hP
      dsimp only at p1 p2 p3
      subst p1
      have rg := hr.fp p2
      have e4 : kI q 198 4 = Int32.ofNat (kN h 198 4) := (p2.2.2.1 _ _ (by omega)).trans E4
      refine ⟨q, ?_, p2, p3⟩
      unfold f_X12_on_l54
      dsimp only
      rw [if_pos kk173, m_testMany rg, kb_s, e4, n32_mulr, if_pos (by rw [n32_le (by omega) (by omega)]; omega)])
  have r1 := hr.fp f1
  obtain ⟨g2, e2, f2, v2⟩ := kloop_inv (body := f_X12_on_l88 173) (fun k s => s.1 = Int32.ofNat k ∧ kfp (fun l i => l = 207 ∧ 14 ≤ i ∧ i < 24) g1 s.2 ∧ ∀ t, t < 10 → kI s.2 207 (14 + t) = if t < k then Int32.ofNat (tyN h (4 + 2 * kN h 198 4 + t)) else kI g 207 (14 + t))
    (fun r => kfp (fun l i => l = 207 ∧ 14 ≤ i ∧ i < 24) g1 r ∧ ∀ t, t < 10 → kI r 207 (14 + t) = if t < 2 * kN h 198 5 then Int32.ofNat (tyN h (4 + 2 * kN h 198 4 + t)) else kI g 207 (14 + t)) (2 * kN h 198 5) (s0 := ((0 : Int32), g1)) (by omega) ⟨rfl, kfp.rf, fun t _ => by dsimp only; rw [if_neg (by omega), f1.2.2.1 _ _ (by omega)]⟩ (fun k s hk hP => by
      obtain ⟨s1, q⟩ := s
      obtain ⟨p1, p2, p3⟩ := hP
      dsimp only at p1 p2 p3
      subst p1
      have rg := r1.fp p2
      have e4 : kI q 198 4 = Int32.ofNat (kN h 198 4) := by rw [p2.2.2.1 _ _ (by omega), f1.2.2.1 _ _ (by omega), E4]
      have e5 : kI q 198 5 = Int32.ofNat (kN h 198 5) := by rw [p2.2.2.1 _ _ (by omega), f1.2.2.1 _ _ (by omega), E5]
      have b1 : kI q 174 (4 + 2 * kN h 198 4 + k) = Int32.ofNat (tyN h (4 + 2 * kN h 198 4 + k)) := by rw [p2.2.2.1 _ _ (by omega), f1.2.2.1 _ _ (by omega), gb _ (by omega)]
      refine ⟨(Int32.ofNat (k + 1), ksI q 207 (14 + k) (Int32.ofNat (tyN h (4 + 2 * kN h 198 4 + k)))), ?_, rfl, p2.sI _ ⟨rfl, by omega, by omega⟩, fun t h6 => ?_⟩
      · unfold f_X12_on_l88
        dsimp only
        rw [if_pos kk173, m_markMany rg, kb_s, e5, n32_mulr, if_neg (by rw [n32_le (by omega) (by omega)]; omega), rf173_45 rg, if_pos (show 207 < 999999 by omega), rf173_0 rg, if_pos (show 174 < 999999 by omega), m_testMany rg, kb_s, e4, if_pos kk174, kn174, n32_mulr, n32_addr, n32_add, if_neg (by rw [n32_cl (by omega)]; exact fun z => z.elim (n32_nn (by omega)) (by omega)), if_pos kk207, kn207, n32_addr, if_neg (by rw [n32_cl (by omega)]; exact fun z => z.elim (n32_nn (by omega)) (by omega)), n32_cl (by omega), n32_cl (by omega), b1, kl_e, kl_e, n32_addl]
      · dsimp only
        rw [kI_sI]
        by_cases z : t = k
        · rw [if_pos ⟨rfl, by omega⟩, if_pos (show t < k + 1 by omega), z]
        · rw [if_neg (by omega), p3 t h6]
          by_cases y : t < k
          · rw [if_pos y, if_pos (show t < k + 1 by omega)]
          · rw [if_neg y, if_neg (show ¬ t < k + 1 by omega)]) (fun s hP => by
      obtain ⟨s1, q⟩ := s
      obtain ⟨p1, p2, p3⟩ := hP
      dsimp only at p1 p2 p3
      subst p1
      have rg := r1.fp p2
      have e5 : kI q 198 5 = Int32.ofNat (kN h 198 5) := by rw [p2.2.2.1 _ _ (by omega), f1.2.2.1 _ _ (by omega), E5]
      refine ⟨q, ?_, p2, p3⟩
      unfold f_X12_on_l88
      dsimp only
      rw [if_pos kk173, m_markMany rg, kb_s, e5, n32_mulr, if_pos (by rw [n32_le (by omega) (by omega)]; omega)])
  refine ⟨g1, g2, e1, e2, (f1.wide fun l i y => by omega).tr (f2.wide fun l i y => by omega), fun i hi => ?_, v2⟩
  rw [f2.2.2.1 _ _ (by omega)]
  exact v1 i hi
def Wtl (l i : Nat) : Prop := (l = 1 ∧ i = 1) ∨ (l = 173 ∧ i = 1)
/-- the same, where the tape goes too (or other cells of W change) -/
def AftW (W : Nat → Nat → Prop) (h h' : KH) : Prop := (kfp (fun l i => Wref l i ∨ W l i) h h' ∧ Rref h') ∨ (RS h' ∧ RK h' ∧ Rpast h' ∧ kI h' 155 3 = 0 ∧ kfp (fun l i => Wact l i ∨ W l i) h h')
theorem bd_t {h : KH} {t : Nat} (ht : t < kN h 198 4) : bdN h (4 + 2 * t) = 99 ∧ bdN h (5 + 2 * t) = 4 := by
  unfold bdN
  rw [if_pos (by omega), if_pos (by omega), if_pos (by omega), if_neg (by omega)]
  exact ⟨rfl, rfl⟩
theorem c_on {h : KH} {c : Nat} (rc : RC h c) (ht : Rtape h) (rs : RS h) (rp : Rpast h) (hf : Rref h) : ∃ r h1 h2, f_X11_on h 0 = some (r, h1) ∧ f_X12_on h1 173 = some (r, h2) ∧ Rtape h2 ∧ AftW Wtl h h2 := by
  obtain ⟨hr, hc, h5, hm, -⟩ := id rc
  obtain ⟨⟨t, t16, t1, t2⟩, tb⟩ := id ht
  have n4 := hm.2.1.1.2
  have n5 := hm.2.2.1.1.2
  rcases x_isImage rc ht t1 t16 with ⟨P, ex⟩ | ⟨P, ex⟩
  · obtain ⟨g1, e1, f1, x0, x1, x2, x3, x4, x5, x6⟩ := x_takeImage rc ht
    have r1 := hr.fp f1
    obtain ⟨g2, e2⟩ : ∃ g, g = ksI g1 1 1 0 := ⟨_, rfl⟩
    have f2 : kfp (fun l i => l = 1 ∧ i = 1) g1 g2 := by rw [e2]; exact kfp.rf.sI _ ⟨rfl, rfl⟩
    have r2 := r1.fp f2
    obtain ⟨g3, e3⟩ : ∃ g, g = ksI g2 173 1 0 := ⟨_, rfl⟩
    have f3 : kfp (fun l i => l = 173 ∧ i = 1) g2 g3 := by rw [e3]; exact kfp.rf.sI _ ⟨rfl, rfl⟩
    have r3 := r2.fp f3
    have F3 : kfp (fun l i => (64 ≤ l ∧ l ≤ 67) ∨ (l = 72 ∧ i = 3) ∨ (l = 155 ∧ i = 3) ∨ (l = 1 ∧ i = 1) ∨ (l = 173 ∧ i = 1)) h g3 := ((f1.wide fun l i y => by omega).tr (f2.wide fun l i y => by omega)).tr (f3.wide fun l i y => by omega)
    have g174 : ∀ i, kI g3 174 i = kI h 174 i := fun i => F3.2.2.1 _ _ (by omega)
    have g198 : ∀ i, kI g3 198 i = kI h 198 i := fun i => F3.2.2.1 _ _ (by omega)
    have em : f_X12_isImage g3 173 (Int32.ofNat t) = some 1 := by
      rcases m_isImage rc ht r3 g174 g198 t16 with ⟨-, q⟩ | ⟨q, -⟩
      · exact q
      · exact absurd P q
    obtain ⟨g4, e4⟩ : ∃ g, g = ksI (ksI g3 207 0 (Int32.ofNat (tyN h 0 * 256 + tyN h 1))) 207 1 (Int32.ofNat (tyN h 2 * 256 + tyN h 3)) := ⟨_, rfl⟩
    have f4 : kfp (fun l i => l = 207 ∧ i < 2) g3 g4 := by rw [e4]; exact (kfp.rf.sI _ ⟨rfl, by omega⟩).sI _ ⟨rfl, by omega⟩
    have r4 := r3.fp f4
    obtain ⟨g5, g6, e5, e6, f6, v6, w6⟩ := m_onLoops rc ht r4 (fun i => by rw [f4.2.2.1 _ _ (by omega), g174]) (fun i => by rw [f4.2.2.1 _ _ (by omega), g198])
    have r6 := r4.fp f6
    obtain ⟨g7, e7⟩ : ∃ g, g = ksI (ksI g6 207 24 0) 173 61 0 := ⟨_, rfl⟩
    have f7 : kfp (fun l i => (l = 207 ∧ i = 24) ∨ (l = 173 ∧ i = 61)) g6 g7 := by rw [e7]; exact (kfp.rf.sI _ (by omega)).sI _ (by omega)
    have F7 : kfp (fun l i => (64 ≤ l ∧ l ≤ 67) ∨ (l = 72 ∧ i = 3) ∨ (l = 155 ∧ i = 3) ∨ (l = 1 ∧ i = 1) ∨ (l = 173 ∧ (i = 1 ∨ i = 61)) ∨ (l = 207 ∧ i < 25)) h g7 := (((F3.wide fun l i y => by omega).tr (f4.wide fun l i y => by omega)).tr (f6.wide fun l i y => by omega)).tr (f7.wide fun l i y => by omega)
    have X : ∀ l i, 64 ≤ l → l ≤ 155 → kI g7 l i = kI g1 l i := fun l i y1 y2 => by rw [f7.2.2.1 _ _ (by omega), f6.2.2.1 _ _ (by omega), f4.2.2.1 _ _ (by omega), f3.2.2.1 _ _ (by omega), f2.2.2.1 _ _ (by omega)]
    have m0 : kI g7 207 0 = Int32.ofNat (tyN h 0 * 256 + tyN h 1) := by rw [f7.2.2.1 _ _ (by omega), f6.2.2.1 _ _ (by omega), e4, kI_sI, if_neg (by omega), kI_sI, if_pos ⟨rfl, rfl⟩]
    have m1 : kI g7 207 1 = Int32.ofNat (tyN h 2 * 256 + tyN h 3) := by rw [f7.2.2.1 _ _ (by omega), f6.2.2.1 _ _ (by omega), e4, kI_sI, if_pos ⟨rfl, rfl⟩]
    have m24 : kI g7 207 24 = Int32.ofNat 0 := by rw [e7, kI_sI, if_neg (by omega), kI_sI, if_pos ⟨rfl, rfl⟩]; rfl
    have old : ∀ i, kI g4 207 (2 + i) = kI h 207 (2 + i) := fun i => by rw [f4.2.2.1 _ _ (by omega), F3.2.2.1 _ _ (by omega)]
    have mt : ∀ t, t < 6 → kI g7 207 (2 + 2 * t) = Int32.ofNat (if t < kN h 198 4 then tyN h (4 + 2 * t) else 0) ∧ kI g7 207 (2 + 2 * t + 1) = Int32.ofNat (if t < kN h 198 4 then tyN h (5 + 2 * t) else 0) := fun t h6 => by
      refine ⟨?_, ?_⟩
      · rw [f7.2.2.1 _ _ (by omega), v6 _ (by omega)]
        by_cases y : t < kN h 198 4
        · rw [if_pos (by omega), if_pos y]
        · rw [if_neg (by omega), if_neg y, old, (rs.t h6).1.1, rs.tz h6 (by omega)]
      · rw [f7.2.2.1 _ _ (by omega), show 2 + 2 * t + 1 = 2 + (2 * t + 1) by omega, v6 _ (by omega)]
        by_cases y : t < kN h 198 4
        · rw [if_pos (by omega), if_pos y, show 4 + (2 * t + 1) = 5 + 2 * t by omega]
        · rw [if_neg (by omega), if_neg y, old, show 2 + (2 * t + 1) = 2 + 2 * t + 1 by omega, (rs.a h6).1.1, rs.az h6 (by omega)]
    have ml : ∀ i, i < 10 → kI g7 207 (14 + i) = Int32.ofNat (if i < 2 * kN h 198 5 then tyN h (4 + 2 * kN h 198 4 + i) else 0) := fun i hi => by
      rw [f7.2.2.1 _ _ (by omega), w6 i hi]
      by_cases y : i < 2 * kN h 198 5
      · rw [if_pos y, if_pos y]
      · have o2 := old (12 + i)
        rw [show 2 + (12 + i) = 14 + i by omega] at o2
        rw [if_neg y, if_neg y, o2, (rs.l hi).1.1, rs.lz hi (by omega)]
    have c4 : kN g7 198 4 = kN h 198 4 := kN_same (F7.2.2.1 _ _ (by omega))
    have c5 : kN g7 198 5 = kN h 198 5 := kN_same (F7.2.2.1 _ _ (by omega))
    obtain ⟨P1, P2, P3, P4, P5⟩ := P
    have k2 : kI g7 64 2 = Int32.ofNat 0 := (X _ _ (by omega) (by omega)).trans x2
    have k2N : kN g7 64 2 = 0 := kN_of k2 (by omega)
    refine ⟨1, g2, g7, ?_, ?_, ⟨⟨0, by omega, ?_, ?_⟩, fun i hi => ?_⟩, Or.inr ⟨⟨⟨cn_of m0 P2 (by omega), ?_⟩, ⟨cn_of (l := 207) (i := 0 + 1) m1 P3 (by omega), ?_⟩, fun t h6 => ?_, fun i hi => ?_⟩, ⟨⟨cn_of k2 (by omega) (by omega), by omega⟩, ?_, fun j hj => ?_⟩, ?_, ?_, F7.wide fun l i y => by unfold Wact Wtl; omega⟩⟩
    · unfold f_X11_on f_X11_on_b22
      rw [if_pos kk0, ex, kb_s, if_neg (show ¬ ((1 : Int32) = 0) by decide), e1, kb_s, if_pos kk0, rf0_0 r1, if_pos (show 1 < 999999 by omega), if_pos kk1, kl_e, ← e2, if_pos (Or.inr rfl)]
    · have e21 : kI g2 173 1 = Int32.ofNat t := by rw [f2.2.2.1 _ _ (by omega), f1.2.2.1 _ _ (by omega), t2]
      have p0 : f_X12_twoAt g3 173 (0 : Int32) = some (Int32.ofNat (tyN h 0 * 256 + tyN h 1)) := m_twoAt (k := 0) r3 ht (by omega) g174
      have p2 : f_X12_twoAt (ksI g3 207 0 (Int32.ofNat (tyN h 0 * 256 + tyN h 1))) 173 (2 : Int32) = some (Int32.ofNat (tyN h 2 * 256 + tyN h 3)) := m_twoAt (k := 2) (r3.sI _ _ _) ht (by omega) (fun i => by rw [kI_sI, if_neg (by omega), g174])
      unfold f_X12_on
      rw [if_pos kk173, e21, kl_e, ← e3, kl_e, em, kb_s, if_neg (show ¬ ((1 : Int32) = 0) by decide), rf173_45 r3, if_pos (show 207 < 999999 by omega), p0, kb_s, if_pos kk207, kn207, if_neg (show ¬ 185 ≤ 0 by omega), kl_e, rf173_45 (r3.sI _ _ _), if_pos (show 207 < 999999 by omega), p2, kb_s, if_pos kk207, kn207, if_neg (show ¬ 185 ≤ 1 by omega), ← e4, kl_e, e5, kb_s, e6, kb_s, rf173_45 r6, if_pos (show 207 < 999999 by omega), if_pos kk207, kn207, if_neg (show ¬ 185 ≤ 24 by omega), kl_e, kl_e, ← e7]
    · rw [f7.2.2.1 _ _ (by omega), f6.2.2.1 _ _ (by omega), f4.2.2.1 _ _ (by omega), f3.2.2.1 _ _ (by omega), e2, kI_sI, if_pos ⟨rfl, rfl⟩]
      rfl
    · rw [f7.2.2.1 _ _ (by omega), f6.2.2.1 _ _ (by omega), f4.2.2.1 _ _ (by omega), e3, kI_sI, if_pos ⟨rfl, rfl⟩]
      rfl
    · rw [F7.2.2.1 _ _ (by omega), F7.2.2.1 _ _ (by omega)]
      exact tb i hi
    · exact ((X _ _ (by omega) (by omega)).trans x0).trans m0.symm
    · exact ((X _ _ (by omega) (by omega)).trans x1).trans m1.symm
    · rw [Nat.zero_add, Nat.zero_add, c4]
      obtain ⟨a1, a2⟩ := mt t h6
      obtain ⟨b1, b2⟩ := x3 t h6
      by_cases y : t < kN h 198 4
      · obtain ⟨d1, d2⟩ := bd_t y
        have q1 := P4 (4 + 2 * t) (by omega) (by omega)
        have q2 := P4 (5 + 2 * t) (by omega) (by omega)
        rw [d1] at q1
        rw [d2] at q2
        rw [if_pos y] at a1 a2
        refine ⟨⟨cn_of a1 q1 (by omega), ?_⟩, ⟨cn_of a2 q2 (by omega), ?_⟩, fun z => by omega⟩
        · rw [X _ _ (by omega) (by omega), b1, if_pos y, a1]
        · rw [X _ _ (by omega) (by omega), b2, if_pos y, a2]
      · rw [if_neg y] at a1 a2
        refine ⟨⟨cn_of a1 (by omega) (by omega), ?_⟩, ⟨cn_of a2 (by omega) (by omega), ?_⟩, fun z => ⟨kN_of a1 (by omega), kN_of a2 (by omega)⟩⟩
        · rw [X _ _ (by omega) (by omega), b1, if_neg y, a1]
        · rw [X _ _ (by omega) (by omega), b2, if_neg y, a2]
    · rw [Nat.zero_add, c5]
      have a1 := ml i hi
      have b1 := x4 i hi
      by_cases y : i < 2 * kN h 198 5
      · have q1 := P4 (4 + 2 * kN h 198 4 + i) (by omega) (by omega)
        have d1 : bdN h (4 + 2 * kN h 198 4 + i) = 2 := if_neg (by omega)
        rw [d1] at q1
        rw [if_pos y] at a1
        refine ⟨cn_of a1 q1 (by omega), ?_, fun z => by omega⟩
        rw [X _ _ (by omega) (by omega), b1, if_pos y, a1]
      · rw [if_neg y] at a1
        refine ⟨cn_of a1 (by omega) (by omega), ?_, fun z => kN_of a1 (by omega)⟩
        rw [X _ _ (by omega) (by omega), b1, if_neg y, a1]
    · rw [k2N]
      exact m24
    · rw [k2N] at hj
      exact absurd hj (by omega)
    · obtain ⟨n, a, q1, q2, q3, q4, q5, q6, -⟩ := rp
      refine ⟨0, a, by omega, q2, (X _ _ (by omega) (by omega)).trans x5, ?_, ?_, ?_, fun k k1 k0 => by omega⟩
      · rw [e7, kI_sI, if_pos ⟨rfl, rfl⟩]
        rfl
      · rw [F7.2.2.1 _ _ (by omega)]; exact q5
      · rw [F7.2.2.1 _ _ (by omega)]; exact q6
    · exact (X _ _ (by omega) (by omega)).trans x6
  · have r1 := hr.sI 172 5 (kI h 172 5 + 1)
    obtain ⟨g2, e2⟩ : ∃ g, g = ksI (ksI h 172 5 (kI h 172 5 + 1)) 1 1 0 := ⟨_, rfl⟩
    have f2 : kfp (fun l i => (l = 172 ∧ i = 5) ∨ (l = 1 ∧ i = 1)) h g2 := by rw [e2]; exact (kfp.rf.sI _ (by omega)).sI _ (by omega)
    obtain ⟨g3, e3⟩ : ∃ g, g = ksI g2 173 1 0 := ⟨_, rfl⟩
    have f3 : kfp (fun l i => (l = 172 ∧ i = 5) ∨ (l = 1 ∧ i = 1) ∨ (l = 173 ∧ i = 1)) h g3 := by rw [e3]; exact (f2.wide fun l i y => by omega).sI _ (by omega)
    have r3 := hr.fp f3
    have em : f_X12_isImage g3 173 (Int32.ofNat t) = some 0 := by
      rcases m_isImage rc ht r3 (fun i => f3.2.2.1 _ _ (by omega)) (fun i => f3.2.2.1 _ _ (by omega)) t16 with ⟨q, -⟩ | ⟨-, q⟩
      · exact absurd q P
      · exact q
    have F4 : kfp (fun l i => Wref l i ∨ Wtl l i) h (ksI g3 175 5 (kI g3 175 5 + 1)) := (f3.wide fun l i y => by unfold Wref Wtl; omega).sI _ (by unfold Wref; omega)
    refine ⟨0, g2, ksI g3 175 5 (kI g3 175 5 + 1), ?_, ?_, ⟨⟨0, by omega, ?_, ?_⟩, fun i hi => ?_⟩, Or.inl ⟨F4, fun j hj => ?_⟩⟩
    · unfold f_X11_on f_X11_on_b22
      rw [if_pos kk0, ex, kb_s, if_pos rfl, show (5 : Int32) = Int32.ofNat 5 from rfl, x_refuse hr (by omega), kb_s, if_pos kk0, rf0_0 r1, if_pos (show 1 < 999999 by omega), if_pos kk1, kl_e, ← e2, if_pos (Or.inl rfl)]
    · have e21 : kI g2 173 1 = Int32.ofNat t := by rw [f2.2.2.1 _ _ (by omega), t2]
      unfold f_X12_on
      rw [if_pos kk173, e21, kl_e, ← e3, kl_e, em, kb_s, if_pos rfl, rf173_9 r3, if_pos (show 175 < 999999 by omega), if_pos kk175, kn175, if_neg (show ¬ 6 ≤ 5 by omega), kl_e]
    · rw [kI_sI, if_neg (by omega), e3, kI_sI, if_neg (by omega), e2, kI_sI, if_pos ⟨rfl, rfl⟩]
      rfl
    · rw [kI_sI, if_neg (by omega), e3, kI_sI, if_pos ⟨rfl, rfl⟩]
      rfl
    · rw [F4.2.2.1 _ _ (by unfold Wref Wtl; omega), F4.2.2.1 _ _ (by unfold Wref Wtl; omega)]
      exact tb i hi
    · have q := hf j hj
      rw [kI_sI, if_neg (by omega), e3, kI_sI, if_neg (by omega), e2, kI_sI, if_neg (by omega), kI_sI, kI_sI]
      have e5 : kI (ksI (ksI (ksI h 172 5 (kI h 172 5 + 1)) 1 1 0) 173 1 0) 175 5 = kI h 175 5 := by rw [kI_sI, if_neg (by omega), kI_sI, if_neg (by omega), kI_sI, if_neg (by omega)]
      by_cases y : j = 5
      · rw [if_pos ⟨rfl, y⟩, if_pos ⟨rfl, y⟩, e5, hf 5 (by omega)]
      · rw [if_neg (fun z => y z.2), if_neg (fun z => y z.2), kI_sI, if_neg (by omega), kI_sI, if_neg (by omega), kI_sI, if_neg (by omega), q]
