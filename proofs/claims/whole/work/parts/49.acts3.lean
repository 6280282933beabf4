/-! look, undo; an act that sets one cell of the state -/
/-- cells that hold nothing between the calls -/
def Wscr (l i : Nat) : Prop := l = 35 ∨ l = 36 ∨ l = 37 ∨ l = 61 ∨ l = 62 ∨ l = 63 ∨ (68 ≤ l ∧ l ≤ 71) ∨ (l = 162 ∧ i = 3) ∨ (163 ≤ l ∧ l ≤ 169) ∨ (l = 173 ∧ (i = 44 ∨ i = 47 ∨ i = 48 ∨ i = 49 ∨ i = 56 ∨ i = 92)) ∨ (208 ≤ l ∧ l ≤ 215) ∨ l = 241
theorem act_set {h : KH} {c : Nat} (rc : RC h c) (rs : RS h) (rk : RK h) (rp : Rpast h) {l i j v : Nat} (hl : (l = 66 ∧ i < kN h 198 4 ∧ j = 2 + 2 * i + 1 ∧ v ≤ 4) ∨ (l = 67 ∧ i < 2 * kN h 198 5 ∧ j = 14 + i ∧ v ≤ 2)) :
    ∃ h1, f_X11_beginAct h 0 = some h1 ∧ kRefs h1 ∧ (∀ l i, ¬ Wact l i → kI h1 l i = kI h l i) ∧ (∀ l i, ¬ Wact l i → kL h1 l i = kL h l i) ∧ (∀ l i, 64 ≤ l → l ≤ 67 → kI h1 l i = kI h l i) ∧ (∀ i, kI h1 207 i = kI h 207 i) ∧
      ∀ g, kfp Wscr (ksI h1 l i (Int32.ofNat v)) g → ∃ h2, f_X12_keeps g 173 = some h2 ∧ kRefs h2 ∧ RS (ksI h2 207 j (Int32.ofNat v)) ∧ RK (ksI h2 207 j (Int32.ofNat v)) ∧ Rpast (ksI h2 207 j (Int32.ofNat v)) ∧ kI (ksI h2 207 j (Int32.ofNat v)) 155 3 = 0 ∧ kfp Wact g (ksI h2 207 j (Int32.ofNat v)) ∧ kfp Wact h (ksI h1 l i (Int32.ofNat v)) := by
  obtain ⟨hr, hc, h5, hm, -⟩ := id rc
  have u4 := hm.2.1.1.2
  have u5 := hm.2.2.1.1.2
  obtain ⟨n, p, n20, p20, q1, q2, q3, q4, hp⟩ := rp
  obtain ⟨h1, e1, f1, a1, a2, a3, a4, a5, a6⟩ := x_beginAct hr q1 n20 q3 p20
  have r1 := hr.fp f1
  refine ⟨h1, e1, r1, fun l i z => f1.2.2.1 l i (by unfold Wact at z; omega), fun l i z => f1.2.2.2 l i (by unfold Wact at z; omega), fun l i z1 z2 => f1.2.2.1 l i (by omega), fun i => f1.2.2.1 _ _ (by omega), fun g fg => ?_⟩
  · have I : ∀ a b, ¬ Wscr a b → ¬ (a = l ∧ b = i) → kI g a b = kI h1 a b := fun a b y z => by rw [fg.2.2.1 a b y, kI_sI, if_neg z]
    have J : ∀ a b, ¬ Wscr a b → ¬ (a = l ∧ b = i) → ¬ (72 ≤ a ∧ a ≤ 155) → kI g a b = kI h a b := fun a b y z w => by rw [I a b y z, f1.2.2.1 a b (by omega)]
    have rg : kRefs g := (r1.sI _ _ _).fp fg
    have o1 : kI g 173 61 = Int32.ofNat n := by rw [J _ _ (by unfold Wscr; omega) (by omega) (by omega), q2]
    have o2 : kI g 173 62 = Int32.ofNat p := by rw [J _ _ (by unfold Wscr; omega) (by omega) (by omega), q4]
    obtain ⟨h2, e2, f2, b1, b2, b3⟩ := m_keeps rg o1 n20 o2 p20
    have K2 : ∀ a b, ¬ (a = 207 ∧ b = j) → a ≠ 217 → ¬ (a = 173 ∧ (b = 61 ∨ b = 62)) → kI (ksI h2 207 j (Int32.ofNat v)) a b = kI g a b := fun a b y z w => by rw [kI_sI, if_neg y, f2.2.2.1 a b (by omega)]
    have L2 : ∀ a b, a ≠ 217 → ¬ (a = 173 ∧ (b = 61 ∨ b = 62)) → ¬ Wscr a b → ¬ (72 ≤ a ∧ a ≤ 155) → ¬ (a = l ∧ b = i) → ¬ (a = 207 ∧ b = j) → kI (ksI h2 207 j (Int32.ofNat v)) a b = kI h a b := fun a b y z w x t s => by rw [K2 a b s y z, J a b w t x]
    have V1 : kI (ksI h2 207 j (Int32.ofNat v)) l i = Int32.ofNat v := by
      rw [K2 l i (by omega) (by omega) (by omega), fg.2.2.1 l i (by unfold Wscr; omega), kI_sI, if_pos ⟨rfl, rfl⟩]
    have V2 : kI (ksI h2 207 j (Int32.ofNat v)) 207 j = Int32.ofNat v := by rw [kI_sI, if_pos ⟨rfl, rfl⟩]
    have c4 : kI (ksI h2 207 j (Int32.ofNat v)) 198 4 = kI h 198 4 := L2 _ _ (by omega) (by omega) (by unfold Wscr; omega) (by omega) (by omega) (by omega)
    have c5 : kI (ksI h2 207 j (Int32.ofNat v)) 198 5 = kI h 198 5 := L2 _ _ (by omega) (by omega) (by unfold Wscr; omega) (by omega) (by omega) (by omega)
    have n4 : kN (ksI h2 207 j (Int32.ofNat v)) 198 4 = kN h 198 4 := kN_same c4
    have n5 : kN (ksI h2 207 j (Int32.ofNat v)) 198 5 = kN h 198 5 := kN_same c5
    have L64 : ∀ a b, 64 ≤ a → a ≤ 67 → ¬ (a = l ∧ b = i) → kI (ksI h2 207 j (Int32.ofNat v)) a b = kI h a b := fun a b y z w => L2 a b (by omega) (by omega) (by unfold Wscr; omega) (by omega) w (by omega)
    have L207 : ∀ b, b ≠ j → kI (ksI h2 207 j (Int32.ofNat v)) 207 b = kI h 207 b := fun b y => L2 207 b (by omega) (by omega) (by unfold Wscr; omega) (by omega) (by omega) (by omega)
    have k2 : kN (ksI h2 207 j (Int32.ofNat v)) 64 2 = kN h 64 2 := kN_same (L64 _ _ (by omega) (by omega) (by omega))
    have k0 : kN (ksI h2 207 j (Int32.ofNat v)) 207 0 = kN h 207 0 := kN_same (L207 _ (by omega))
    have h74 : ∀ b, kI (ksI h2 207 j (Int32.ofNat v)) 74 b = kI h 74 b := fun b => by rw [K2 74 b (by omega) (by omega) (by omega), I 74 b (by unfold Wscr; omega) (by omega), f1.2.2.1 74 b (by omega)]
    have hS : RS (ksI h2 207 j (Int32.ofNat v)) := by
      refine ⟨⟨rs.c.1.same (L207 _ (by omega)), ?_⟩, ⟨rs.h.1.same (L207 _ (by omega)), ?_⟩, fun t ht => ?_, fun b hb => ?_⟩
      · rw [L64 _ _ (by omega) (by omega) (by omega), L207 _ (by omega)]; exact rs.c.2
      · rw [L64 _ _ (by omega) (by omega) (by omega), L207 _ (by omega)]; exact rs.h.2
      · rw [Nat.zero_add, Nat.zero_add]
        refine ⟨⟨(rs.t ht).1.same (L207 _ (by omega)), ?_⟩, ?_⟩
        · rw [L64 _ _ (by omega) (by omega) (by omega), L207 _ (by omega)]; exact (rs.t ht).2
        · by_cases y : l = 66 ∧ t = i
          · obtain ⟨rfl, rfl⟩ := y
            have ej : 2 + 2 * t + 1 = j := by omega
            rw [ej, n4]
            exact ⟨⟨cn_of V2 (by omega) (by omega), V1.trans V2.symm⟩, fun y => by omega⟩
          · have e : kI (ksI h2 207 j (Int32.ofNat v)) 207 (2 + 2 * t + 1) = kI h 207 (2 + 2 * t + 1) := L207 _ (by omega)
            rw [L64 _ _ (by omega) (by omega) (by omega), n4, e, kN_same e]
            exact ⟨⟨(rs.a ht).1.same e, (rs.a ht).2⟩, fun y => ⟨by rw [kN_same (L207 _ (by omega))]; exact rs.tz ht y, rs.az ht y⟩⟩
      · rw [Nat.zero_add]
        by_cases y : l = 67 ∧ b = i
        · obtain ⟨rfl, rfl⟩ := y
          have ej : 14 + b = j := by omega
          rw [ej, n5]
          exact ⟨cn_of V2 (by omega) (by omega), V1.trans V2.symm, fun y => by omega⟩
        · have e : kI (ksI h2 207 j (Int32.ofNat v)) 207 (14 + b) = kI h 207 (14 + b) := L207 _ (by omega)
          rw [L64 _ _ (by omega) (by omega) (by omega), n5, e, kN_same e]
          exact ⟨(rs.l hb).1.same e, (rs.l hb).2, rs.lz hb⟩
    have hK : RK (ksI h2 207 j (Int32.ofNat v)) := by
      refine ⟨⟨rk.k.1.same (L64 _ _ (by omega) (by omega) (by omega)), ?_⟩, ?_, fun x hx y hy => ?_⟩
      · rw [k2, k0]; exact rk.k.2
      · rw [k2]
        exact (L207 24 (by omega)).trans rk.m
      · rw [k2] at hx ⊢
        have := Nat.min_le_right (kN h 64 2) 40
        rw [h74, Nat.zero_add, L207 _ (by omega)]
        exact rk.r hx hy
    refine ⟨h2, e2, rg.fp f2, hS, hK, past_push (h := h) rs rk n20 p20 hp ?_ ?_ ?_ ?_ ?_ ?_ ?_ ?_ ?_ ?_ ?_ ?_ c4 c5, ?_, ?_, ?_⟩
    · rw [K2 _ _ (by omega) (by omega) (by omega), I _ _ (by unfold Wscr; omega) (by omega), a1]
    · rw [kI_sI, if_neg (by omega), b1]
    · rw [K2 _ _ (by omega) (by omega) (by omega), I _ _ (by unfold Wscr; omega) (by omega), a2]
    · rw [kI_sI, if_neg (by omega), b2]
    · intro x hx
      rw [K2 _ _ (by omega) (by omega) (by omega), I _ _ (by unfold Wscr; omega) (by omega), a4 x hx]
    · intro x hx
      rw [K2 _ _ (by omega) (by omega) (by omega), I _ _ (by unfold Wscr; omega) (by omega), K2 _ _ (by omega) (by omega) (by omega), I _ _ (by unfold Wscr; omega) (by omega)]
      exact a5 x hx
    · intro x hx
      rw [K2 _ _ (by omega) (by omega) (by omega), I _ _ (by unfold Wscr; omega) (by omega), a6 x hx]
    · intro x hx
      rw [kI_sI, if_neg (by omega), b3 x hx, J _ _ (by unfold Wscr; omega) (by omega) (by omega)]
    · intro a b y1 y2 y3
      rw [K2 _ _ (by omega) (by omega) (by omega), I _ _ (by unfold Wscr; omega) (by omega), f1.2.2.1 _ _ (by omega)]
    · intro b y
      rw [kI_sI, if_neg (by omega), f2.2.2.1 _ _ (by omega), J _ _ (by unfold Wscr; omega) (by omega) (by omega)]
    · rw [k2]
      omega
    · intro x hx hx2 y hy
      exact h74 _
    · rw [K2 _ _ (by omega) (by omega) (by omega), I _ _ (by unfold Wscr; omega) (by omega), a3]
    · exact (f2.wide fun a b y => by unfold Wact; omega).sI _ (by unfold Wact; omega)
    · exact (f1.wide fun a b y => by unfold Wact; omega).sI _ (by unfold Wact; omega)
theorem c_look {h : KH} {c : Nat} (rc : RC h c) (rs : RS h) (rk : RK h) (rp : Rpast h) (hf : Rref h) (a b d : Int32) : ∃ r h1 h2, f_X11_look h 0 a b d = some (r, h1) ∧ f_X12_look h1 173 a b d = some (r, h2) ∧ Aft h h2 := by
  obtain ⟨hr, hc, h5, hm, -⟩ := id rc
  have z1 : (1 : Int64).toInt = 1 := rfl
  have z0 : (0 : Int64).toInt = 0 := rfl
  have u5 := hm.2.2.1.1.2
  have xr : f_X11_look_b50 h 0 = some (0, ksI h 172 2 (kI h 172 2 + 1)) := by
    unfold f_X11_look_b50
    rw [if_pos kk0, show (2 : Int32) = Int32.ofNat 2 from rfl, x_refuse hr (by omega), kb_s]
  have mr : ∀ g, kRefs g → f_X12_look_b45 g 173 = some (0, ksI g 175 2 (kI g 175 2 + 1)) := fun g rg => by
    unfold f_X12_look_b45
    rw [if_pos kk173, m_isRefused rg, kb_s]
    exact if_pos (Or.inl rfl)
  have r2 := hr.sI 172 2 (kI h 172 2 + 1)
  have hb0 : ∀ a b d, f_X11_look_b27 h 0 a b d 0 = some (0, ksI h 172 2 (kI h 172 2 + 1)) := fun a b d => by
    unfold f_X11_look_b27
    rw [if_pos rfl, xr]
  have e5 : ∀ g, kRefs g → kI g 198 5 = kI h 198 5 → f_X12_look g 173 a b d = kb (f_X12_isIn g a.toInt64 (0 : Int64) (Int32.ofNat (kN h 198 5) - (1 : Int32)).toInt64) fun r5 => if r5 = 0 then f_X12_look_b45 g 173 else
      kb (f_X12_isIn g b.toInt64 (0 : Int64) (1 : Int64)) fun r9 => if r9 = 0 then f_X12_look_b45 g 173 else kb (f_X12_isIn g d.toInt64 (0 : Int64) (1 : Int64)) fun r13 => if r13 = 0 then f_X12_look_b45 g 173 else
      kb (f_X12_markOf g 173 a b) fun r17 => if r17 = 0 then kb (f_X12_keeps g 173) fun r21 =>
        if (kR r21 173 45) < 999999 then if kkind (kR r21 173 45) = 20 then if ((((14 : Int32) + ((2 : Int32) * a)) + b) < 0 ∨ klen (kR r21 173 45) ≤ ((((14 : Int32) + ((2 : Int32) * a)) + b)).toNatClampNeg) then none else kl (ksI r21 (kR r21 173 45) (((((14 : Int32) + ((2 : Int32) * a)) + b)).toNatClampNeg) ((1 : Int32) + d)) fun h28 => some ((1 : Int32), h28) else none else none
      else f_X12_look_b45 g 173 := fun g rg eg => by
    unfold f_X12_look
    rw [if_pos kk173, m_markMany rg, kb_s, eg, hm.2.2.1.1.1]
  have e51 : kI (ksI h 172 2 (kI h 172 2 + 1)) 198 5 = kI h 198 5 := by rw [kI_sI, if_neg (by omega)]
  have xl : f_X11_look h 0 a b d = kb (f_X11_isMark h 0 a) fun r2 => if r2 = 0 then f_X11_look_b27 h 0 a b d 0 else kb (f_X11_isBit h b) fun r6 => if r6 = 0 then f_X11_look_b27 h 0 a b d 0 else kb (f_X11_isBit h d) fun r10 => if r10 = 0 then f_X11_look_b27 h 0 a b d 0 else f_X11_look_b27 h 0 a b d 1 := by
    unfold f_X11_look f_X11_look_b26
    rw [if_pos kk0]
  rw [xl]
  rcases n32_arg a (n := kN h 198 5) (by omega) with ⟨k, hk, rfl⟩ | ha
  · rw [x_isMark_y rc hk, kb_s, if_neg (show ¬ ((1 : Int32) = 0) by decide), x_isBit, kb_s]
    rcases n32_arg b (n := 2) (by omega) with ⟨q, hq, rfl⟩ | hb
    · rw [if_pos (rgt hq (by omega)), if_neg (show ¬ ((1 : Int32) = 0) by decide), x_isBit, kb_s]
      rcases n32_arg d (n := 2) (by omega) with ⟨s, hs, rfl⟩ | hd
      · rw [if_pos (rgt hs (by omega)), if_neg (show ¬ ((1 : Int32) = 0) by decide)]
        obtain ⟨l1, l2⟩ := rs.l (i := 2 * k + q) (by omega)
        have e14 : 14 + (2 * k + q) = 14 + 2 * k + q := by omega
        rw [e14] at l1 l2
        have lb := l1.2
        have x27 : f_X11_look_b27 h 0 (Int32.ofNat k) (Int32.ofNat q) (Int32.ofNat s) 1 = if kN h 207 (14 + 2 * k + q) = 0 then (kb (f_X11_beginAct h 0) fun r9 => if (kR r9 0 7) < 999999 then if kkind (kR r9 0 7) = 8 then if (kR r9 (kR r9 0 7) 5) < 999999 then if kkind (kR r9 (kR r9 0 7) 5) = 20 then if (Int32.ofNat (k * 2 + q) < 0 ∨ klen (kR r9 (kR r9 0 7) 5) ≤ (Int32.ofNat (k * 2 + q)).toNatClampNeg) then none else kl (ksI r9 (kR r9 (kR r9 0 7) 5) ((Int32.ofNat (k * 2 + q)).toNatClampNeg) (Int32.ofNat (1 + s))) fun h18 => some ((1 : Int32), h18) else none else none else none else none) else f_X11_look_b50 h 0 := by
          unfold f_X11_look_b27
          rw [if_neg (show ¬ ((1 : Int32) = 0) by decide), if_pos kk0, rf0_7 hr, if_pos (show 64 < 999999 by omega), if_pos kk64, rf64_5 hr, if_pos (show 67 < 999999 by omega), if_pos kk67, kn67, n32_mull, n32_add, n32_addr, if_neg (by rw [n32_cl (by omega)]; exact fun z => z.elim (n32_nn (by omega)) (by omega)), n32_cl (show k * 2 + q < 2147483648 by omega), show k * 2 + q = 2 * k + q by omega, l2, l1.1, ifP (n32_ne0 (by omega))]
        rw [x27]
        have m17 : ∀ g, kRefs g → kI g 207 (14 + 2 * k + q) = kI h 207 (14 + 2 * k + q) → f_X12_markOf g 173 (Int32.ofNat k) (Int32.ofNat q) = some (Int32.ofNat (kN h 207 (14 + 2 * k + q))) := fun g rg eg => by rw [m_markOf rg (by omega) hq, eg, l1.1]
        by_cases z : kN h 207 (14 + 2 * k + q) = 0
        · rw [if_pos z]
          obtain ⟨h1, e1, r1, g1, g1L, g2, g3, g4⟩ := act_set rc rs rk rp (l := 67) (i := 2 * k + q) (j := 14 + 2 * k + q) (v := 1 + s) (Or.inr ⟨rfl, by omega, by omega, by omega⟩)
          obtain ⟨h2, e2, r22, s1, s2, s3, s4, s5, s6⟩ := g4 _ kfp.rf
          have rw1 : kRefs (ksI h1 67 (2 * k + q) (Int32.ofNat (1 + s))) := r1.sI _ _ _
          refine ⟨1, ksI h1 67 (2 * k + q) (Int32.ofNat (1 + s)), ksI h2 207 (14 + 2 * k + q) (Int32.ofNat (1 + s)), ?_, ?_, Or.inr ⟨s1, s2, s3, s4, s6.tr s5⟩⟩
          · rw [e1, kb_s, rf0_7 r1, if_pos (show 64 < 999999 by omega), if_pos kk64, rf64_5 r1, if_pos (show 67 < 999999 by omega), if_pos kk67, kn67, if_neg (by rw [n32_cl (by omega)]; exact fun z => z.elim (n32_nn (by omega)) (by omega)), n32_cl (show k * 2 + q < 2147483648 by omega), kl_e, show k * 2 + q = 2 * k + q by omega]
          · have c5 : kI (ksI h1 67 (2 * k + q) (Int32.ofNat (1 + s))) 198 5 = kI h 198 5 := by rw [kI_sI, if_neg (by omega)]; exact g1 _ _ (by unfold Wact; omega)
            have c6 : kI (ksI h1 67 (2 * k + q) (Int32.ofNat (1 + s))) 207 (14 + 2 * k + q) = kI h 207 (14 + 2 * k + q) := by rw [kI_sI, if_neg (by omega)]; exact g3 _
            rw [e5 _ rw1 c5, isIn_cy _ hk (by omega), kb_s, if_neg (show ¬ ((1 : Int32) = 0) by decide), isIn_y _ z0 z1 (by rw [n32_toInt (by omega)]; omega), kb_s, if_neg (show ¬ ((1 : Int32) = 0) by decide), isIn_y _ z0 z1 (by rw [n32_toInt (by omega)]; omega), kb_s, if_neg (show ¬ ((1 : Int32) = 0) by decide), m17 _ rw1 c6, kb_s, if_pos (by rw [z]; rfl), e2, kb_s, rf173_45 r22, if_pos (show 207 < 999999 by omega), if_pos kk207, kn207, n32_mulr, n32_addr, n32_add, if_neg (by rw [n32_cl (by omega)]; exact fun z => z.elim (n32_nn (by omega)) (by omega)), n32_cl (show 14 + 2 * k + q < 2147483648 by omega), kl_e, n32_addr]
        · rw [if_neg z, xr]
          refine ⟨0, _, _, rfl, ?_, aft_ref hf 2⟩
          rw [e5 _ r2 e51, isIn_cy _ hk (by omega), kb_s, if_neg (show ¬ ((1 : Int32) = 0) by decide), isIn_y _ z0 z1 (by rw [n32_toInt (by omega)]; omega), kb_s, if_neg (show ¬ ((1 : Int32) = 0) by decide), isIn_y _ z0 z1 (by rw [n32_toInt (by omega)]; omega), kb_s, if_neg (show ¬ ((1 : Int32) = 0) by decide), m17 _ r2 (by rw [kI_sI, if_neg (by omega)]), kb_s, if_neg (by rw [n32_ne0 (by omega)]; exact z), mr _ r2]
      · rw [if_neg hd, if_pos rfl, hb0]
        refine ⟨0, _, _, rfl, ?_, aft_ref hf 2⟩
        rw [e5 _ r2 e51, isIn_cy _ hk (by omega), kb_s, if_neg (show ¬ ((1 : Int32) = 0) by decide), isIn_y _ z0 z1 (by rw [n32_toInt (by omega)]; omega), kb_s, if_neg (show ¬ ((1 : Int32) = 0) by decide), isIn_n _ z0 z1 (by omega), kb_s, if_pos rfl, mr _ r2]
    · rw [if_neg hb, if_pos rfl, hb0]
      refine ⟨0, _, _, rfl, ?_, aft_ref hf 2⟩
      rw [e5 _ r2 e51, isIn_cy _ hk (by omega), kb_s, if_neg (show ¬ ((1 : Int32) = 0) by decide), isIn_n _ z0 z1 (by omega), kb_s, if_pos rfl, mr _ r2]
  · rw [x_isMark_n rc ha, kb_s, if_pos rfl, hb0]
    refine ⟨0, _, _, rfl, ?_, aft_ref hf 2⟩
    rw [e5 _ r2 e51, isIn_cn _ (by omega) ha, kb_s, if_pos rfl, mr _ r2]
