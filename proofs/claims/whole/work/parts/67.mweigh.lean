/-! the model's weight of a WORLD -/
theorem fc_eq {h : KH} (T A L : Nat → Nat) (cl k tr : Nat) : (okH h T A cl k tr → fcN h T A L cl k tr = fqN h k tr * pmN h L cl tr (kN h 198 5)) ∧ (¬ okH h T A cl k tr → fcN h T A L cl k tr = 0) := by
  unfold fcN
  exact ⟨fun z => if_pos z, fun z => if_neg z⟩
/-- what both parts give together -/
def pbN (h : KH) (L : Nat → Nat) (w n : Nat) : Nat := pmN h L 0 (1 - w / 36) n * pmN h L 1 (w / 36) n
theorem m_marks {h g : KH} {c : Nat} (rc : RC h c) (ms : MS h) (hr : kRefs g) (g207 : ∀ i, kI g 207 i = kI h 207 i) (g198 : ∀ i, kI g 198 i = kI h 198 i) (g202 : ∀ i, kI g 202 i = kI h 202 i) {w : Nat} (hw : w < 72) (x : Nat) :
    kloop (f_X12_weightOf_l111 g 173 (Int32.ofNat w) (Int32.ofNat (w / 36))) KF (Int64.ofNat x, (0 : Int32)) = some (Int64.ofNat (x * pbN h (lkM h) w (kN h 198 5))) := by
  obtain ⟨-, hc, h5, hm, hkd, htt, hmm⟩ := id rc
  have n5 := hm.2.2.1.1.2
  have e5 : kI g 198 5 = Int32.ofNat (kN h 198 5) := by rw [g198]; exact hm.2.2.1.1.1
  have tw : w / 36 < 2 := by omega
  have one : ∀ (y m cl : Nat), m < kN h 198 5 → cl < 2 → f_X12_weightOf_l123 g 173 (Int32.ofNat w) (Int32.ofNat (w / 36)) (Int32.ofNat m) (Int64.ofNat y, Int32.ofNat cl) = some (.inl (Int64.ofNat (y * mkN h (lkM h) cl (if w / 36 = cl then 1 else 0) m), Int32.ofNat (cl + 1))) := fun y m cl hmk hcl => by
    obtain ⟨s1, s2⟩ := ms.2.2.2 (2 * m + cl) (by omega)
    have i207 : kI g 207 (14 + 2 * m + cl) = Int32.ofNat (lkM h (2 * m + cl)) := by
      rw [g207, show 14 + 2 * m + cl = 14 + (2 * m + cl) by omega]
      exact s1.1
    have lb : lkM h (2 * m + cl) ≤ 2 := s1.2
    have b161 : ∀ o, o < 2 → f_X12_weightOf_b161 g 173 (Int32.ofNat w) (Int32.ofNat (w / 36)) (Int64.ofNat y) (Int32.ofNat m) (Int32.ofNat cl) (Int32.ofNat (lkM h (2 * m + cl))) 202 (Int32.ofNat (10 + 2 * m)) (Int32.ofNat o) = some (.inl (Int64.ofNat (y * mkN h (lkM h) cl (1 - o) m), Int32.ofNat (cl + 1))) := fun o ho => by
      obtain ⟨a1, a2, a3⟩ := hmm m hmk o ho
      have a1l := a1.2
      unfold f_X12_weightOf_b161 f_X12_weightOf_b190 f_X12_weightOf_b193
      simp only [kl_e]
      rw [if_pos kk202, kn202, n32_add, if_neg (by rw [n32_cl (by omega)]; exact fun z => z.elim (n32_nn (by omega)) (by omega)), n32_cl (by omega), g202, a1.1, n32_addl]
      unfold mkN
      rw [show 1 - (1 - o) = o by omega]
      by_cases z : lkM h (2 * m + cl) = 0
      · rw [if_pos (by rw [z]; rfl), if_pos z, Nat.mul_one]
      · rw [if_neg (by rw [n32_ne0 (by omega)]; exact z), if_neg z]
        by_cases u : lkM h (2 * m + cl) = 2
        · rw [if_pos (by rw [u]; rfl), if_pos u, n32_toI64 (by omega), n64_mul]
        · rw [if_neg (by rw [n32_eql (by omega) (by omega)]; exact u), if_neg u, n32_subr (by omega), n32_toI64 (by omega), n64_mul]
    unfold f_X12_weightOf_l123
    dsimp only
    rw [if_neg (by rw [n32_ler (by omega) (by omega)]; omega), if_pos kk173, m_markOf hr (by omega) hcl, kb_s, i207, rf173_37 hr, if_pos (show 202 < 999999 by omega), n32_mulr, n32_addr]
    by_cases z : w / 36 = cl
    · rw [if_pos (by rw [z]), if_pos z]
      exact b161 0 (by omega)
    · rw [if_neg (by rw [n32_eq (by omega) (by omega)]; omega), if_neg z]
      exact b161 1 (by omega)
  have e := kloop_for (body := f_X12_weightOf_l111 g 173 (Int32.ofNat w) (Int32.ofNat (w / 36))) (fun m => (Int64.ofNat (x * pbN h (lkM h) w m), Int32.ofNat m)) (kN h 198 5) (Int64.ofNat (x * pbN h (lkM h) w (kN h 198 5))) (by omega) (fun m hmk => by
    have i2 : kloop (f_X12_weightOf_l123 g 173 (Int32.ofNat w) (Int32.ofNat (w / 36)) (Int32.ofNat m)) KF (Int64.ofNat (x * pbN h (lkM h) w m), (0 : Int32)) = some (Int64.ofNat (x * pbN h (lkM h) w (m + 1))) := by
      have z1 := one (x * pbN h (lkM h) w m) m 0 hmk (by omega)
      have z2 := one (x * pbN h (lkM h) w m * mkN h (lkM h) 0 (if w / 36 = 0 then 1 else 0) m) m 1 hmk (by omega)
      refine (kloop_go (n := 999999) z1).trans ((kloop_go (n := 999998) z2).trans ((kloop_end (n := 999997) (r := Int64.ofNat (x * pbN h (lkM h) w (m + 1))) ?_)))
      unfold f_X12_weightOf_l123
      dsimp only
      rw [if_pos (by decide)]
      have t0 : (if w / 36 = 0 then 1 else 0) = 1 - w / 36 := by
        by_cases z : w / 36 = 0
        · rw [if_pos z, z]
        · rw [if_neg z]; omega
      have t1 : (if w / 36 = 1 then 1 else 0) = w / 36 := by
        by_cases z : w / 36 = 1
        · rw [if_pos z, z]
        · rw [if_neg z]; omega
      rw [t0, t1]
      unfold pbN
      rw [pmN, pmN]
      congr 3
      simp only [Nat.mul_assoc]
      congr 2
      rw [Nat.mul_left_comm]
    unfold f_X12_weightOf_l111
    dsimp only
    rw [if_pos kk173, m_markMany hr, kb_s, e5, if_neg (by rw [n32_le (by omega) (by omega)]; omega), i2, kb_s, kl_e, n32_addl]) (by
    unfold f_X12_weightOf_l111
    dsimp only
    rw [if_pos kk173, m_markMany hr, kb_s, e5, if_pos (by rw [n32_le (by omega) (by omega)]; omega)])
  have e0 : x * pbN h (lkM h) w 0 = x := by
    unfold pbN
    rw [pmN, pmN, Nat.mul_one]
  rw [e0] at e
  exact e
/-- it answers as was heard -/
theorem m_isAsHeard {h g : KH} {c : Nat} (rc : RC h c) (rr : Rrule h c) (ms : MS h) (hr : kRefs g) (g207 : ∀ i, kI g 207 i = kI h 207 i) (g198 : ∀ i, kI g 198 i = kI h 198 i) {w : Nat} (hw : w < 72) (hz : w / 6 % 6 < kN h 198 3) (ho : w % 6 < kN h 198 3) (ga : kI g 214 w = Int32.ofNat (maN h w (kN h 198 4))) :
    ((okH h (tmM h) (anN h) 0 (w / 6 % 6) (1 - w / 36) ∧ okH h (tmM h) (anN h) 1 (w % 6) (w / 36)) ∧ f_X12_isAsHeard g 173 (Int32.ofNat w) = some 1) ∨ (¬ (okH h (tmM h) (anN h) 0 (w / 6 % 6) (1 - w / 36) ∧ okH h (tmM h) (anN h) 1 (w % 6) (w / 36)) ∧ f_X12_isAsHeard g 173 (Int32.ofNat w) = some 0) := by
  obtain ⟨-, hc, h5, hm, -⟩ := id rc
  have n4 := hm.2.1.1.2
  have e4 : kI g 198 4 = Int32.ofNat (kN h 198 4) := by rw [g198]; exact hm.2.1.1.1
  have yb : ∀ t, t < kN h 198 4 → ybN h (w / 6 % 6) t (1 - w / 36) (tmM h t) < 2 ∧ ybN h (w % 6) t (w / 36) (tmM h t) < 2 := fun t ht =>
    ⟨ybN_lt rc rr hz ht (by omega) (ms.2.2.1 t (by omega)).1.2, ybN_lt rc rr ho ht (by omega) (ms.2.2.1 t (by omega)).1.2⟩
  have ml := maN_lt (h := h) (w := w) (kN h 198 4) yb
  have mll : maN h w (kN h 198 4) < 4096 := Nat.lt_of_lt_of_le ml (show 4 ^ kN h 198 4 ≤ 4 ^ 6 from Nat.pow_le_pow_right (by omega) n4)
  have bit : ∀ t, t < kN h 198 4 → (Int32.ofNat (maN h w (kN h 198 4)) >>> (((2 : Int32) * Int32.ofNat t) &&& 31)) &&& (3 : Int32) = Int32.ofNat (ybN h (w / 6 % 6) t (1 - w / 36) (tmM h t) + 2 * ybN h (w % 6) t (w / 36) (tmM h t)) := fun t ht => by
    rw [n32_mulr, n32_shr (by omega) (by omega), n32_andl, Nat.shiftRight_eq_div_pow, show (3 : Nat) = 2 ^ 2 - 1 from rfl, Nat.and_two_pow_sub_one_eq_mod, Nat.pow_mul, ← maN_bit (kN h 198 4) yb t ht]
  have okt : ∀ t, t < kN h 198 4 → ((anN h t = 0 ∨ ybN h (w / 6 % 6) t (1 - w / 36) (tmM h t) + 2 * ybN h (w % 6) t (w / 36) (tmM h t) = anN h t - 1) ↔ ((anN h t = 0 ∨ (anN h t - 1) / 2 ^ 0 % 2 = ybN h (w / 6 % 6) t (1 - w / 36) (tmM h t)) ∧ (anN h t = 0 ∨ (anN h t - 1) / 2 ^ 1 % 2 = ybN h (w % 6) t (w / 36) (tmM h t)))) := fun t ht => by
    obtain ⟨a, b⟩ := yb t ht
    have c := (ms.2.2.1 t (by omega)).2.1.2
    have c' : anN h t ≤ 4 := c
    rw [Nat.pow_zero, Nat.pow_one, Nat.div_one]
    omega
  have loop := kloop_all (body := f_X12_isAsHeard_l2 g 173 (Int32.ofNat w)) (fun t => Int32.ofNat t) (kN h 198 4) (fun t => anN h t = 0 ∨ ybN h (w / 6 % 6) t (1 - w / 36) (tmM h t) + 2 * ybN h (w % 6) t (w / 36) (tmM h t) = anN h t - 1) (Sum.inl ()) (Sum.inr 0) (by omega)
    (fun t ht ok => by
      obtain ⟨a, b⟩ := yb t ht
      have an := (ms.2.2.1 t (by omega)).2.1
      have an1 : kI g 207 (2 + 2 * t + 1) = Int32.ofNat (anN h t) := by rw [g207]; exact an.1
      have an2 : anN h t ≤ 4 := an.2
      unfold f_X12_isAsHeard_l2 f_X12_isAsHeard_b40
      rw [if_pos kk173, m_testMany hr, kb_s, e4, if_neg (by rw [n32_le (by omega) (by omega)]; omega), m_stateOf hr (by omega), kb_s, an1, kl_e, n32_addl]
      by_cases z : anN h t = 0
      · rw [if_pos (by rw [z]; rfl)]
      · rw [if_neg (by rw [n32_ne0 (by omega)]; exact z), rf173_55 hr, if_pos (show 214 < 999999 by omega), if_pos kk214, kn214, if_neg (by rw [n32_cl (by omega)]; exact fun z => z.elim (n32_nn (by omega)) (by omega)), n32_cl (by omega), ga, bit t ht, n32_subl (by omega), if_pos]
        rw [n32_eq (by omega) (by omega)]
        exact ok.resolve_left z) (fun t ht ok => by
      obtain ⟨a, b⟩ := yb t ht
      have an := (ms.2.2.1 t (by omega)).2.1
      have an1 : kI g 207 (2 + 2 * t + 1) = Int32.ofNat (anN h t) := by rw [g207]; exact an.1
      have an2 : anN h t ≤ 4 := an.2
      have z : anN h t ≠ 0 := fun z => ok (Or.inl z)
      unfold f_X12_isAsHeard_l2 f_X12_isAsHeard_b40
      rw [if_pos kk173, m_testMany hr, kb_s, e4, if_neg (by rw [n32_le (by omega) (by omega)]; omega), m_stateOf hr (by omega), kb_s, an1, if_neg (by rw [n32_ne0 (by omega)]; exact z), rf173_55 hr, if_pos (show 214 < 999999 by omega), if_pos kk214, kn214, if_neg (by rw [n32_cl (by omega)]; exact fun z => z.elim (n32_nn (by omega)) (by omega)), n32_cl (by omega), ga, bit t ht, n32_subl (by omega), if_neg, kout2_s]
      rw [n32_eq (by omega) (by omega)]
      exact fun y => ok (Or.inr y)) (by
      unfold f_X12_isAsHeard_l2
      rw [if_pos kk173, m_testMany hr, kb_s, e4, if_pos (by rw [n32_le (by omega) (by omega)]; omega)])
  unfold f_X12_isAsHeard
  rcases loop with ⟨a1, a2⟩ | ⟨a1, a2⟩
  · left
    refine ⟨⟨fun t ht => ((okt t ht).mp (a2 t ht)).1, fun t ht => ((okt t ht).mp (a2 t ht)).2⟩, ?_⟩
    rw [show (0 : Int32) = Int32.ofNat 0 from rfl, a1, kb_s, ksum_l]
  · right
    refine ⟨fun y => a2 fun t ht => (okt t ht).mpr ⟨y.1 t ht, y.2 t ht⟩, ?_⟩
    rw [show (0 : Int32) = Int32.ofNat 0 from rfl, a1, kb_s, ksum_r]
    rfl
theorem m_weightOf {h g : KH} {c : Nat} (rc : RC h c) (rr : Rrule h c) (ms : MS h) (fg : kfp Wmw h g) {w fr : Nat} (hfr : fr < 2) (hfresh : fr = 1 → (∀ t, t < 6 → anN h t = 0) ∧ ∀ i, i < 10 → lkM h i = 0) (hw : w < 72) (ga : w / 6 % 6 < kN h 198 3 → w % 6 < kN h 198 3 → kI g 214 w = Int32.ofNat (maN h w (kN h 198 4))) :
    f_X12_weightOf g 173 (Int32.ofNat w) (Int32.ofNat fr) = some (Int64.ofNat (wtN h (tmM h) (anN h) (lkM h) w)) := by
  obtain ⟨hr, hc, h5, hm, hkd, htt, hmm⟩ := id rc
  have n3 := hm.1.1.2
  have n5 := hm.2.2.1.1.2
  have rg := hr.fp fg
  have g198 : ∀ i, kI g 198 i = kI h 198 i := fun i => fg.2.2.1 _ _ (by unfold Wmw; omega)
  have g207 : ∀ i, kI g 207 i = kI h 207 i := fun i => fg.2.2.1 _ _ (by unfold Wmw; omega)
  have g202 : ∀ i, kI g 202 i = kI h 202 i := fun i => fg.2.2.1 _ _ (by unfold Wmw; omega)
  have e3 : kI g 198 3 = Int32.ofNat (kN h 198 3) := by rw [g198]; exact hm.1.1.1
  have e2 : kI g 203 2 = Int32.ofNat (kN h 203 2) := (fg.2.2.1 _ _ (by unfold Wmw; omega)).trans hm.2.2.2.1.1.1
  have b2 := hm.2.2.2.1.1.2
  unfold f_X12_weightOf
  rw [m_kindIn0 g hw, kb_s, if_pos kk173, m_kindMany rg, kb_s, e3]
  by_cases hz : w / 6 % 6 < kN h 198 3
  · rw [if_neg (by rw [n32_le (by omega) (by omega)]; omega), m_kindIn1 g hw (by decide), kb_s, kb_s]
    by_cases ho : w % 6 < kN h 198 3
    · rw [if_pos (by rw [n32_lt (by omega) (by omega)]; exact ho), m_truthOf g hw, kb_s, rf173_38 rg, if_pos (show 203 < 999999 by omega), if_pos kk203, kn203, if_neg (show ¬ 4 ≤ 2 by omega), e2, n32_subr (by omega), n32_toI64 (by omega), n32_toI64 (by omega)]
      have b55 : ∀ F, f_X12_weightOf_b55 g 173 (Int32.ofNat w) (Int32.ofNat fr) (Int32.ofNat (w / 36)) (Int64.ofNat F) = some (Int64.ofNat (F * fcN h (tmM h) (anN h) (lkM h) 0 (w / 6 % 6) (1 - w / 36) * fcN h (tmM h) (anN h) (lkM h) 1 (w % 6) (w / 36))) := fun F => by
        obtain ⟨kt, hkt⟩ : ∃ k, (if w / 36 = 0 then w / 6 % 6 else w % 6) = k := ⟨_, rfl⟩
        obtain ⟨kf, hkf⟩ : ∃ k, (if w / 36 = 0 then w % 6 else w / 6 % 6) = k := ⟨_, rfl⟩
        have kt3 : kt < kN h 198 3 := by
          rw [← hkt]
          by_cases y : w / 36 = 0
          · rw [if_pos y]; exact hz
          · rw [if_neg y]; exact ho
        have kf3 : kf < kN h 198 3 := by
          rw [← hkf]
          by_cases y : w / 36 = 0
          · rw [if_pos y]; exact ho
          · rw [if_neg y]; exact hz
        have q1 : f_X12_kindIn g (Int32.ofNat w) (Int32.ofNat (w / 36)) = some (Int32.ofNat kt) := by
          rw [← hkt]
          by_cases y : w / 36 = 0
          · rw [if_pos y, y]; exact m_kindIn0 g hw
          · rw [if_neg y]; exact m_kindIn1 g hw (fun q => y ((n32_ne0 (by omega)).mp q))
        have q2 : f_X12_kindIn g (Int32.ofNat w) ((1 : Int32) - Int32.ofNat (w / 36)) = some (Int32.ofNat kf) := by
          rw [← hkf, n32_subr (by omega)]
          by_cases y : w / 36 = 0
          · rw [if_pos y, y]; exact m_kindIn1 g hw (by decide)
          · rw [if_neg y, show 1 - w / 36 = 0 by omega]; exact m_kindIn0 g hw
        obtain ⟨a1, -⟩ := hkd kt kt3 2 (by omega)
        obtain ⟨a2, -⟩ := hkd kf kf3 3 (by omega)
        have a1l := a1.2
        have a2l := a2.2
        rw [if_neg (by omega)] at a1l a2l
        have i26 : kI g 200 (26 + 4 * kt) = Int32.ofNat (fqN h kt 1) := by
          rw [fg.2.2.1 _ _ (by unfold Wmw; omega), show 26 + 4 * kt = 24 + 4 * kt + 2 by omega]
          exact a1.1
        have i27 : kI g 200 (27 + 4 * kf) = Int32.ofNat (fqN h kf 0) := by
          rw [fg.2.2.1 _ _ (by unfold Wmw; omega), show 27 + 4 * kf = 24 + 4 * kf + 3 by omega]
          exact a2.1
        have l1 : fqN h kt 1 ≤ 9 := a1l
        have l2 : fqN h kf 0 ≤ 9 := a2l
        have fqs : fqN h kt 1 * fqN h kf 0 = fqN h (w / 6 % 6) (1 - w / 36) * fqN h (w % 6) (w / 36) := by
          by_cases y : w / 36 = 0
          · rw [if_pos y] at hkt hkf
            rw [← hkt, ← hkf, y]
          · rw [if_neg y] at hkt hkf
            rw [← hkt, ← hkf, show w / 36 = 1 by omega, Nat.mul_comm]
        unfold f_X12_weightOf_b55
        rw [if_pos kk173, rf173_35 rg, if_pos (show 200 < 999999 by omega), q1, kb_s, if_pos kk200, kn200, n32_mulr, n32_addr, if_neg (by rw [n32_cl (by omega)]; exact fun z => z.elim (n32_nn (by omega)) (by omega)), n32_cl (show 26 + 4 * kt < 2147483648 by omega), i26, kl_e, q2, kb_s, n32_mulr, n32_addr, if_neg (by rw [n32_cl (by omega)]; exact fun z => z.elim (n32_nn (by omega)) (by omega)), n32_cl (show 27 + 4 * kf < 2147483648 by omega), i27, n32_toI64 (by omega), n32_toI64 (by omega), n64_mul, n64_mul, kl_e]
        have fc0 := fc_eq (h := h) (tmM h) (anN h) (lkM h) 0 (w / 6 % 6) (1 - w / 36)
        have fc1 := fc_eq (h := h) (tmM h) (anN h) (lkM h) 1 (w % 6) (w / 36)
        have prod : F * fqN h kt 1 * fqN h kf 0 * pbN h (lkM h) w (kN h 198 5) = F * (fqN h (w / 6 % 6) (1 - w / 36) * pmN h (lkM h) 0 (1 - w / 36) (kN h 198 5)) * (fqN h (w % 6) (w / 36) * pmN h (lkM h) 1 (w / 36) (kN h 198 5)) := by
          rw [Nat.mul_assoc F, fqs]
          unfold pbN
          simp only [Nat.mul_assoc]
          congr 2
          rw [Nat.mul_left_comm]
        by_cases hf : fr = 0
        · rw [if_pos (by rw [hf]; rfl), m_marks rc ms rg g207 g198 g202 hw, kb_s]
          rcases m_isAsHeard rc rr ms rg g207 g198 hw hz ho (ga hz ho) with ⟨⟨o1, o2⟩, q⟩ | ⟨o1, q⟩
          · rw [q, kb_s, if_neg (show ¬ ((1 : Int32) = 0) by decide), prod, fc0.1 o1, fc1.1 o2]
          · rw [q, kb_s, if_pos rfl]
            by_cases u : okH h (tmM h) (anN h) 0 (w / 6 % 6) (1 - w / 36)
            · rw [fc1.2 (fun v => o1 ⟨u, v⟩), Nat.mul_zero]
              rfl
            · rw [fc0.2 u, Nat.mul_zero, Nat.zero_mul]
              rfl
        · rw [if_neg (by rw [n32_ne0 (by omega)]; exact hf)]
          obtain ⟨f1, f2⟩ := hfresh (by omega)
          have n4 := hm.2.1.1.2
          have o1 : okH h (tmM h) (anN h) 0 (w / 6 % 6) (1 - w / 36) := fun t ht => Or.inl (f1 t (by omega))
          have o2 : okH h (tmM h) (anN h) 1 (w % 6) (w / 36) := fun t ht => Or.inl (f1 t (by omega))
          have p1 : ∀ cl tr, cl < 2 → ∀ n, n ≤ 5 → pmN h (lkM h) cl tr n = 1 := fun cl tr hcl n => by
            induction n with
            | zero => intro _; rfl
            | succ n ih =>
              intro hn
              rw [pmN, ih (by omega), Nat.one_mul, mkN, if_pos (f2 _ (by omega))]
          rw [fc0.1 o1, fc1.1 o2, p1 0 _ (by omega) _ n5, p1 1 _ (by omega) _ n5, Nat.mul_one, Nat.mul_one, Nat.mul_assoc F, fqs, Nat.mul_assoc]
      have ew : wtN h (tmM h) (anN h) (lkM h) w = (if w / 36 = 0 then kN h 203 2 else 100 - kN h 203 2) * fcN h (tmM h) (anN h) (lkM h) 0 (w / 6 % 6) (1 - w / 36) * fcN h (tmM h) (anN h) (lkM h) 1 (w % 6) (w / 36) := if_pos ⟨hz, ho, hw⟩
      rw [ew]
      by_cases y : w / 36 = 0
      · rw [if_pos (show Int32.ofNat (w / 36) = 0 by rw [y]; rfl), b55, if_pos y]
      · rw [if_neg (show ¬ Int32.ofNat (w / 36) = 0 by rw [n32_ne0 (by omega)]; exact y), if_pos (show 203 < 999999 by omega), if_pos kk203, if_neg (show ¬ 4 ≤ 2 by omega), b55, if_neg y]
    · rw [if_neg (by rw [n32_lt (by omega) (by omega)]; exact ho)]
      unfold wtN
      rw [if_neg (fun q => ho q.2.1)]
      rfl
  · rw [if_pos (by rw [n32_le (by omega) (by omega)]; omega)]
    unfold wtN
    rw [if_neg (fun q => hz q.1)]
    rfl
