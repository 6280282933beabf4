/-! a case judged: the class's part -/
theorem n32_bit {s t : Nat} (hs : s < 2147483648) (ht : t < 32) : (Int32.ofNat s >>> (Int32.ofNat t &&& 31)) &&& (1 : Int32) = Int32.ofNat (s / 2 ^ t % 2) := by
  rw [n32_shr hs ht, n32_andl, Nat.shiftRight_eq_div_pow, Nat.and_one_is_mod]
theorem bit_hi {s n t : Nat} (hs : s < 2 ^ n) (ht : n ≤ t) : s / 2 ^ t % 2 = 0 := by
  rw [Nat.div_eq_of_lt (Nat.lt_of_lt_of_le hs (Nat.pow_le_pow_right (by omega) ht))]
/-- harm of a set of the first n tests -/
def hmN (h : KH) (s : Nat) : Nat → Nat
  | 0 => 0
  | n + 1 => if s / 2 ^ n % 2 = 0 then hmN h s n else hmN h s n + kN h 201 (6 + n)
theorem hmN_le {h : KH} {s : Nat} : ∀ n, (∀ t, t < n → kN h 201 (6 + t) ≤ 99) → hmN h s n ≤ 99 * n
  | 0, _ => by rw [hmN]; omega
  | n + 1, z => by
    have h1 := hmN_le (s := s) n fun t ht => z t (by omega)
    have h2 := z n (by omega)
    unfold hmN
    by_cases b : s / 2 ^ n % 2 = 0
    · rw [if_pos b]; omega
    · rw [if_neg b]; omega
theorem RC.hm {h : KH} {c : Nat} (rc : RC h c) (s : Nat) {n : Nat} (hn : n ≤ kN h 198 4) : hmN h s n ≤ 594 := by
  have h6 := rc.2.2.2.1.2.1.1.2
  have := hmN_le (h := h) (s := s) n fun t ht => (rc.2.2.2.2.2.1 t (by omega)).1.2
  omega
theorem x_harmOf {h : KH} {c : Nat} (rc : RC h c) {s : Nat} (hs : s < 2147483648) : f_X2_harmOf h c (Int32.ofNat s) = some (Int32.ofNat (hmN h s (kN h 198 4))) := by
  obtain ⟨hr, hc, h5, hm, hk, ht, -⟩ := id rc
  have c9 : c < 100 := Nat.lt_trans hc.lt (by omega)
  have h6 := hm.2.1.1.2
  have e4 : kI h c 4 = Int32.ofNat (kN h 198 4) := hm.2.1.2.trans hm.2.1.1.1
  have k1 := (ct_kt hc).2.1
  have k2 := (ct_kt hc).2.2.2.2.1
  unfold f_X2_harmOf
  have e := kloop_for (body := f_X2_harmOf_l4 h c (Int32.ofNat s)) (fun k => (Int32.ofNat (hmN h s k), Int32.ofNat k)) (kN h 198 4) (Int32.ofNat (hmN h s (kN h 198 4))) (by omega) (fun k hk => by
    obtain ⟨q1, q2⟩ := ct_test (k := k) hc (by omega)
    obtain ⟨g1, g2⟩ := ht k hk
    unfold f_X2_harmOf_l4 f_X2_harmOf_b31
    dsimp only
    rw [if_pos (ct_kk hc), e4, if_neg (by rw [n32_le (by omega) (by omega)]; omega), n32_bit hs (by omega), ifP (n32_ne0 (by omega)), kl_e, kl_e, n32_addl]
    by_cases b : s / 2 ^ k % 2 = 0
    · rw [if_pos b, hmN, if_pos b]
    · rw [if_neg b, (ct_r hr hc).2.1, if_pos (by omega), if_pos k1, k2, if_neg (by rw [n32_cl (by omega)]; exact fun z => z.elim (n32_nn (by omega)) (by omega)), n32_cl (by omega), ct_rt hr hc (by omega), if_pos (by omega), if_pos q1, q2, if_neg (by omega), g2, g1.1, n32_add, kl_e, hmN, if_neg b]) (by
    unfold f_X2_harmOf_l4
    dsimp only
    rw [if_pos (ct_kk hc), e4, if_pos (by rw [n32_le (by omega) (by omega)]; omega)])
  rw [show ((0 : Int32), (0 : Int32)) = (Int32.ofNat (hmN h s 0), Int32.ofNat 0) from rfl, e, kb_s]
theorem m_harmOf {h : KH} {c : Nat} (rc : RC h c) {s : Nat} (hs : s < 2147483648) : f_X12_harmOf h 173 (Int32.ofNat s) = some (Int32.ofNat (hmN h s (kN h 198 4))) := by
  obtain ⟨hr, hc, h5, hm, hk, ht, -⟩ := id rc
  have h6 := hm.2.1.1.2
  unfold f_X12_harmOf
  have e := kloop_for (body := f_X12_harmOf_l4 h 173 (Int32.ofNat s)) (fun k => (Int32.ofNat (hmN h s k), Int32.ofNat k)) (kN h 198 4) (Int32.ofNat (hmN h s (kN h 198 4))) (by omega) (fun k hk => by
    obtain ⟨g1, g2⟩ := ht k hk
    unfold f_X12_harmOf_l4 f_X12_harmOf_b33
    dsimp only
    simp only [kl_e]
    rw [if_pos kk173, m_testMany hr, kb_s, hm.2.1.1.1, if_neg (by rw [n32_le (by omega) (by omega)]; omega), n32_bit hs (by omega), ifP (n32_eql (by omega) (by omega)), n32_addl]
    by_cases b : s / 2 ^ k % 2 = 0
    · rw [if_neg (by omega), hmN, if_pos b]
    · rw [if_pos (by omega), rf173_36 hr, if_pos (by omega), if_pos kk201, kn201, n32_addr, if_neg (by rw [n32_cl (by omega)]; exact fun z => z.elim (n32_nn (by omega)) (by omega)), n32_cl (by omega), g1.1, n32_add, hmN, if_neg b]) (by
    unfold f_X12_harmOf_l4
    dsimp only
    rw [if_pos kk173, m_testMany hr, kb_s, hm.2.1.1.1, if_pos (by rw [n32_le (by omega) (by omega)]; omega)])
  rw [show ((0 : Int32), (0 : Int32)) = (Int32.ofNat (hmN h s 0), Int32.ofNat 0) from rfl, e, kb_s]
theorem xor_lt {k : Nat} (h : k < 16384) : k ^^^ 1024 < 16384 := Nat.xor_lt_two_pow (n := 14) h (by omega)
theorem x_floorMod (h : KH) {k : Nat} (hk : k < 16384) : f_J9_floorMod_7cf53 h (Int32.ofNat k) (1024 : Int32) = some (Int32.ofNat (k % 1024)) := by
  have l := xor_lt hk
  unfold f_J9_floorMod_7cf53
  rw [if_neg (by decide), show (1024 : Int32) = Int32.ofNat 1024 from rfl, n32_rem (by omega) (by omega), kl_e, n32_xor, if_pos]
  rw [show (0 : Int32) = Int32.ofNat 0 from rfl, n32_le (by omega) (by omega)]
  omega
def xput (h : KH) (q : Nat) (a b d e : Int32) : KH := ksI (ksI (ksI (ksI h 74 q a) 74 (q + 1) b) 74 (q + 2) d) 74 (q + 3) e
theorem xput_fp (h : KH) (q : Nat) (a b d e : Int32) : kfp (fun l i => l = 74 ∧ q ≤ i ∧ i < q + 4) h (xput h q a b d e) :=
  (((kfp.rf.sI _ ⟨rfl, by omega, by omega⟩).sI _ ⟨rfl, by omega, by omega⟩).sI _ ⟨rfl, by omega, by omega⟩).sI _ ⟨rfl, by omega, by omega⟩
theorem xput_I (h : KH) (q : Nat) (a b d e : Int32) : kI (xput h q a b d e) 74 q = a ∧ kI (xput h q a b d e) 74 (q + 1) = b ∧ kI (xput h q a b d e) 74 (q + 2) = d ∧ kI (xput h q a b d e) 74 (q + 3) = e := by
  unfold xput
  refine ⟨?_, ?_, ?_, ?_⟩
  · rw [kI_sI, if_neg (by omega), kI_sI, if_neg (by omega), kI_sI, if_neg (by omega), kI_sI, if_pos ⟨rfl, rfl⟩]
  · rw [kI_sI, if_neg (by omega), kI_sI, if_neg (by omega), kI_sI, if_pos ⟨rfl, rfl⟩]
  · rw [kI_sI, if_neg (by omega), kI_sI, if_pos ⟨rfl, rfl⟩]
  · rw [kI_sI, if_pos ⟨rfl, rfl⟩]
theorem x_put {h : KH} (hr : kRefs h) {k : Nat} (hk : k < 16384) (a b d e : Int32) : f_X5_put h 72 (Int32.ofNat k) a b d e = some (xput h (4 * (k % 1024)) a b d e) := by
  have r1 := fun (g : KH) (hg : kRefs g) => rf72_1 hg
  have q := Nat.mod_lt k (show 0 < 1024 by omega)
  generalize hj : k % 1024 = j at q ⊢
  unfold f_X5_put
  rw [x_floorMod h hk, kb_s, hj, n32_mulr, kl_e, if_pos kk72, rf72_1 hr, if_pos (by omega), if_pos kk74, kn74, if_neg (by rw [n32_cl (by omega)]; exact fun z => z.elim (n32_nn (by omega)) (by omega)), n32_cl (by omega), kl_e]
  rw [rf72_1 (hr.sI _ _ _), if_pos (by omega), if_pos kk74, kn74, n32_addl, if_neg (by rw [n32_cl (by omega)]; exact fun z => z.elim (n32_nn (by omega)) (by omega)), n32_cl (by omega), kl_e]
  rw [rf72_1 ((hr.sI _ _ _).sI _ _ _), if_pos (by omega), if_pos kk74, kn74, n32_addl, if_neg (by rw [n32_cl (by omega)]; exact fun z => z.elim (n32_nn (by omega)) (by omega)), n32_cl (by omega), kl_e]
  rw [rf72_1 (((hr.sI _ _ _).sI _ _ _).sI _ _ _), if_pos (by omega), if_pos kk74, kn74, n32_addl, if_neg (by rw [n32_cl (by omega)]; exact fun z => z.elim (n32_nn (by omega)) (by omega)), n32_cl (by omega), kl_e]
  rfl
/-- HEARD once more, if it is in the set -/
def moreN (s x t : Nat) : Nat := if s / 2 ^ t % 2 = 0 then x else min 99 (x + 1)
theorem moreN_le {s x t : Nat} (h : x ≤ 99) : moreN s x t ≤ 99 := by
  unfold moreN
  by_cases z : s / 2 ^ t % 2 = 0
  · rw [if_pos z]; exact h
  · rw [if_neg z]; exact Nat.min_le_left _ _
theorem xmore_I {h : KH} {v s : Nat} (hs : s < 2147483648) : ∀ n, n ≤ 6 → (∀ t, t < 6 → cn h (v + 1) t 99) → ∀ t, t < 6 → kI (xmore h v (Int32.ofNat s) n) (v + 1) t = if t < n then Int32.ofNat (moreN s (kN h (v + 1) t) t) else kI h (v + 1) t
  | 0, _, _, t, _ => by
    rw [if_neg (by omega)]
    rfl
  | n + 1, hn, hc, t, ht => by
    have ih := xmore_I (h := h) (v := v) hs n (by omega) hc
    unfold xmore
    rw [n32_bit hs (by omega), ifP (n32_ne0 (by omega))]
    by_cases z : s / 2 ^ n % 2 = 0
    · rw [if_pos z, ih t ht]
      by_cases e : t = n
      · subst e
        rw [if_neg (by omega), if_pos (by omega), moreN, if_pos z]
        exact (hc t ht).1
      · by_cases e2 : t < n
        · rw [if_pos e2, if_pos (by omega)]
        · rw [if_neg e2, if_neg (by omega)]
    · have hv : kI (xmore h v (Int32.ofNat s) n) (v + 1) n = Int32.ofNat (kN h (v + 1) n) := by
        rw [ih n (by omega), if_neg (by omega)]
        exact (hc n (by omega)).1
      rw [if_neg z, kI_sI, hv]
      by_cases e : t = n
      · subst e
        have hb := (hc t ht).2
        rw [if_pos ⟨rfl, rfl⟩, if_pos (show t < t + 1 by omega), moreN, if_neg z, n32_addl]
        by_cases y : kN h (v + 1) t + 1 < 99
        · rw [if_pos (by rw [n32_ltl (by omega) (by omega)]; exact y), Nat.min_eq_right (by omega)]
        · rw [if_neg (by rw [n32_ltl (by omega) (by omega)]; exact y), Nat.min_eq_left (by omega)]
          rfl
      · rw [if_neg (fun y => e y.2), ih t ht]
        by_cases e2 : t < n
        · rw [if_pos e2, if_pos (by omega)]
        · rw [if_neg e2, if_neg (by omega)]
theorem xforget_I (h : KH) (v : Nat) : (∀ t, t < 6 → kI (xforget h v) (v + 2) t = 0) ∧ ∀ i, i < 10 → kI (xforget h v) (v + 3) i = 0 := by
  unfold xforget
  refine ⟨fun t ht => ?_, fun i hi => ?_⟩
  · rw [kfill_I, if_neg (by omega), kfill_I, if_pos ⟨rfl, ht⟩]
  · rw [kfill_I, if_pos ⟨rfl, hi⟩]
def Wcc (K l i : Nat) : Prop := (l = 64 ∧ i < 3) ∨ l = 65 ∨ l = 66 ∨ l = 67 ∨ (l = 74 ∧ 4 * (K % 1024) ≤ i ∧ i < 4 * (K % 1024) + 4)
theorem x_closeCase {h : KH} {c : Nat} (rc : RC h c) (xs : XS h 64) (kb : cn h 64 2 9999) (cl rt : Int32) {H : Nat} (hH : hbN (anX h 64) (kN h 198 4) = H) :
    ∃ h', f_X11_closeCase h 0 cl rt = some h' ∧ kfp (Wcc (kN h 64 2)) h h' ∧ kI h' 64 0 = Int32.ofNat (kN h 64 0 + 1) ∧ kI h' 64 1 = Int32.ofNat (min 9999 (kN h 64 1 + hmN h H (kN h 198 4))) ∧ kI h' 64 2 = Int32.ofNat (kN h 64 2 + 1) ∧
      (∀ t, t < 6 → kI h' 65 t = Int32.ofNat (moreN H (kN h 65 t) t) ∧ kI h' 66 t = 0) ∧ (∀ i, i < 10 → kI h' 67 i = 0) ∧
      kI h' 74 (4 * (kN h 64 2 % 1024)) = cl ∧ kI h' 74 (4 * (kN h 64 2 % 1024) + 1) = Int32.ofNat (hmN h H (kN h 198 4)) ∧ kI h' 74 (4 * (kN h 64 2 % 1024) + 2) = Int32.ofNat (pcN H) ∧ kI h' 74 (4 * (kN h 64 2 % 1024) + 3) = rt := by
  obtain ⟨hr, hc, h5, hm, hk, ht, -⟩ := id rc
  have c39 := hc.lt
  have c9 : c < 999999 := Nat.lt_trans hc.lt (by omega)
  have h6 := hm.2.1.1.2
  have hl : H < 64 := by
    rw [← hH]
    exact Nat.lt_of_lt_of_le (hbN_lt _ _) (pow6 _ h6)
  have hh := rc.hm H (Nat.le_refl _)
  have kb2 := kb.2
  have x0 := xs.1
  have x1 := xs.2.1
  generalize hw : hmN h H (kN h 198 4) = w at hh ⊢
  generalize hK : kN h 64 2 = K at kb2 ⊢
  have q := Nat.mod_lt K (show 0 < 1024 by omega)
  generalize hj : 4 * (K % 1024) = j at ⊢
  have jb : j < 4096 := by omega
  obtain ⟨g1, e1⟩ : ∃ g, g = xput h j cl (Int32.ofNat w) (Int32.ofNat (pcN H)) rt := ⟨_, rfl⟩
  have f1 := xput_fp h j cl (Int32.ofNat w) (Int32.ofNat (pcN H)) rt
  obtain ⟨p0, p1, p2, p3⟩ := xput_I h j cl (Int32.ofNat w) (Int32.ofNat (pcN H)) rt
  rw [← e1] at f1 p0 p1 p2 p3
  obtain ⟨g2, e2⟩ : ∃ g, g = ksI g1 64 2 (Int32.ofNat (K + 1)) := ⟨_, rfl⟩
  have f2 : kfp (fun l i => l = 64 ∧ i = 2) g1 g2 := by rw [e2]; exact kfp.rf.sI _ ⟨rfl, rfl⟩
  obtain ⟨g3, e3⟩ : ∃ g, g = xmore g2 64 (Int32.ofNat H) 6 := ⟨_, rfl⟩
  have f3 : kfp (fun l _ => l = 65) g2 g3 := by rw [e3]; exact xmore_fp _ _ _ _
  obtain ⟨g4, e4⟩ : ∃ g, g = ksI g3 64 1 (Int32.ofNat (min 9999 (kN h 64 1 + w))) := ⟨_, rfl⟩
  have f4 : kfp (fun l i => l = 64 ∧ i = 1) g3 g4 := by rw [e4]; exact kfp.rf.sI _ ⟨rfl, rfl⟩
  obtain ⟨g5, e5⟩ : ∃ g, g = ksI g4 64 0 (Int32.ofNat (kN h 64 0 + 1)) := ⟨_, rfl⟩
  have f5 : kfp (fun l i => l = 64 ∧ i = 0) g4 g5 := by rw [e5]; exact kfp.rf.sI _ ⟨rfl, rfl⟩
  have f6 : kfp (fun l _ => l = 66 ∨ l = 67) g5 (xforget g5 64) := xforget_fp g5 64
  have r1 := hr.fp f1
  have r2 := r1.fp f2
  have r3 := r2.fp f3
  have r4 := r3.fp f4
  have r5 := r4.fp f5
  have i2 : kI g1 64 2 = Int32.ofNat K := by rw [f1.2.2.1 _ _ (by omega), ← hK]; exact kb.1
  have i1 : kI g3 64 1 = Int32.ofNat (kN h 64 1) := by rw [f3.2.2.1 _ _ (by omega), f2.2.2.1 _ _ (by omega), f1.2.2.1 _ _ (by omega)]; exact x1.1
  have i0 : kI g4 64 0 = Int32.ofNat (kN h 64 0) := by rw [f4.2.2.1 _ _ (by omega), f3.2.2.1 _ _ (by omega), f2.2.2.1 _ _ (by omega), f1.2.2.1 _ _ (by omega)]; exact x0.1
  refine ⟨xforget g5 64, ?_, ?_, ?_, ?_, ?_, ?_, ?_, ?_, ?_, ?_, ?_⟩
  · unfold f_X11_closeCase f_J9_min_7cf53
    have x12 := x1.2
    have e7 : kI h 64 2 = Int32.ofNat K := by rw [← hK]; exact kb.1
    rw [if_pos kk0, rf0_7 hr, if_pos (by omega), if_pos kk64, x_heard rc (St64 hr) xs, hH, kb_s, h5, if_pos c9, if_pos (ct_kk hc), x_harmOf rc (by omega), hw, kb_s, rf0_9 hr, if_pos (by omega), x_bitCount h hl, kb_s, if_pos kk72, e7, x_put hr (by omega), hj, ← e1, kb_s]
    rw [rf0_7 r1, if_pos (by omega), if_pos kk64, i2, n32_addl, ← e2, kl_e, rf0_7 r2, if_pos (by omega), if_pos kk64, x_hearOnceMore (St64 r2), ← e3, kb_s, rf0_7 r3, if_pos (by omega), if_pos kk64, i1, n32_add]
    have em : (if Int32.ofNat (kN h 64 1 + w) < (9999 : Int32) then some (Int32.ofNat (kN h 64 1 + w)) else some (9999 : Int32)) = some (Int32.ofNat (min 9999 (kN h 64 1 + w))) := by
      by_cases y : kN h 64 1 + w < 9999
      · rw [if_pos (by rw [n32_ltl (by omega) (by omega)]; exact y), Nat.min_eq_right (by omega)]
      · rw [if_neg (by rw [n32_ltl (by omega) (by omega)]; exact y), Nat.min_eq_left (by omega)]
        rfl
    rw [em, kb_s, ← e4, kl_e, rf0_7 r4, if_pos (by omega), if_pos kk64, i0, n32_addl, ← e5, kl_e, rf0_7 r5, if_pos (by omega), if_pos kk64, x_forgetCase (St64 r5), kb_s]
  · refine (((((f1.wide fun l i z => ?_).tr (f2.wide fun l i z => ?_)).tr (f3.wide fun l i z => ?_)).tr (f4.wide fun l i z => ?_)).tr (f5.wide fun l i z => ?_)).tr (f6.wide fun l i z => ?_) <;> (unfold Wcc; omega)
  · rw [f6.2.2.1 _ _ (by omega), e5, kI_sI, if_pos ⟨rfl, rfl⟩]
  · rw [f6.2.2.1 _ _ (by omega), f5.2.2.1 _ _ (by omega), e4, kI_sI, if_pos ⟨rfl, rfl⟩]
  · rw [f6.2.2.1 _ _ (by omega), f5.2.2.1 _ _ (by omega), f4.2.2.1 _ _ (by omega), f3.2.2.1 _ _ (by omega), e2, kI_sI, if_pos ⟨rfl, rfl⟩]
  · intro t h6t
    have cs : ∀ t, t < 6 → kI g2 65 t = kI h 65 t := fun t h6t => by rw [f2.2.2.1 _ _ (by omega), f1.2.2.1 _ _ (by omega)]
    refine ⟨?_, (xforget_I g5 64).1 t h6t⟩
    rw [f6.2.2.1 _ _ (by omega), f5.2.2.1 _ _ (by omega), f4.2.2.1 _ _ (by omega), e3, xmore_I (v := 64) (by omega) 6 (Nat.le_refl _) (fun t h6t => ((xs.2.2.1 t h6t).1).same (cs t h6t)) t h6t, if_pos h6t, kN_same (cs t h6t)]
  · intro i hi
    exact (xforget_I g5 64).2 i hi
  · rw [f6.2.2.1 _ _ (by omega), f5.2.2.1 _ _ (by omega), f4.2.2.1 _ _ (by omega), f3.2.2.1 _ _ (by omega), f2.2.2.1 _ _ (by omega), p0]
  · rw [f6.2.2.1 _ _ (by omega), f5.2.2.1 _ _ (by omega), f4.2.2.1 _ _ (by omega), f3.2.2.1 _ _ (by omega), f2.2.2.1 _ _ (by omega), p1]
  · rw [f6.2.2.1 _ _ (by omega), f5.2.2.1 _ _ (by omega), f4.2.2.1 _ _ (by omega), f3.2.2.1 _ _ (by omega), f2.2.2.1 _ _ (by omega), p2]
  · rw [f6.2.2.1 _ _ (by omega), f5.2.2.1 _ _ (by omega), f4.2.2.1 _ _ (by omega), f3.2.2.1 _ _ (by omega), f2.2.2.1 _ _ (by omega), p3]
