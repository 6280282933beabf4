/-! the model lays all WORLDS -/
/-- all together -/
def aT (W : Nat → Nat) : Nat → Nat
  | 0 => 0
  | n + 1 => aT W n + W n
theorem aT_sT (W : Nat → Nat) : ∀ n, n ≤ 72 → aT W n = sT W 0 n + sT W 1 n
  | 0, _ => rfl
  | n + 1, hn => by
    rw [aT, sT, sT, aT_sT W n (by omega)]
    by_cases z : n / 36 = 0
    · rw [if_pos z, if_neg (by omega)]; omega
    · rw [if_neg z, if_pos (by omega)]; omega
theorem aT_le {W : Nat → Nat} {b : Nat} (hb : ∀ w, W w ≤ b) : ∀ n, aT W n ≤ n * b
  | 0 => by rw [aT]; omega
  | n + 1 => by
    have h1 := aT_le hb n
    have h2 := hb n
    have h3 : (n + 1) * b = n * b + b := Nat.succ_mul n b
    rw [aT]
    omega
/-- the model's table of WORLDS, as far as n -/
def Mst (h g : KH) (W : Nat → Nat) (n : Nat) : Prop := (∀ w, w < n → kL g 213 w = Int64.ofNat (W w)) ∧ kL g 173 56 = Int64.ofNat (aT W n) ∧ ∀ w, w < n → w / 6 % 6 < kN h 198 3 → w % 6 < kN h 198 3 → kI g 214 w = Int32.ofNat (maN h w (kN h 198 4))
theorem m_ansLoop {h g : KH} {c : Nat} (rc : RC h c) (rr : Rrule h c) (ms : MS h) (fg : kfp Wmw h g) (yl : Yl h g (kN h 198 4)) {w : Nat} (hw : w < 72) (v1 : Int32) (g0 : kI g 214 w = 0) :
    ∃ g', kloop (f_X12_laysWorlds_l26 173 v1 (Int32.ofNat w)) KF ((0 : Int32), g) = some g' ∧ kfp (fun l i => l = 214 ∧ i = w) g g' ∧ (w / 6 % 6 < kN h 198 3 → w % 6 < kN h 198 3 → kI g' 214 w = Int32.ofNat (maN h w (kN h 198 4))) := by
  obtain ⟨hr, hc, h5, hm, -⟩ := id rc
  have n4 := hm.2.1.1.2
  have E4 : ∀ {q : KH}, kfp (fun l i => l = 214 ∧ i = w) g q → kI q 198 4 = Int32.ofNat (kN h 198 4) := fun f => by rw [f.2.2.1 _ _ (by omega), fg.2.2.1 _ _ (by unfold Wmw; omega)]; exact hm.2.1.1.1
  exact kloop_inv (body := f_X12_laysWorlds_l26 173 v1 (Int32.ofNat w)) (fun t s => s.1 = Int32.ofNat t ∧ kfp (fun l i => l = 214 ∧ i = w) g s.2 ∧ (w / 6 % 6 < kN h 198 3 → w % 6 < kN h 198 3 → kI s.2 214 w = Int32.ofNat (maN h w t))) (fun r => kfp (fun l i => l = 214 ∧ i = w) g r ∧ (w / 6 % 6 < kN h 198 3 → w % 6 < kN h 198 3 → kI r 214 w = Int32.ofNat (maN h w (kN h 198 4)))) (kN h 198 4) (by omega) ⟨rfl, kfp.rf, fun _ _ => g0⟩ (fun t s ht hP => by
      obtain ⟨s1, q⟩ := s
      obtain ⟨p1, p2, p3⟩ := hP
      dsimp only at p1 p2 p3
      subst p1
      have rq := (hr.fp fg).fp p2
      have y0 := m_yieldIn rq (w := w) (t := t) (cl := 0) hw (by omega) (by omega)
      have y1 := m_yieldIn rq (w := w) (t := t) (cl := 1) hw (by omega) (by omega)
      rw [if_pos (rfl : 0 = 0)] at y0
      rw [if_neg (show ¬ 1 = 0 by omega)] at y1
      have t0 : (if w / 36 = 0 then 1 else 0) = 1 - w / 36 := by
        by_cases z : w / 36 = 0
        · rw [if_pos z, z]
        · rw [if_neg z]; omega
      have t1 : (if w / 36 = 1 then 1 else 0) = w / 36 := by
        by_cases z : w / 36 = 1
        · rw [if_pos z, z]
        · rw [if_neg z]; omega
      rw [t0, p2.2.2.1 _ _ (by omega)] at y0
      rw [t1, p2.2.2.1 _ _ (by omega)] at y1
      have y0' : f_X12_yieldIn q 173 (Int32.ofNat w) (0 : Int32) (Int32.ofNat t) = some (kI g 209 (36 * (1 - w / 36) + 6 * t + w / 6 % 6)) := y0
      have y1' : f_X12_yieldIn q 173 (Int32.ofNat w) (1 : Int32) (Int32.ofNat t) = some (kI g 209 (36 * (w / 36) + 6 * t + w % 6)) := y1
      refine ⟨(Int32.ofNat (t + 1), ksI q 214 w (kI q 214 w ||| ((kI g 209 (36 * (1 - w / 36) + 6 * t + w / 6 % 6) + ((2 : Int32) * kI g 209 (36 * (w / 36) + 6 * t + w % 6))) <<< (((2 : Int32) * Int32.ofNat t) &&& 31)))), ?_, rfl, p2.sI _ ⟨rfl, rfl⟩, fun hz ho => ?_⟩
      · unfold f_X12_laysWorlds_l26
        dsimp only
        rw [if_pos kk173, m_testMany rq, kb_s, E4 p2, if_neg (by rw [n32_le (by omega) (by omega)]; omega), rf173_55 rq, if_pos (show 214 < 999999 by omega), if_pos kk214, kn214, if_neg (by rw [n32_cl (by omega)]; exact fun z => z.elim (n32_nn (by omega)) (by omega)), n32_cl (by omega), y0', kb_s, y1', kb_s, kl_e, kl_e, n32_addl]
      · dsimp only
        have x0 := yl t (w / 6 % 6) (1 - w / 36) ht hz (by omega)
        have x1 := yl t (w % 6) (w / 36) ht ho (by omega)
        have b0 := ybN_lt rc rr hz ht (tr := 1 - w / 36) (x := tmM h t) (by omega) (ms.2.2.1 t (by omega)).1.2
        have b1 := ybN_lt rc rr ho ht (tr := w / 36) (x := tmM h t) (by omega) (ms.2.2.1 t (by omega)).1.2
        have ml := maN_lt (h := h) (w := w) t fun u hu => ⟨ybN_lt rc rr hz (by omega) (by omega) (ms.2.2.1 u (by omega)).1.2, ybN_lt rc rr ho (by omega) (by omega) (ms.2.2.1 u (by omega)).1.2⟩
        have sh4 : ∀ a, a < 4 → ∀ t, t < 6 → Int32.ofNat a <<< ((Int32.ofNat (2 * t)) &&& 31) = Int32.ofNat (a * 4 ^ t) := by decide +kernel
        have oa : maN h w t ||| (ybN h (w / 6 % 6) t (1 - w / 36) (tmM h t) + 2 * ybN h (w % 6) t (w / 36) (tmM h t)) * 4 ^ t = maN h w (t + 1) := by
          have p4 : 4 ^ t = 2 ^ (2 * t) := by rw [Nat.pow_mul]
          have := Nat.two_pow_add_eq_or_of_lt (i := 2 * t) (b := maN h w t) (by rw [← p4]; exact ml) (ybN h (w / 6 % 6) t (1 - w / 36) (tmM h t) + 2 * ybN h (w % 6) t (w / 36) (tmM h t))
          rw [maN, p4, Nat.or_comm, Nat.mul_comm _ (2 ^ (2 * t)), ← this, Nat.add_comm]
        rw [kI_sI, if_pos ⟨rfl, rfl⟩, p3 hz ho, x0, x1, n32_mulr, n32_mulr, n32_add, sh4 _ (by omega) _ (by omega), n32_or, oa]) (fun s hP => by
      obtain ⟨s1, q⟩ := s
      obtain ⟨p1, p2, p3⟩ := hP
      dsimp only at p1 p2 p3
      subst p1
      have rq := (hr.fp fg).fp p2
      refine ⟨q, ?_, p2, p3⟩
      unfold f_X12_laysWorlds_l26
      dsimp only
      rw [if_pos kk173, m_testMany rq, kb_s, E4 p2, if_pos (by rw [n32_le (by omega) (by omega)]; omega)])
theorem Yl.same {h g g' : KH} {n : Nat} (y : Yl h g n) (e : ∀ i, kI g' 209 i = kI g 209 i) : Yl h g' n := fun t k tr a b c => by rw [e]; exact y t k tr a b c
theorem m_laysWorlds {h : KH} {c : Nat} (rc : RC h c) (rr : Rrule h c) (ms : MS h) {fr : Nat} (hfr : fr < 2) (hfresh : fr = 1 → (∀ t, t < 6 → anN h t = 0) ∧ ∀ i, i < 10 → lkM h i = 0) :
    ∃ h', f_X12_laysWorlds h 173 (Int32.ofNat fr) = some h' ∧ kfp Wmw h h' ∧ Yl h h' (kN h 198 4) ∧ Mst h h' (wtN h (tmM h) (anN h) (lkM h)) 72 := by
  obtain ⟨hr, hc, h5, hm, -⟩ := id rc
  obtain ⟨g0, e0, f0, y0⟩ := m_laysYields rc rr ms
  obtain ⟨g1, e1⟩ : ∃ q, q = ksL g0 173 56 0 := ⟨_, rfl⟩
  have F1 : kfp Wmw h g1 := by
    rw [e1]
    exact (f0.wide fun l i z => by unfold Wy at z; unfold Wmw; omega).sL _ (by unfold Wmw; omega)
  have yl1 : Yl h g1 (kN h 198 4) := y0.same fun i => by rw [e1, kI_sL]
  obtain ⟨W, hW⟩ : ∃ W, wtN h (tmM h) (anN h) (lkM h) = W := ⟨_, rfl⟩
  rw [hW]
  obtain ⟨g2, e2, f2, yl2, m2⟩ := kloop_inv (body := f_X12_laysWorlds_l11 173 (Int32.ofNat fr)) (fun w s => s.1 = Int32.ofNat w ∧ kfp Wmw h s.2 ∧ Yl h s.2 (kN h 198 4) ∧ Mst h s.2 W w) (fun r => kfp Wmw h r ∧ Yl h r (kN h 198 4) ∧ Mst h r W 72) 72 (s0 := ((0 : Int32), g1)) (by omega)
    ⟨rfl, F1, yl1, fun w hw => absurd hw (Nat.not_lt_zero _), by rw [e1, kL_sL, if_pos ⟨rfl, rfl⟩]; rfl, fun w hw => absurd hw (Nat.not_lt_zero _)⟩ (fun w s hw hP => by
      obtain ⟨s1, q⟩ := s
      obtain ⟨p1, p2, p3, p4⟩ := hP
      dsimp only at p1 p2 p3 p4
      subst p1
      have rq := hr.fp p2
      obtain ⟨q0, eq0⟩ : ∃ q0, q0 = ksI q 214 w 0 := ⟨_, rfl⟩
      have fq0 : kfp Wmw h q0 := by rw [eq0]; exact p2.sI _ (by unfold Wmw; omega)
      obtain ⟨q1, z1, z2, z3⟩ := m_ansLoop rc rr ms fq0 (p3.same fun i => by rw [eq0, kI_sI, if_neg (by omega)]) hw (Int32.ofNat fr) (by rw [eq0, kI_sI, if_pos ⟨rfl, rfl⟩])
      have fq1 : kfp Wmw h q1 := fq0.tr (z2.wide fun l i y => by unfold Wmw; omega)
      have rq1 := hr.fp fq1
      have wo := m_weightOf rc rr ms fq1 hfr hfresh hw z3
      rw [hW] at wo
      obtain ⟨q2, eq2⟩ : ∃ q2, q2 = ksL q1 213 w (Int64.ofNat (W w)) := ⟨_, rfl⟩
      have fq2 : kfp Wmw h q2 := by rw [eq2]; exact fq1.sL _ (by unfold Wmw; omega)
      have rq2 := hr.fp fq2
      have a56 : kL q2 173 56 = Int64.ofNat (aT W w) := by
        rw [eq2, kL_sL, if_neg (by omega), z2.2.2.2 _ _ (by omega), eq0, kL_sI]
        exact p4.2.1
      have a213 : kL q2 213 w = Int64.ofNat (W w) := by rw [eq2, kL_sL, if_pos ⟨rfl, rfl⟩]
      refine ⟨(Int32.ofNat (w + 1), ksL q2 173 56 (Int64.ofNat (aT W w + W w))), ?_, rfl, fq2.sL _ (by unfold Wmw; omega), p3.same fun i => ?_, fun v hv => ?_, ?_, fun v hv a b => ?_⟩
      · unfold f_X12_laysWorlds_l11
        dsimp only
        rw [if_neg (by rw [n32_ler (by omega) (by omega)]; omega), if_pos kk173, rf173_55 rq, if_pos (show 214 < 999999 by omega), if_pos kk214, kn214, if_neg (by rw [n32_cl (by omega)]; exact fun z => z.elim (n32_nn (by omega)) (by omega)), n32_cl (by omega), ← eq0, kl_e, z1, kb_s, rf173_54 rq1, if_pos (show 213 < 999999 by omega), wo, kb_s, if_pos kk213, kn213, if_neg (fun z => z.elim (n32_nn (by omega)) (by omega)), ← eq2, kl_e, rf173_54 rq2, if_pos (show 213 < 999999 by omega), if_pos kk213, kn213, if_neg (fun z => z.elim (n32_nn (by omega)) (by omega)), a56, a213, n64_add, kl_e, kl_e, n32_addl]
      · dsimp only
        rw [kI_sL, eq2, kI_sL, z2.2.2.1 _ _ (by omega), eq0, kI_sI, if_neg (by omega)]
      · dsimp only
        rw [kL_sL, if_neg (by omega)]
        by_cases y : v = w
        · rw [y, a213]
        · rw [eq2, kL_sL, if_neg (by omega), z2.2.2.2 _ _ (by omega), eq0, kL_sI]
          exact p4.1 v (by omega)
      · dsimp only
        rw [kL_sL, if_pos ⟨rfl, rfl⟩]
        rfl
      · dsimp only
        rw [kI_sL, eq2, kI_sL]
        by_cases y : v = w
        · rw [y] at a b ⊢
          exact z3 a b
        · rw [z2.2.2.1 _ _ (by omega), eq0, kI_sI, if_neg (by omega)]
          exact p4.2.2 v (by omega) a b) (fun s hP => by
      obtain ⟨s1, q⟩ := s
      obtain ⟨p1, p2, p3, p4⟩ := hP
      dsimp only at p1 p2 p3 p4
      subst p1
      refine ⟨q, ?_, p2, p3, p4⟩
      unfold f_X12_laysWorlds_l11
      dsimp only
      rw [if_pos (by decide)])
  refine ⟨g2, ?_, f2, yl2, m2⟩
  unfold f_X12_laysWorlds
  rw [if_pos kk173, e0, kb_s, ← e1, kl_e, e2, kb_s]
