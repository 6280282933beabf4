/-! the model answers a QUESTION -/
theorem m_qTold {h g : KH} {c t ty : Nat} {d : List Nat} (rc : RC h c) (rs : RS h) (rr : Rrule h c) (rg : kRefs g) (I : ∀ l i, 198 ≤ l → l ≤ 207 → kI g l i = kI h l i) (mr : MR h g (kN h 198 4)) (k44 : kI g 173 44 = 0) (e86 : kI g 173 86 = Int32.ofNat d.length) (n16 : d.length ≤ 1600) (ec : ∀ i, i < d.length → kI g 239 i = Int32.ofNat (d.getD i 0)) (hd : rtf false (fun i => d.getD i 0) 0 d.length [] = some [ty]) (h01 : ty = 0 ∨ ty = 1) (ht : t < kN h 198 4) : ∃ v g', f_X12_qTold g 173 (Int32.ofNat t) = some (v, g') ∧ kfp Wq g g' ∧ v.toInt = xqZ h d t := by
  obtain ⟨xb, -, xr⟩ := xqZ_b rc rs rr ht hd h01
  have pb := pvQ_b rc rs ht
  have yb := yvQ_b rc rr rs ht
  obtain ⟨g0, eg0⟩ : ∃ g0, g0 = ksI g 173 92 (0 : Int32) := ⟨_, rfl⟩
  have f0 : kfp Wq g g0 := by rw [eg0]; exact kfp.rf.sI _ (Or.inl ⟨rfl, rfl⟩)
  have a92 : kI g0 173 92 = Int32.ofNat 0 := by rw [eg0, kI_sI, if_pos ⟨rfl, rfl⟩]; rfl
  obtain ⟨r, e1, f1, q1⟩ := kloop_inv (body := f_X12_qTold_l7 173 (Int32.ofNat t)) (fun i s => s.1 = Int32.ofNat i ∧ kfp Wq g s.2 ∧ Qp s.2 (rev (pvQ h t) (yvQ h t) (fun i => d.getD i 0) i)) (fun r => kfp Wq g r ∧ Qp r (rev (pvQ h t) (yvQ h t) (fun i => d.getD i 0) d.length)) d.length (s0 := ((0 : Int32), g0)) (by omega) ⟨rfl, f0, a92, trivial⟩ (fun i s hi hP => by
    obtain ⟨s1, q⟩ := s
    obtain ⟨p1, p2, p3⟩ := hP
    dsimp only at p1 p2 p3
    subst p1
    obtain ⟨ts', w1⟩ := rtf_pre d.length hd (i + 1) (by omega)
    obtain ⟨ts, w2, w3, w4⟩ := rtf_step w1
    rw [Nat.zero_add] at w3
    have rq := rg.fp p2
    have Iq : ∀ l i, 198 ≤ l → l ≤ 207 → kI q l i = kI h l i := fun l i a b => (p2.2.2.1 _ _ (by unfold Wq; omega)).trans (I l i a b)
    have mq : MR h q (kN h 198 4) := fun u hu => ⟨by rw [p2.2.2.2 _ _ (by unfold Wq; omega)]; exact (mr u hu).1, (p2.2.2.1 _ _ (by unfold Wq; omega)).trans (mr u hu).2.1, fun k hk => (p2.2.2.1 _ _ (by unfold Wq; omega)).trans ((mr u hu).2.2 k hk)⟩
    obtain ⟨g', z1, z2, z3⟩ := m_qstep rq (n := d.length) (i := i) (cc := d.getD i 0) (t := t) (pv := pvQ h t) (yv := yvQ h t) ((p2.2.2.1 _ _ (by unfold Wq; omega)).trans e86) n16 hi ((p2.2.2.1 _ _ (by unfold Wq; omega)).trans (ec i hi)) w3 w4 (rev_ok pb yb i w2) p3 pb yb (m_partQ rc rq rs Iq mq ((p2.2.2.1 _ _ (by unfold Wq; omega)).trans k44) ht) (fun v a x hv ha => m_ofQ rc rr rq rs Iq mq ht hv ha x)
    exact ⟨_, z1, rfl, p2.tr z2, z3⟩) (fun s hP => by
    obtain ⟨s1, q⟩ := s
    obtain ⟨p1, p2, p3⟩ := hP
    dsimp only at p1 p2 p3
    subst p1
    refine ⟨q, ?_, p2, p3⟩
    unfold f_X12_qTold_l7
    dsimp only
    rw [if_pos kk173, (p2.2.2.1 _ _ (by unfold Wq; omega)).trans e86, if_pos (by rw [n32_le (by omega) (by omega)]; omega)])
  have r1 := rg.fp f1
  rw [xr] at q1
  have e1' : kloop (f_X12_qTold_l7 173 (Int32.ofNat t)) KF ((0 : Int32), g0) = some r := e1
  refine ⟨kL r 241 0, r, ?_, f1, q1.2.1⟩
  unfold f_X12_qTold
  rw [if_pos kk173, kl_e, ← eg0, e1', kb_s, rf173_91 r1, if_pos (show 241 < 999999 by omega), if_pos kk241, kn241, if_neg (by omega)]
def Wtk (l i : Nat) : Prop := l = 173 ∧ (i = 93 ∨ i = 94)
theorem m_qTakes {g : KH} {w t : Nat} {x : Nat → Int} {v : Int64} (iw : isQ w) (t6 : t < 6) (hv : v.toInt = x t) (x01 : (w = 9 ∨ w = 22 ∨ w = 23) → x t = 0 ∨ x t = 1) (ka : (kL g 173 93).toInt = aqZ w x t) (kn : kI g 173 94 = if t = 0 then 1 else 0) (ab : -100000000 ≤ aqZ w x t ∧ aqZ w x t ≤ 100000000) (xb : -1000000 ≤ x t ∧ x t ≤ 1000000) : ∃ g', f_X12_qTakes g 173 (Int32.ofNat (qkN w)) v (Int32.ofNat t) = some g' ∧ kfp Wtk g g' ∧ (kL g' 173 93).toInt = aqZ w x (t + 1) ∧ kI g' 173 94 = 0 := by
  -- how it ends
  have wr : ∀ a : Int64, a.toInt = aqZ w x (t + 1) → ∃ g', f_X12_qTakes_b133 (ksL g 173 93 a) 173 = some g' ∧ kfp Wtk g g' ∧ (kL g' 173 93).toInt = aqZ w x (t + 1) ∧ kI g' 173 94 = 0 := fun a ha => by
    unfold f_X12_qTakes_b133
    rw [if_pos kk173, kl_e]
    exact ⟨_, rfl, (kfp.rf.sL _ (by unfold Wtk; omega)).sI _ (by unfold Wtk; omega), by rw [kL_sI, kL_sL, if_pos ⟨rfl, rfl⟩]; exact ha, by rw [kI_sI, if_pos ⟨rfl, rfl⟩]⟩
  have no : aqZ w x t = aqZ w x (t + 1) → ∃ g', f_X12_qTakes_b133 g 173 = some g' ∧ kfp Wtk g g' ∧ (kL g' 173 93).toInt = aqZ w x (t + 1) ∧ kI g' 173 94 = 0 := fun ha => by
    unfold f_X12_qTakes_b133
    rw [if_pos kk173, kl_e]
    exact ⟨_, rfl, kfp.rf.sI _ (by unfold Wtk; omega), by rw [kL_sI, ka]; exact ha, by rw [kI_sI, if_pos ⟨rfl, rfl⟩]⟩
  have v1 : lg_cmp v (1 : Int64) = 0 ↔ x t = 1 := lgi_eq hv rfl
  have m1 : lg_cmp (kL g 173 93) (-1 : Int64) = 0 ↔ aqZ w x t = -1 := lgi_eq ka rfl
  have k94 : kI g 173 94 = 0 ↔ t ≠ 0 := by
    rw [kn]
    by_cases q : t = 0
    · rw [if_pos q]
      exact ⟨fun u => absurd u (by decide), fun u => absurd q u⟩
    · rw [if_neg q]
      exact ⟨fun _ => q, fun _ => rfl⟩
  have b90 : ∀ gg k, k ≤ 3 → f_X12_qTakes_b90 gg 173 (Int32.ofNat k) v = f_X12_qTakes_b133 gg 173 := fun gg k hk => by
    unfold f_X12_qTakes_b90
    rw [if_pos (by rw [n32_lel (by omega) (by omega)]; exact hk)]
  unfold f_X12_qTakes f_X12_qTakes_b15
  rcases iw with rfl | rfl | rfl | rfl | rfl | rfl
  · -- FIRST
    have kq : Int32.ofNat (qkN 9) = 0 := rfl
    have ea : aqZ 9 x (t + 1) = if x t ≠ 0 ∧ aqZ 9 x t = -1 then (t : Int) else aqZ 9 x t := by rw [aqZ, if_pos rfl]
    rw [kq, if_neg (by decide)]
    have b38 : ∀ w0 : Int32, f_X12_qTakes_b38 g 173 0 v (Int32.ofNat t) w0 = f_X12_qTakes_b133 g 173 := fun w0 => by
      unfold f_X12_qTakes_b38 f_X12_qTakes_b55 f_X12_qTakes_b75
      rw [if_neg (by decide), if_neg (by decide), if_neg (by decide)]
      exact b90 g 0 (by omega)
    by_cases x1 : x t = 1
    · rw [if_pos (v1.mpr x1)]
      unfold f_X12_qTakes_b16
      rw [if_pos rfl, if_neg (by decide), if_pos kk173]
      by_cases a1 : aqZ 9 x t = -1
      · rw [if_pos (m1.mpr a1)]
        unfold f_X12_qTakes_b48 f_X12_qTakes_b55 f_X12_qTakes_b75
        rw [if_pos kk173, kl_e, if_neg (by decide), if_neg (by decide)]
        have := b90 (ksL g 173 93 (Int32.ofNat t).toInt64) 0 (by omega)
        have t90 : f_X12_qTakes_b90 (ksL g 173 93 (Int32.ofNat t).toInt64) 173 0 v = _ := this
        rw [t90]
        exact wr _ (by rw [ea, if_pos ⟨by omega, a1⟩, n32_toI64 (by omega), n64_toInt (by omega)])
      · rw [if_neg (fun u => a1 (m1.mp u)), b38]
        exact no (by rw [ea, if_neg (fun u => a1 u.2)])
    · have x0 : x t = 0 := by
        rcases x01 (Or.inl rfl) with u | u
        · exact u
        · exact absurd u x1
      rw [if_neg (fun u => x1 (v1.mp u))]
      unfold f_X12_qTakes_b16
      rw [if_pos rfl, if_pos rfl, b38]
      exact no (by rw [ea, if_neg (fun u => u.1 x0)])
  · -- LAST
    have kq : Int32.ofNat (qkN 22) = 1 := rfl
    have ea : aqZ 22 x (t + 1) = if x t ≠ 0 then (t : Int) else aqZ 22 x t := by rw [aqZ, if_neg (by omega), if_pos rfl]
    rw [kq, if_neg (by decide)]
    have b55 : ∀ gg (w0 : Int32), f_X12_qTakes_b55 gg 173 1 v w0 = f_X12_qTakes_b133 gg 173 := fun gg w0 => by
      unfold f_X12_qTakes_b55 f_X12_qTakes_b75
      rw [if_neg (by decide), if_neg (by decide)]
      exact b90 gg 1 (by omega)
    by_cases x1 : x t = 1
    · rw [if_pos (v1.mpr x1)]
      unfold f_X12_qTakes_b16 f_X12_qTakes_b38 f_X12_qTakes_b48
      rw [if_neg (by decide), if_pos rfl, if_neg (by decide), if_pos kk173, kl_e, b55]
      exact wr _ (by rw [ea, if_pos (by omega), n32_toI64 (by omega), n64_toInt (by omega)])
    · have x0 : x t = 0 := by
        rcases x01 (Or.inr (Or.inl rfl)) with u | u
        · exact u
        · exact absurd u x1
      rw [if_neg (fun u => x1 (v1.mp u))]
      unfold f_X12_qTakes_b16 f_X12_qTakes_b38
      rw [if_neg (by decide), if_pos rfl, if_pos rfl, b55]
      exact no (by rw [ea, if_neg (fun u => u x0)])
  · -- OFTEN
    have kq : Int32.ofNat (qkN 23) = 2 := rfl
    have ea : aqZ 23 x (t + 1) = aqZ 23 x t + x t := by rw [aqZ, if_neg (by omega), if_neg (by omega), if_pos (Or.inl rfl)]
    rw [kq, if_neg (by decide)]
    have b75 : ∀ gg, f_X12_qTakes_b75 gg 173 2 v = f_X12_qTakes_b133 gg 173 := fun gg => by
      unfold f_X12_qTakes_b75
      rw [if_neg (by decide)]
      exact b90 gg 2 (by omega)
    by_cases x1 : x t = 1
    · rw [if_pos (v1.mpr x1)]
      unfold f_X12_qTakes_b16 f_X12_qTakes_b38 f_X12_qTakes_b55
      rw [if_neg (by decide), if_neg (by decide), if_pos rfl, if_neg (by decide), if_pos kk173, kl_e, b75]
      have o1 : (1 : Int64).toInt = 1 := rfl
      exact wr _ (by rw [ea, Int64.toInt_add, ka, o1, Int.bmod_eq_of_le (by omega) (by omega), x1])
    · have x0 : x t = 0 := by
        rcases x01 (Or.inr (Or.inr rfl)) with u | u
        · exact u
        · exact absurd u x1
      rw [if_neg (fun u => x1 (v1.mp u))]
      unfold f_X12_qTakes_b16 f_X12_qTakes_b38 f_X12_qTakes_b55
      rw [if_neg (by decide), if_neg (by decide), if_pos rfl, if_pos rfl, b75]
      exact no (by rw [ea, x0]; omega)
  · -- TOTAL
    have kq : Int32.ofNat (qkN 24) = 3 := rfl
    have ea : aqZ 24 x (t + 1) = aqZ 24 x t + x t := by rw [aqZ, if_neg (by omega), if_neg (by omega), if_pos (Or.inr rfl)]
    rw [kq, if_pos (by decide)]
    unfold f_X12_qTakes_b16 f_X12_qTakes_b38 f_X12_qTakes_b55 f_X12_qTakes_b75
    rw [if_neg (by decide), if_neg (by decide), if_neg (by decide), if_pos rfl, if_pos kk173, kl_e]
    have t90 : f_X12_qTakes_b90 (ksL g 173 93 (kL g 173 93 + v)) 173 3 v = _ := b90 _ 3 (by omega)
    rw [t90]
    exact wr _ (by rw [ea, Int64.toInt_add, ka, hv, Int.bmod_eq_of_le (by omega) (by omega)])
  · -- MOST
    have kq : Int32.ofNat (qkN 25) = 4 := rfl
    have ea : aqZ 25 x (t + 1) = if t = 0 ∨ aqZ 25 x t < x t then x t else aqZ 25 x t := by rw [aqZ, if_neg (by omega), if_neg (by omega), if_neg (by omega), if_pos rfl]
    have c1 : lg_cmp v (kL g 173 93) ≤ 0 ↔ x t ≤ aqZ 25 x t := lgi_le hv ka
    rw [kq, if_pos (by decide)]
    unfold f_X12_qTakes_b16 f_X12_qTakes_b38 f_X12_qTakes_b55 f_X12_qTakes_b75 f_X12_qTakes_b90 f_X12_qTakes_b128
    rw [if_neg (by decide), if_neg (by decide), if_neg (by decide), if_neg (by decide), if_neg (by decide), if_pos kk173]
    by_cases q : t = 0
    · rw [if_neg (fun u => k94.mp u q), if_pos kk173, kl_e]
      exact wr v (by rw [ea, if_pos (Or.inl q), hv])
    · rw [if_pos (k94.mpr q), if_pos rfl]
      by_cases u : x t ≤ aqZ 25 x t
      · rw [if_pos (c1.mpr u)]
        exact no (by rw [ea, if_neg (by omega)])
      · rw [if_neg (fun z => u (c1.mp z)), if_pos kk173, kl_e]
        exact wr v (by rw [ea, if_pos (by omega), hv])
  · -- LEAST
    have kq : Int32.ofNat (qkN 26) = 5 := rfl
    have ea : aqZ 26 x (t + 1) = if t = 0 ∨ x t < aqZ 26 x t then x t else aqZ 26 x t := by rw [aqZ, if_neg (by omega), if_neg (by omega), if_neg (by omega), if_neg (by omega)]
    have c1 : 0 ≤ lg_cmp v (kL g 173 93) ↔ aqZ 26 x t ≤ x t := lgi_ge hv ka
    rw [kq, if_pos (by decide)]
    unfold f_X12_qTakes_b16 f_X12_qTakes_b38 f_X12_qTakes_b55 f_X12_qTakes_b75 f_X12_qTakes_b90 f_X12_qTakes_b128
    rw [if_neg (by decide), if_neg (by decide), if_neg (by decide), if_neg (by decide), if_neg (by decide), if_pos kk173]
    by_cases q : t = 0
    · rw [if_neg (fun u => k94.mp u q), if_pos kk173, kl_e]
      exact wr v (by rw [ea, if_pos (Or.inl q), hv])
    · rw [if_pos (k94.mpr q), if_neg (by decide)]
      by_cases u : aqZ 26 x t ≤ x t
      · rw [if_pos (c1.mpr u)]
        exact no (by rw [ea, if_neg (by omega)])
      · rw [if_neg (fun z => u (c1.mp z)), if_pos kk173, kl_e]
        exact wr v (by rw [ea, if_pos (by omega), hv])
