/-! the model works out RIGHT -/
def mk4 (s : Nat) : Nat → Nat
  | 0 => 0
  | n + 1 => if s / 2 ^ n % 2 = 1 then mk4 s n ||| 3 * 4 ^ n else mk4 s n
theorem mk4_lt : ∀ s, s < 64 → mk4 s 6 < 4096 := by decide +kernel
theorem n32_shl3 : ∀ t, t < 6 → (3 : Int32) <<< (((2 : Int32) * Int32.ofNat t) &&& 31) = Int32.ofNat (3 * 4 ^ t) := by decide +kernel
theorem m_maskOf (h : KH) {s : Nat} (hs : s < 64) : f_X12_maskOf h (Int32.ofNat s) = some (Int32.ofNat (mk4 s 6)) := by
  unfold f_X12_maskOf
  rw [show kloop (f_X12_maskOf_l4 h (Int32.ofNat s)) KF ((0 : Int32), (0 : Int32)) = some (Int32.ofNat (mk4 s 6)) from
    kloop_for (body := f_X12_maskOf_l4 h (Int32.ofNat s)) (fun t => (Int32.ofNat (mk4 s t), Int32.ofNat t)) 6 (Int32.ofNat (mk4 s 6)) (by omega) (fun t ht => by
      unfold f_X12_maskOf_l4 f_X12_maskOf_b27
      dsimp only
      rw [if_neg (by rw [n32_ler (by omega) (by omega)]; omega), n32_bit (by omega) (by omega), mk4]
      by_cases y : s / 2 ^ t % 2 = 1
      · rw [if_pos (by rw [y]; rfl), n32_shl3 t ht, n32_or, kl_e, kl_e, n32_addl, if_pos y]
      · rw [if_neg (by rw [n32_eql (by omega) (by omega)]; exact y), kl_e, n32_addl, if_neg y]) (by
      unfold f_X12_maskOf_l4
      dsimp only
      rw [if_pos (by decide)]), kb_s]
def mK (g : KH) (s : Nat) (w : Nat) : Nat := (kI g 214 w &&& Int32.ofNat (mk4 s 6)).toNatClampNeg
theorem mK_lt (g : KH) {s : Nat} (hs : s < 64) (w : Nat) : mK g s w < 4096 := (n32_mask _ (mk4_lt s hs)).2
theorem m_rightFill {h : KH} (hr : kRefs h) {W : Nat → Nat} (ws : ∀ w, w < 72 → kL h 213 w = Int64.ofNat (W w)) (rz : Rzero h) {s : Nat} (hs : s < 64) {K : Nat → Nat} (hK : K = mK h s) (v3 : Int64) : ∃ h', kloop (f_X12_rightBy_l10 173 (Int32.ofNat (mk4 s 6)) v3) KF ((0 : Int32), h) = some h' ∧ kfp (fun l _ => l = 215) h h' ∧ ∀ k, k < 4096 → kL h' 215 (2 * k) = Int64.ofNat (gS W K 0 k 72) ∧ kL h' 215 (2 * k + 1) = Int64.ofNat (gS W K 1 k 72) := by
  have Kl : ∀ w, K w < 4096 := fun w => by rw [hK]; exact mK_lt h hs w
  obtain ⟨h', e, f, r⟩ := kloop_inv (body := f_X12_rightBy_l10 173 (Int32.ofNat (mk4 s 6)) v3) (fun w x => x.1 = Int32.ofNat w ∧ kfp (fun l _ => l = 215) h x.2 ∧ ∀ k, k < 4096 → kL x.2 215 (2 * k) = Int64.ofNat (gS W K 0 k w) ∧ kL x.2 215 (2 * k + 1) = Int64.ofNat (gS W K 1 k w))
    (fun r => kfp (fun l _ => l = 215) h r ∧ ∀ k, k < 4096 → kL r 215 (2 * k) = Int64.ofNat (gS W K 0 k 72) ∧ kL r 215 (2 * k + 1) = Int64.ofNat (gS W K 1 k 72)) 72 (s0 := ((0 : Int32), h)) (by omega)
    ⟨rfl, kfp.rf, fun k hk => ⟨rz.2 _ (by omega), rz.2 _ (by omega)⟩⟩ (fun w x hw hP => by
      obtain ⟨x1, q⟩ := x
      obtain ⟨p1, p2, p3⟩ := hP
      dsimp only at p1 p2 p3
      subst p1
      have rq := hr.fp p2
      have k4 := Kl w
      have wk : kI q 214 w &&& Int32.ofNat (mk4 s 6) = Int32.ofNat (K w) := by rw [p2.2.2.1 _ _ (by omega), hK]; exact (n32_mask _ (mk4_lt s hs)).1
      have ww : kL q 213 w = Int64.ofNat (W w) := by rw [p2.2.2.2 _ _ (by omega)]; exact ws w hw
      have old : kL q 215 (2 * K w + w / 36) = Int64.ofNat (gS W K (w / 36) (K w) w) := by
        have : w / 36 = 0 ∨ w / 36 = 1 := by omega
        rcases this with y | y
        · rw [y]; exact (p3 _ k4).1
        · rw [y]; exact (p3 _ k4).2
      refine ⟨(Int32.ofNat (w + 1), ksL q 215 (2 * K w + w / 36) (Int64.ofNat (gS W K (w / 36) (K w) w + W w))), ?_, rfl, p2.sL _ rfl, fun k hk => ?_⟩
      · unfold f_X12_rightBy_l10
        dsimp only
        rw [if_neg (by rw [n32_ler (by omega) (by omega)]; omega), if_pos kk173, rf173_57 rq, if_pos (show 215 < 999999 by omega), rf173_55 rq, if_pos (show 214 < 999999 by omega), if_pos kk214, kn214, if_neg (by rw [n32_cl (by omega)]; exact fun z => z.elim (n32_nn (by omega)) (by omega)), m_truthOf q hw, kb_s, if_pos kk215, kn215, n32_cl (show w < 2147483648 by omega), wk, n32_mulr, n32_add, if_neg (by rw [n32_cl (by omega)]; exact fun z => z.elim (n32_nn (by omega)) (by omega)), n32_cl (by omega), rf173_54 rq, if_pos (show 213 < 999999 by omega), if_pos kk213, kn213, if_neg (fun z => z.elim (n32_nn (by omega)) (by omega)), old, ww, n64_add, kl_e, kl_e, n32_addl]
      · dsimp only
        rw [kL_sL, kL_sL, gS_s, gS_s]
        refine ⟨?_, ?_⟩
        · by_cases u : w / 36 = 0 ∧ K w = k
          · rw [if_pos ⟨rfl, by omega⟩, if_pos u, u.1, u.2]
          · rw [if_neg (fun z => u (by omega)), if_neg u, (p3 k hk).1]
            rfl
        · by_cases u : w / 36 = 1 ∧ K w = k
          · rw [if_pos ⟨rfl, by omega⟩, if_pos u, u.1, u.2]
          · rw [if_neg (fun z => u (by omega)), if_neg u, (p3 k hk).2]
            rfl) (fun x hP => by
      obtain ⟨x1, q⟩ := x
      obtain ⟨p1, p2, p3⟩ := hP
      dsimp only at p1 p2 p3
      subst p1
      refine ⟨q, ?_, p2, p3⟩
      unfold f_X12_rightBy_l10
      dsimp only
      rw [if_pos (by decide)])
  exact ⟨h', e, f, r⟩
theorem m_rightBy {h : KH} (hr : kRefs h) {W : Nat → Nat} (wb : ∀ w, W w ≤ 27960524111619) (ws : ∀ w, w < 72 → kL h 213 w = Int64.ofNat (W w)) (rz : Rzero h) {s : Nat} (hs : s < 64) : ∃ h', f_X12_rightBy h 173 (Int32.ofNat s) = some (Int64.ofNat (rN W (mK h s)), h') ∧ kfp (fun l _ => l = 215) h h' ∧ Rzero h' := by
  have ab := aT_wb wb
  obtain ⟨K, hK⟩ : ∃ K, K = mK h s := ⟨_, rfl⟩
  have Kl : ∀ w, K w < 4096 := fun w => by rw [hK]; exact mK_lt h hs w
  obtain ⟨g, e1, f1, v1⟩ := m_rightFill hr ws rz hs hK 0
  obtain ⟨G0, h0⟩ : ∃ G0, G0 = fun k => gS W K 0 k 72 := ⟨_, rfl⟩
  obtain ⟨G1, h1⟩ : ∃ G1, G1 = fun k => gS W K 1 k 72 := ⟨_, rfl⟩
  have v2 : ∀ k, k < 4096 → kL g 215 (2 * k) = Int64.ofNat (G0 k) ∧ kL g 215 (2 * k + 1) = Int64.ofNat (G1 k) := by rw [h0, h1]; exact v1
  have gl : ∀ i k, zS K G0 i k < 900000000000000000 ∧ zS K G1 i k < 900000000000000000 := fun i k => by
    have a := zS_le K G0 k i
    have b := zS_le K G1 k i
    have c : G0 k ≤ aT W 72 := by rw [h0]; exact gS_le _ _ _ _ _
    have d : G1 k ≤ aT W 72 := by rw [h1]; exact gS_le _ _ _ _ _
    omega
  have zz : ∀ k, k < 4096 → zS K G0 72 k = 0 ∧ zS K G1 72 k = 0 := fun k hk => by
    have fi : ∀ tr, gS W K tr k 72 ≠ 0 → ∃ j, j < 72 ∧ K j = k := fun tr z => by
      obtain ⟨w, a, b, d⟩ := gS_in 72 z
      exact ⟨w, a, d⟩
    exact ⟨zS_zero K G0 k _ (by rw [h0]; exact fi 0), zS_zero K G1 k _ (by rw [h1]; exact fi 1)⟩
  obtain ⟨r, e2, f2, a2, z2⟩ := kloop_inv (body := f_X12_rightBy_l58 173 (Int32.ofNat (mk4 s 6))) (fun i x => x.1 = Int64.ofNat (acS K G0 G1 i) ∧ x.2.1 = Int32.ofNat i ∧ kfp (fun l _ => l = 215) h x.2.2 ∧ ∀ k, k < 4096 → kL x.2.2 215 (2 * k) = Int64.ofNat (zS K G0 i k) ∧ kL x.2.2 215 (2 * k + 1) = Int64.ofNat (zS K G1 i k))
    (fun r => kfp (fun l _ => l = 215) h r.2 ∧ r.1 = Int64.ofNat (rN W K) ∧ ∀ k, k < 4096 → kL r.2 215 (2 * k) = 0 ∧ kL r.2 215 (2 * k + 1) = 0) 72 (s0 := ((0 : Int64), (0 : Int32), g)) (by omega)
    ⟨rfl, rfl, f1, v2⟩ (fun w x hw hP => by
      obtain ⟨x0, x1, q⟩ := x
      obtain ⟨p0, p1, p2, p3⟩ := hP
      dsimp only at p0 p1 p2 p3
      subst p0
      subst p1
      have rq := hr.fp p2
      have k4 := Kl w
      have wk : kI q 214 w &&& Int32.ofNat (mk4 s 6) = Int32.ofNat (K w) := by rw [p2.2.2.1 _ _ (by omega), hK]; exact (n32_mask _ (mk4_lt s hs)).1
      obtain ⟨g0, g1⟩ := gl w (K w)
      obtain ⟨q1, eq1⟩ : ∃ q1, q1 = ksL q 215 (2 * K w) 0 := ⟨_, rfl⟩
      have fq1 : kfp (fun l _ => l = 215) h q1 := by rw [eq1]; exact p2.sL _ rfl
      have b118 : ∀ (a b : Nat), a = acS K G0 G1 w → b = max (zS K G0 w (K w)) (zS K G1 w (K w)) → f_X12_rightBy_b118 q 173 (Int32.ofNat (mk4 s 6)) (Int32.ofNat w) (Int32.ofNat (2 * K w)) (Int64.ofNat a) (Int64.ofNat b) = some (.inl (Int64.ofNat (acS K G0 G1 (w + 1)), Int32.ofNat (w + 1), ksL q1 215 (2 * K w + 1) 0)) := fun a b ha hb => by
        unfold f_X12_rightBy_b118
        rw [n64_add, kl_e, if_pos kk173, rf173_57 rq, if_pos (show 215 < 999999 by omega), if_pos kk215, kn215, if_neg (by rw [n32_cl (by omega)]; exact fun z => z.elim (n32_nn (by omega)) (by omega)), n32_cl (show 2 * K w < 2147483648 by omega), ← eq1, kl_e, rf173_57 (hr.fp fq1), if_pos (show 215 < 999999 by omega), if_pos kk215, kn215, n32_addl, if_neg (by rw [n32_cl (by omega)]; exact fun z => z.elim (n32_nn (by omega)) (by omega)), n32_cl (show 2 * K w + 1 < 2147483648 by omega), kl_e, n32_addl, kl_e, ha, hb]
        rfl
      refine ⟨(Int64.ofNat (acS K G0 G1 (w + 1)), Int32.ofNat (w + 1), ksL q1 215 (2 * K w + 1) 0), ?_, rfl, rfl, fq1.sL _ rfl, fun k hk => ?_⟩
      · unfold f_X12_rightBy_l58
        dsimp only
        rw [if_neg (by rw [n32_ler (by omega) (by omega)]; omega), if_pos kk173, rf173_55 rq, if_pos (show 214 < 999999 by omega), if_pos kk214, kn214, if_neg (by rw [n32_cl (by omega)]; exact fun z => z.elim (n32_nn (by omega)) (by omega)), n32_cl (show w < 2147483648 by omega), wk, n32_mulr, kl_e, rf173_57 rq, if_pos (show 215 < 999999 by omega), if_pos kk215, kn215, if_neg (by rw [n32_cl (by omega)]; exact fun z => z.elim (n32_nn (by omega)) (by omega)), n32_addl, if_neg (by rw [n32_cl (by omega)]; exact fun z => z.elim (n32_nn (by omega)) (by omega)), n32_cl (show 2 * K w < 2147483648 by omega), n32_cl (show 2 * K w + 1 < 2147483648 by omega), (p3 _ k4).1, (p3 _ k4).2]
        by_cases y : zS K G0 w (K w) ≤ zS K G1 w (K w)
        · rw [if_pos (by rw [lgn_le0 (by omega) (by omega)]; exact y)]
          exact b118 _ _ rfl (by omega)
        · rw [if_neg (by rw [lgn_le0 (by omega) (by omega)]; exact y)]
          exact b118 _ _ rfl (by omega)
      · dsimp only
        rw [kL_sL, kL_sL, if_neg (by omega), eq1, kL_sL, kL_sL, if_neg (show ¬ (215 = 215 ∧ 2 * k + 1 = 2 * K w) by omega)]
        by_cases u : K w = k
        · refine ⟨?_, ?_⟩
          · rw [if_pos ⟨rfl, by omega⟩, zS, if_pos u]
            rfl
          · rw [if_pos ⟨rfl, by omega⟩, zS, if_pos u]
            rfl
        · refine ⟨?_, ?_⟩
          · rw [if_neg (fun z => u (by omega)), zS, if_neg u]
            exact (p3 k hk).1
          · rw [if_neg (fun z => u (by omega)), zS, if_neg u]
            exact (p3 k hk).2) (fun x hP => by
      obtain ⟨x0, x1, q⟩ := x
      obtain ⟨p0, p1, p2, p3⟩ := hP
      dsimp only at p0 p1 p2 p3
      subst p0
      subst p1
      refine ⟨(Int64.ofNat (acS K G0 G1 72), q), ?_, p2, ?_, fun k hk => ?_⟩
      · unfold f_X12_rightBy_l58
        dsimp only
        rw [if_pos (by decide)]
      · rw [acS_end K G0 G1 _ (fun j _ => Kl j) zz, h0, h1]
        rfl
      · dsimp only
        rw [(p3 k hk).1, (p3 k hk).2, (zz k hk).1, (zz k hk).2]
        exact ⟨rfl, rfl⟩)
  refine ⟨r.2, ?_, f2, fun i hi => ?_, fun i hi => ?_⟩
  · unfold f_X12_rightBy
    rw [m_maskOf h hs, kb_s, e1, kb_s, e2, kb_s, a2, hK]
  · rw [f2.2.2.2 _ _ (by omega), f2.2.2.2 _ _ (by omega)]
    exact rz.1 i hi
  · rcases Nat.mod_two_eq_zero_or_one i with y | y
    · rw [show i = 2 * (i / 2) by omega]
      exact (z2 _ (by omega)).1
    · rw [show i = 2 * (i / 2) + 1 by omega]
      exact (z2 _ (by omega)).2
