/-! both work out RIGHT -/
def W89 (l i : Nat) : Prop := l = 168 ∨ l = 169
theorem x_rightFill {h : KH} (hr : kRefs h) {W P : Nat → Nat} (ws : Wst h W P 72) (rz : Rzero h) {s : Nat} (hs : s < 64) {K : Nat → Nat} (hK : K = fun w => P w &&& (s * 65)) : ∃ h', kloop (f_X10_rightOf_l15 162 (Int32.ofNat (s * 65))) KF ((0 : Int32), h) = some h' ∧ kfp W89 h h' ∧ ∀ k, k < 4096 → kL h' 168 k = Int64.ofNat (gS W K 0 k 72) ∧ kL h' 169 k = Int64.ofNat (gS W K 1 k 72) := by
  have ll := lv_len W 72
  have Kl : ∀ w, K w < 4096 := fun w => by
    rw [hK]
    have : P w &&& (s * 65) ≤ s * 65 := Nat.and_le_right
    show P w &&& (s * 65) < 4096
    omega
  obtain ⟨l, hl⟩ : ∃ l, lv W 72 = l := ⟨_, rfl⟩
  have eg : ∀ tr k, gS W K tr k 72 = lsm W (fun w => decide (w / 36 = tr ∧ K w = k)) l := fun tr k => by
    unfold gS
    rw [← lsm_lv, hl]
  rw [hl] at ll
  obtain ⟨h', e, f, r⟩ := kloop_inv (body := f_X10_rightOf_l15 162 (Int32.ofNat (s * 65))) (fun i x => x.1 = Int32.ofNat i ∧ kfp W89 h x.2 ∧ ∀ k, k < 4096 → kL x.2 168 k = Int64.ofNat (lsm W (fun w => decide (w / 36 = 0 ∧ K w = k)) (l.take i)) ∧ kL x.2 169 k = Int64.ofNat (lsm W (fun w => decide (w / 36 = 1 ∧ K w = k)) (l.take i)))
    (fun r => kfp W89 h r ∧ ∀ k, k < 4096 → kL r 168 k = Int64.ofNat (lsm W (fun w => decide (w / 36 = 0 ∧ K w = k)) l) ∧ kL r 169 k = Int64.ofNat (lsm W (fun w => decide (w / 36 = 1 ∧ K w = k)) l)) l.length (s0 := ((0 : Int32), h)) (by omega)
    ⟨rfl, kfp.rf, fun k hk => ⟨(rz.1 k hk).1, (rz.1 k hk).2⟩⟩ (fun i x hi hP => by
      obtain ⟨x1, q⟩ := x
      obtain ⟨p1, p2, p3⟩ := hP
      dsimp only at p1 p2 p3
      subst p1
      have rq := hr.fp p2
      have q3 : kI q 162 3 = Int32.ofNat l.length := by rw [p2.2.2.1 _ _ (by unfold W89; omega), ws.1, hl]
      have mem := getD_mem hi
      rw [← hl] at mem
      obtain ⟨b1, b2⟩ := lv_mem mem
      rw [hl] at mem
      have wi : kI q 165 i = Int32.ofNat (l.getD i 0) := by rw [p2.2.2.1 _ _ (by unfold W89; omega), ws.2.2.1 i (by rw [hl]; exact hi), hl]
      have tk := fun p => lsm_take W p hi
      rw [hl] at b1 b2
      generalize l.getD i 0 = w at mem b1 b2 wi tk
      have wp : kI q 164 w = Int32.ofNat (P w) := by rw [p2.2.2.1 _ _ (by unfold W89; omega), ws.2.2.2.1 w (by rw [hl]; exact mem)]
      have wk : (Int32.ofNat (P w) &&& Int32.ofNat (s * 65)) = Int32.ofNat (K w) := by rw [n32_and, hK]
      have k4 := Kl w
      have ww : kL q 163 w = Int64.ofNat (W w) := by rw [p2.2.2.2 _ _ (by unfold W89; omega), ws.2.1 w b1, if_pos b1]
      unfold f_X10_rightOf_l15 f_X10_rightOf_b89
      dsimp only
      rw [if_pos kk162, q3, if_neg (by rw [n32_le (by omega) (by omega)]; omega), rf162_2 rq, if_pos (show 165 < 999999 by omega), if_pos kk165, kn165, if_neg (by rw [n32_cl (by omega)]; exact fun z => z.elim (n32_nn (by omega)) (by omega)), n32_cl (show i < 2147483648 by omega), wi, kl_e]
      by_cases t : 36 ≤ w
      · rw [if_pos (by rw [n32_ler (by omega) (by omega)]; exact t), rf162_7 rq, if_pos (show 169 < 999999 by omega), rf162_1 rq, if_pos (show 164 < 999999 by omega), if_pos kk164, kn164, if_neg (by rw [n32_cl (by omega)]; exact fun z => z.elim (n32_nn (by omega)) (by omega)), n32_cl (show w < 2147483648 by omega), wp, wk, if_pos kk169, kn169, if_neg (by rw [n32_cl (by omega)]; exact fun z => z.elim (n32_nn (by omega)) (by omega)), n32_cl (show K w < 2147483648 by omega), rf162_0 rq, if_pos (show 163 < 999999 by omega), if_pos kk163, kn163, if_neg (fun z => z.elim (n32_nn (by omega)) (by omega)), ww, (p3 _ k4).2, n64_add, kl_e, kl_e, n32_addl]
        refine ⟨_, rfl, rfl, p2.sL _ (by unfold W89; omega), fun k hk => ?_⟩
        dsimp only
        rw [tk, tk, kL_sL, kL_sL, if_neg (by omega), (p3 k hk).1]
        refine ⟨by rw [if_neg (by simp; omega)]; rfl, ?_⟩
        by_cases u : k = K w
        · rw [if_pos ⟨rfl, u⟩, if_pos (by simp; omega), u]
        · rw [if_neg (fun z => u z.2), (p3 k hk).2, if_neg (by simp; omega)]
          rfl
      · rw [if_neg (by rw [n32_ler (by omega) (by omega)]; exact t), rf162_6 rq, if_pos (show 168 < 999999 by omega), rf162_1 rq, if_pos (show 164 < 999999 by omega), if_pos kk164, kn164, if_neg (by rw [n32_cl (by omega)]; exact fun z => z.elim (n32_nn (by omega)) (by omega)), n32_cl (show w < 2147483648 by omega), wp, wk, if_pos kk168, kn168, if_neg (by rw [n32_cl (by omega)]; exact fun z => z.elim (n32_nn (by omega)) (by omega)), n32_cl (show K w < 2147483648 by omega), rf162_0 rq, if_pos (show 163 < 999999 by omega), if_pos kk163, kn163, if_neg (fun z => z.elim (n32_nn (by omega)) (by omega)), ww, (p3 _ k4).1, n64_add, kl_e, kl_e, n32_addl]
        refine ⟨_, rfl, rfl, p2.sL _ (by unfold W89; omega), fun k hk => ?_⟩
        dsimp only
        rw [tk, tk, kL_sL, kL_sL, if_neg (show ¬ (169 = 168 ∧ k = K w) by omega), (p3 k hk).2]
        refine ⟨?_, by rw [if_neg (by simp; omega)]; rfl⟩
        by_cases u : k = K w
        · rw [if_pos ⟨rfl, u⟩, if_pos (by simp; omega), u]
        · rw [if_neg (fun z => u z.2), (p3 k hk).1, if_neg (by simp; omega)]
          rfl) (fun x hP => by
      obtain ⟨x1, q⟩ := x
      obtain ⟨p1, p2, p3⟩ := hP
      dsimp only at p1 p2 p3
      subst p1
      rw [List.take_length] at p3
      refine ⟨q, ?_, p2, p3⟩
      unfold f_X10_rightOf_l15
      dsimp only
      rw [if_pos kk162, p2.2.2.1 _ _ (by unfold W89; omega), ws.1, hl, if_pos (by rw [n32_le (by omega) (by omega)]; omega)])
  refine ⟨h', e, f, fun k hk => ?_⟩
  rw [eg, eg]
  exact r k hk
theorem aT_wb {W : Nat → Nat} (wb : ∀ w, W w ≤ 27960524111619) : aT W 72 < 900000000000000000 := by
  have := aT_le wb 72
  omega
theorem lv_all {W : Nat → Nat} : ∀ {n w : Nat}, w < n → W w ≠ 0 → w ∈ lv W n
  | 0, w, h, _ => absurd h (Nat.not_lt_zero _)
  | n + 1, w, h, z => by
    rw [lv]
    by_cases y : W n = 0
    · rw [if_pos y]
      exact lv_all (by have : w ≠ n := fun q => z (q ▸ y); omega) z
    · rw [if_neg y]
      by_cases u : w = n
      · rw [u]; simp
      · exact List.mem_append_left _ (lv_all (by omega) z)
theorem x_rightOf {h : KH} (hr : kRefs h) {W P : Nat → Nat} (wb : ∀ w, W w ≤ 27960524111619) (ws : Wst h W P 72) (rz : Rzero h) {s : Nat} (hs : s < 64) : ∃ h', f_X10_rightOf h 162 (Int32.ofNat s) = some (Int64.ofNat (rN W (fun w => P w &&& (s * 65))), h') ∧ kfp W89 h h' ∧ Rzero h' := by
  have ll := lv_len W 72
  have ab := aT_wb wb
  obtain ⟨K, hK⟩ : ∃ K, K = fun w => P w &&& (s * 65) := ⟨_, rfl⟩
  have Kl : ∀ w, K w < 4096 := fun w => by
    rw [hK]
    have : P w &&& (s * 65) ≤ s * 65 := Nat.and_le_right
    show P w &&& (s * 65) < 4096
    omega
  obtain ⟨g, e1, f1, v1⟩ := x_rightFill hr ws rz hs hK
  obtain ⟨l, hl⟩ : ∃ l, lv W 72 = l := ⟨_, rfl⟩
  obtain ⟨J, hJ⟩ : ∃ J, J = fun i => K (l.getD i 0) := ⟨_, rfl⟩
  have Jl : ∀ i, J i < 4096 := fun i => by rw [hJ]; exact Kl _
  obtain ⟨G0, h0⟩ : ∃ G0, G0 = fun k => gS W K 0 k 72 := ⟨_, rfl⟩
  obtain ⟨G1, h1⟩ : ∃ G1, G1 = fun k => gS W K 1 k 72 := ⟨_, rfl⟩
  have v2 : ∀ k, k < 4096 → kL g 168 k = Int64.ofNat (G0 k) ∧ kL g 169 k = Int64.ofNat (G1 k) := by rw [h0, h1]; exact v1
  have gl : ∀ i k, zS J G0 i k < 900000000000000000 ∧ zS J G1 i k < 900000000000000000 := fun i k => by
    have a := zS_le J G0 k i
    have b := zS_le J G1 k i
    have c : G0 k ≤ aT W 72 := by rw [h0]; exact gS_le _ _ _ _ _
    have d : G1 k ≤ aT W 72 := by rw [h1]; exact gS_le _ _ _ _ _
    omega
  have zz : ∀ k, k < 4096 → zS J G0 l.length k = 0 ∧ zS J G1 l.length k = 0 := fun k hk => by
    have fi : ∀ tr, gS W K tr k 72 ≠ 0 → ∃ j, j < l.length ∧ J j = k := fun tr z => by
      obtain ⟨w, a, b, d⟩ := gS_in 72 z
      have mem : w ∈ l := by rw [← hl]; exact lv_all a b
      obtain ⟨j, hj, ej⟩ := List.getElem_of_mem mem
      refine ⟨j, hj, ?_⟩
      rw [hJ]
      show K (l.getD j 0) = k
      rw [show l.getD j 0 = w by
        show (l[j]?).getD 0 = w
        rw [List.getElem?_eq_getElem hj, ← ej]
        rfl, d]
    exact ⟨zS_zero J G0 k _ (by rw [h0]; exact fi 0), zS_zero J G1 k _ (by rw [h1]; exact fi 1)⟩
  obtain ⟨r, e2, f2, a2, z2⟩ := kloop_inv (body := f_X10_rightOf_l100 162 (Int32.ofNat (s * 65))) (fun i x => x.1 = Int64.ofNat (acS J G0 G1 i) ∧ x.2.1 = Int32.ofNat i ∧ kfp W89 h x.2.2 ∧ ∀ k, k < 4096 → kL x.2.2 168 k = Int64.ofNat (zS J G0 i k) ∧ kL x.2.2 169 k = Int64.ofNat (zS J G1 i k))
    (fun r => kfp W89 h r.2 ∧ r.1 = Int64.ofNat (rN W K) ∧ ∀ k, k < 4096 → kL r.2 168 k = 0 ∧ kL r.2 169 k = 0) l.length (s0 := ((0 : Int64), (0 : Int32), g)) (by rw [hl] at ll; omega)
    ⟨rfl, rfl, f1, v2⟩ (fun i x hi hP => by
      obtain ⟨x0, x1, q⟩ := x
      obtain ⟨p0, p1, p2, p3⟩ := hP
      dsimp only at p0 p1 p2 p3
      subst p0
      subst p1
      rw [hl] at ll
      have rq := hr.fp p2
      have q3 : kI q 162 3 = Int32.ofNat l.length := by rw [p2.2.2.1 _ _ (by unfold W89; omega), ws.1, hl]
      have mem := getD_mem hi
      rw [← hl] at mem
      obtain ⟨b1, b2⟩ := lv_mem mem
      have wp : kI q 164 ((lv W 72).getD i 0) = Int32.ofNat (P ((lv W 72).getD i 0)) := by rw [p2.2.2.1 _ _ (by unfold W89; omega), ws.2.2.2.1 _ mem]
      rw [hl] at mem b1 b2 wp
      have wi : kI q 165 i = Int32.ofNat (l.getD i 0) := by rw [p2.2.2.1 _ _ (by unfold W89; omega), ws.2.2.1 i (by rw [hl]; exact hi), hl]
      have wk : (Int32.ofNat (P (l.getD i 0)) &&& Int32.ofNat (s * 65)) = Int32.ofNat (J i) := by rw [n32_and, hJ, hK]
      have k4 := Jl i
      obtain ⟨g0, g1⟩ := gl i (J i)
      obtain ⟨q1, eq1⟩ : ∃ q1, q1 = ksL q 168 (J i) 0 := ⟨_, rfl⟩
      have fq1 : kfp W89 h q1 := by rw [eq1]; exact p2.sL _ (by unfold W89; omega)
      refine ⟨(Int64.ofNat (acS J G0 G1 (i + 1)), Int32.ofNat (i + 1), ksL q1 169 (J i) 0), ?_, rfl, rfl, fq1.sL _ (by unfold W89; omega), fun k hk => ?_⟩
      · unfold f_X10_rightOf_l100
        dsimp only
        rw [if_pos kk162, q3, if_neg (by rw [n32_le (by omega) (by omega)]; omega), rf162_1 rq, if_pos (show 164 < 999999 by omega), rf162_2 rq, if_pos (show 165 < 999999 by omega), if_pos kk165, kn165, if_neg (by rw [n32_cl (by omega)]; exact fun z => z.elim (n32_nn (by omega)) (by omega)), n32_cl (show i < 2147483648 by omega), if_pos kk164, wi, kn164, if_neg (by rw [n32_cl (by omega)]; exact fun z => z.elim (n32_nn (by omega)) (by omega)), n32_cl (show l.getD i 0 < 2147483648 by omega), wp, wk, kl_e, rf162_6 rq, if_pos (show 168 < 999999 by omega), if_pos kk168, kn168, if_neg (by rw [n32_cl (by omega)]; exact fun z => z.elim (n32_nn (by omega)) (by omega)), n32_cl (show J i < 2147483648 by omega), rf162_7 rq, if_pos (show 169 < 999999 by omega), if_pos kk169, kn169, if_neg (fun z => z.elim (n32_nn (by omega)) (by omega)), (p3 _ k4).1, (p3 _ k4).2, x_max64 q (by omega) (by omega), kb_s, n64_add, kl_e, ← eq1, kl_e, rf162_7 (hr.fp fq1), if_pos (show 169 < 999999 by omega), if_pos kk169, kn169, if_neg (fun z => z.elim (n32_nn (by omega)) (by omega)), kl_e, n32_addl, kl_e]
        rfl
      · dsimp only
        rw [kL_sL, kL_sL, if_neg (by omega), eq1, kL_sL, kL_sL, if_neg (show ¬ (169 = 168 ∧ k = J i) by omega)]
        by_cases u : J i = k
        · refine ⟨?_, ?_⟩
          · rw [if_pos ⟨rfl, u.symm⟩, zS, if_pos u]
            rfl
          · rw [if_pos ⟨rfl, u.symm⟩, zS, if_pos u]
            rfl
        · refine ⟨?_, ?_⟩
          · rw [if_neg (fun z => u z.2.symm), zS, if_neg u]
            exact (p3 k hk).1
          · rw [if_neg (fun z => u z.2.symm), zS, if_neg u]
            exact (p3 k hk).2) (fun x hP => by
      obtain ⟨x0, x1, q⟩ := x
      obtain ⟨p0, p1, p2, p3⟩ := hP
      dsimp only at p0 p1 p2 p3
      subst p0
      subst p1
      rw [hl] at ll
      refine ⟨(Int64.ofNat (acS J G0 G1 l.length), q), ?_, p2, ?_, fun k hk => ?_⟩
      · unfold f_X10_rightOf_l100
        dsimp only
        rw [if_pos kk162, p2.2.2.1 _ _ (by unfold W89; omega), ws.1, hl, if_pos (by rw [n32_le (by omega) (by omega)]; omega)]
      · rw [acS_end J G0 G1 _ (fun j _ => Jl j) zz, h0, h1]
        rfl
      · dsimp only
        rw [(p3 k hk).1, (p3 k hk).2, (zz k hk).1, (zz k hk).2]
        exact ⟨rfl, rfl⟩)
  refine ⟨r.2, ?_, f2, z2, fun i hi => ?_⟩
  · unfold f_X10_rightOf
    rw [n32_twice s hs, kl_e, e1, kb_s, e2, kb_s, a2, hK]
  · rw [f2.2.2.2 _ _ (by unfold W89; omega)]
    exact rz.2 i hi
