/-! the BEST SET -/
def bsZ (mr : Nat → Int) (hd : Nat) : Nat → Nat × Int
  | 0 => (0, mr 0)
  | n + 1 => if n &&& hd = 0 ∧ ((bsZ mr hd n).2 < mr n ∨ ((bsZ mr hd n).2 = mr n ∧ pcN n < pcN (bsZ mr hd n).1)) then (n, mr n) else bsZ mr hd n
theorem bsZ_1 (mr : Nat → Int) (hd : Nat) : bsZ mr hd 1 = (0, mr 0) := by
  rw [bsZ, if_neg]
  · rfl
  · rintro ⟨-, h | h⟩
    · exact absurd h (Int.lt_irrefl _)
    · exact absurd h.2 (Nat.lt_irrefl _)
theorem bsZ_b {mr : Nat → Int} (hd : Nat) {lo hi : Int} (b : ∀ n, n < 64 → lo ≤ mr n ∧ mr n ≤ hi) : ∀ n, n ≤ 64 → ((bsZ mr hd n).1 = 0 ∨ (bsZ mr hd n).1 < n) ∧ lo ≤ (bsZ mr hd n).2 ∧ (bsZ mr hd n).2 ≤ hi
  | 0, _ => ⟨Or.inl rfl, b 0 (by omega)⟩
  | n + 1, hn => by
    obtain ⟨i1, i2⟩ := bsZ_b hd b n (by omega)
    rw [bsZ]
    by_cases y : n &&& hd = 0 ∧ ((bsZ mr hd n).2 < mr n ∨ ((bsZ mr hd n).2 = mr n ∧ pcN n < pcN (bsZ mr hd n).1))
    · rw [if_pos y]
      exact ⟨Or.inr (Nat.lt_succ_self n), b n (by omega)⟩
    · rw [if_neg y]
      refine ⟨?_, i2⟩
      rcases i1 with z | z
      · exact Or.inl z
      · exact Or.inr (by omega)
theorem bsZ_cg {mr mr' : Nat → Int} (hd : Nat) : ∀ n, mr 0 = mr' 0 → (∀ s, s < n → mr s = mr' s) → bsZ mr hd n = bsZ mr' hd n
  | 0, z, _ => by rw [bsZ, bsZ, z]
  | n + 1, z, e => by rw [bsZ, bsZ, bsZ_cg hd n z (fun s hs => e s (by omega)), e n (by omega)]
theorem bsZ_free {mr : Nat → Int} {hd a : Nat} : ∀ n, (∀ s, a ≤ s → s < a + n → ¬ s &&& hd = 0) → bsZ mr hd (a + n) = bsZ mr hd a
  | 0, _ => rfl
  | n + 1, e => by
    rw [← Nat.add_assoc, bsZ, if_neg (fun z => e (a + n) (by omega) (by omega) z.1)]
    exact bsZ_free n fun s h1 h2 => e s h1 (by omega)
theorem free_le : ∀ n, n < 7 → ∀ d, d < 2 ^ n → ∀ s, s < 2 ^ n → s &&& d = 0 → s ≤ 2 ^ n - 1 - d := by decide +kernel
theorem W89.tr {h g g' : KH} (a : kfp W89 h g) (b : kfp W89 g g') : kfp W89 h g' := kfp.tr a b
theorem x_bestLoop {h g : KH} {c : Nat} (rc : RC h c) (fg : kfp Wscr h g) {W P : Nat → Nat} (wb : ∀ w, W w ≤ 27960524111619) (ws : Wst g W P 72) (rz : Rzero g) (a0 : aT W 72 ≠ 0) {hd : Nat} (hh : hd < 64) {mr : Nat → Int} (hmr : mr = fun s => mrZ h W (kX P s) s) :
    ∃ g', kloop (f_X10_bestSet_l24 162 c (Int32.ofNat hd)) KF ((0 : Int32), Int64.ofInt (mr 0), (1 : Int32), g) = some (Int32.ofNat (bsZ mr hd (2 ^ kN h 198 4)).1, g') ∧ kfp W89 g g' ∧ Rzero g' := by
  obtain ⟨hr, hc, h5, hm, -⟩ := id rc
  have c39 := hc.lt
  have n4 := hm.2.1.1.2
  have p1 := Nat.pow_le_pow_right (n := 2) (by omega) n4
  have p0 : 0 < 2 ^ kN h 198 4 := Nat.pow_pos (by omega)
  have mb : ∀ s, s < 64 → -5939406 ≤ mr s ∧ mr s ≤ 1000000 := fun s h6 => by
    rw [hmr]
    exact mrZ_b rc W _ (kX_lt P h6) s
  have mu : ∀ s, s < 64 → mr s ≤ 1000000 - ((hmN h s (kN h 198 4) * prN h : Nat) : Int) := fun s h6 => by
    rw [hmr]
    have b := div_le6 (rN_le W _ (kX_lt P h6))
    dsimp only
    unfold mrZ
    generalize hmN h s (kN h 198 4) * prN h = y
    generalize rN W (kX P s) * 1000000 / aT W 72 = x at b ⊢
    omega
  obtain ⟨r, e, q⟩ := kloop_inv (body := f_X10_bestSet_l24 162 c (Int32.ofNat hd)) (fun k s => s.1 = Int32.ofNat (bsZ mr hd (k + 1)).1 ∧ s.2.1 = Int64.ofInt (bsZ mr hd (k + 1)).2 ∧ s.2.2.1 = Int32.ofNat (k + 1) ∧ kfp W89 g s.2.2.2 ∧ Rzero s.2.2.2)
    (fun r => r.1 = Int32.ofNat (bsZ mr hd (2 ^ kN h 198 4)).1 ∧ kfp W89 g r.2 ∧ Rzero r.2) (2 ^ kN h 198 4 - 1) (s0 := ((0 : Int32), Int64.ofInt (mr 0), (1 : Int32), g)) (by omega)
    ⟨by rw [bsZ_1]; rfl, by rw [bsZ_1], rfl, kfp.rf, rz⟩ (fun k x hk hP => by
      obtain ⟨x0, x1, x2, q⟩ := x
      obtain ⟨p0, p1, p2, p3, p4⟩ := hP
      dsimp only at p0 p1 p2 p3 p4
      subst p0
      subst p1
      subst p2
      have F := fg.tr (p3.wide fun l i z => W89.sc z)
      have rcq := rc.sc F
      have q4 : kN q 198 4 = kN h 198 4 := kN_same (F.2.2.1 _ _ (by unfold Wscr; omega))
      have c4 : kI q c 4 = Int32.ofNat (kN h 198 4) := by rw [← q4, rcq.2.2.2.1.2.1.2, rcq.2.2.2.1.2.1.1.1]
      have c7 : kI q c 7 = Int32.ofNat (prN h) := by
        rw [F.2.2.1 _ _ (by unfold Wscr; rcases hc with rfl | rfl <;> omega), hm.2.2.2.2.2, hm.2.2.2.2.1.1]
        rfl
      have p9 : prN h ≤ 9999 := hm.2.2.2.2.1.2
      have hpl := hp_le rc (k + 1)
      have hml := rc.hm (k + 1) (Nat.le_refl _)
      have k6 : k + 1 < 64 := by omega
      obtain ⟨i1, i2, i3⟩ := bsZ_b (mr := mr) hd mb (k + 1) (by omega)
      have m1 := mb (k + 1) k6
      have u1 := mu (k + 1) k6
      obtain ⟨B, hB⟩ : ∃ B, (bsZ mr hd (k + 1)).1 = B := ⟨_, rfl⟩
      obtain ⟨M, hM⟩ : ∃ M, (bsZ mr hd (k + 1)).2 = M := ⟨_, rfl⟩
      have bs : bsZ mr hd (k + 1 + 1) = if (k + 1) &&& hd = 0 ∧ (M < mr (k + 1) ∨ (M = mr (k + 1) ∧ pcN (k + 1) < pcN B)) then (k + 1, mr (k + 1)) else (B, M) := by
        rw [bsZ, hB, hM]
        by_cases y : (k + 1) &&& hd = 0 ∧ (M < mr (k + 1) ∨ (M = mr (k + 1) ∧ pcN (k + 1) < pcN B))
        · rw [if_pos y, if_pos y]
        · rw [if_neg y, if_neg y, ← hB, ← hM]
      rw [hB] at i1
      rw [hM] at i2 i3
      have hpq : hmN q (k + 1) (kN q 198 4) = hmN h (k + 1) (kN h 198 4) := by rw [q4, hmN_cg (h := h) (h' := q) (fun t => kN_same (F.2.2.1 _ _ (by unfold Wscr; omega)))]
      unfold f_X10_bestSet_l24 f_X10_bestSet_b105 f_X10_bestSet_b112
      dsimp only
      rw [hB, hM, if_pos (ct_kk hc), c4, n32_shl _ (by omega), if_neg (by rw [n32_le (by omega) (by omega)]; omega), n32_and]
      by_cases y : (k + 1) &&& hd = 0
      · rw [if_pos (by rw [y]; rfl), x_harmOf rcq (by omega), kb_s, hpq, c7, n32_toI64 (by omega), n32_toI64 (by omega), n64_mul, show (1000000 : Int64) = Int64.ofNat 1000000 from rfl, z64_sub]
        by_cases u : M ≤ 1000000 - ((hmN h (k + 1) (kN h 198 4) * prN h : Nat) : Int)
        · obtain ⟨q1, e1, f1, z1⟩ := x_meritOf rc F wb (ws.same p3 fun l i z => by unfold W89; omega) p4 a0 k6
          have e1' : f_X10_meritOf q 162 c (Int32.ofNat (k + 1)) = some (Int64.ofInt (mr (k + 1)), q1) := by rw [e1, hmr]
          have z0 : 0 ≤ lg_cmp (Int64.ofInt (((1000000 : Nat) : Int) - ((hmN h (k + 1) (kN h 198 4) * prN h : Nat) : Int))) (Int64.ofInt M) := by
            rw [z64_ge (by omega) (by omega)]
            exact u
          rw [if_pos z0, if_pos kk162, e1', kb_s]
          by_cases v : M < mr (k + 1)
          · refine ⟨(Int32.ofNat (k + 1), Int64.ofInt (mr (k + 1)), Int32.ofNat (k + 1 + 1), q1), ?_, ?_⟩
            · rw [if_pos (by rw [z64_gt (by omega) (by omega)]; exact v), kl_e, n32_addl]
            · rw [bs, if_pos ⟨y, Or.inl v⟩]
              exact ⟨rfl, rfl, rfl, p3.tr f1, z1⟩
          · rw [if_neg (by rw [z64_gt (by omega) (by omega)]; exact v)]
            by_cases t : M = mr (k + 1)
            · rw [if_pos (by rw [z64_eq (by omega) (by omega)]; exact t.symm), x_bitCount q1 k6, kb_s, x_bitCount q1 (by omega), kb_s]
              have pk : pcN (k + 1) ≤ 6 := by unfold pcN; omega
              have pB : pcN B ≤ 6 := by unfold pcN; omega
              by_cases w : pcN (k + 1) < pcN B
              · refine ⟨(Int32.ofNat (k + 1), Int64.ofInt (mr (k + 1)), Int32.ofNat (k + 1 + 1), q1), ?_, ?_⟩
                · rw [if_neg (by rw [n32_le (by omega) (by omega)]; omega), kl_e, n32_addl]
                · rw [bs, if_pos ⟨y, Or.inr ⟨t, w⟩⟩]
                  exact ⟨rfl, rfl, rfl, p3.tr f1, z1⟩
              · refine ⟨(Int32.ofNat B, Int64.ofInt M, Int32.ofNat (k + 1 + 1), q1), ?_, ?_⟩
                · rw [if_pos (by rw [n32_le (by omega) (by omega)]; omega), kl_e, n32_addl]
                · rw [bs, if_neg (fun z => z.2.elim v fun z => w z.2)]
                  exact ⟨rfl, rfl, rfl, p3.tr f1, z1⟩
            · refine ⟨(Int32.ofNat B, Int64.ofInt M, Int32.ofNat (k + 1 + 1), q1), ?_, ?_⟩
              · rw [if_neg (by rw [z64_eq (by omega) (by omega)]; exact fun z => t z.symm), kl_e, n32_addl]
              · rw [bs, if_neg (fun z => z.2.elim v fun z => t z.1)]
                exact ⟨rfl, rfl, rfl, p3.tr f1, z1⟩
        · refine ⟨(Int32.ofNat B, Int64.ofInt M, Int32.ofNat (k + 1 + 1), q), ?_, ?_⟩
          · rw [if_neg (by rw [z64_ge (by omega) (by omega)]; exact u), kl_e, n32_addl]
          · rw [bs, if_neg (fun z => by omega)]
            exact ⟨rfl, rfl, rfl, p3, p4⟩
      · refine ⟨(Int32.ofNat B, Int64.ofInt M, Int32.ofNat (k + 1 + 1), q), ?_, ?_⟩
        · rw [if_neg (by rw [n32_ne0 (by have : (k + 1) &&& hd ≤ hd := Nat.and_le_right; omega)]; exact y), kl_e, n32_addl]
        · rw [bs, if_neg (fun z => y z.1)]
          exact ⟨rfl, rfl, rfl, p3, p4⟩) (fun x hP => by
      obtain ⟨x0, x1, x2, q⟩ := x
      obtain ⟨y0, y1, y2, y3, y4⟩ := hP
      dsimp only at y0 y1 y2 y3 y4
      subst y0
      subst y1
      subst y2
      have F := fg.tr (y3.wide fun l i z => W89.sc z)
      have rcq := rc.sc F
      have q4 : kN q 198 4 = kN h 198 4 := kN_same (F.2.2.1 _ _ (by unfold Wscr; omega))
      have c4 : kI q c 4 = Int32.ofNat (kN h 198 4) := by rw [← q4, rcq.2.2.2.1.2.1.2, rcq.2.2.2.1.2.1.1.1]
      have e1 : 2 ^ kN h 198 4 - 1 + 1 = 2 ^ kN h 198 4 := by omega
      refine ⟨(Int32.ofNat (bsZ mr hd (2 ^ kN h 198 4 - 1 + 1)).1, q), ?_, by rw [e1], y3, y4⟩
      unfold f_X10_bestSet_l24
      dsimp only
      rw [if_pos (ct_kk hc), c4, n32_shl _ (by omega), e1, if_pos (by rw [n32_le (by omega) (by omega)]; omega)])
  obtain ⟨r0, r1⟩ := r
  obtain ⟨q1, q2, q3⟩ := q
  dsimp only at q1 q2 q3
  subst q1
  exact ⟨r1, e, q2, q3⟩
def W15 (l _i : Nat) : Prop := l = 215
theorem W15.sc {l i : Nat} (z : W15 l i) : Wscr l i := by
  unfold W15 at z
  unfold Wscr
  omega
theorem m_bestLoop {h g : KH} {c : Nat} (rc : RC h c) (fg : kfp Wscr h g) {W : Nat → Nat} (wb : ∀ w, W w ≤ 27960524111619) (ws : ∀ w, w < 72 → kL g 213 w = Int64.ofNat (W w)) (wa : kL g 173 56 = Int64.ofNat (aT W 72)) (rz : Rzero g) (a0 : aT W 72 ≠ 0) {hd : Nat} (hh : hd < 2 ^ kN h 198 4) {mr : Nat → Int} (hmr : ∀ s, s < 64 → mr s = mrZ h W (mK g s) s) :
    ∃ g', kloop (f_X12_bestSet_l11 173 (Int32.ofNat (2 ^ kN h 198 4 - 1 - hd))) KF ((0 : Int32), Int64.ofInt (mr 0), (1 : Int32), g) = some (Int32.ofNat (bsZ mr hd (2 ^ kN h 198 4)).1, g') ∧ kfp W15 g g' ∧ Rzero g' := by
  obtain ⟨hr, hc, h5, hm, -⟩ := id rc
  have n4 := hm.2.1.1.2
  have p1 := Nat.pow_le_pow_right (n := 2) (by omega) n4
  have p0 : 0 < 2 ^ kN h 198 4 := Nat.pow_pos (by omega)
  have fl := free_le _ (by omega) _ hh
  have mb : ∀ s, s < 64 → -5939406 ≤ mr s ∧ mr s ≤ 1000000 := fun s h6 => by
    rw [hmr s h6]
    exact mrZ_b rc W _ (mK_lt g h6) s
  obtain ⟨f, hf⟩ : ∃ f, f = 2 ^ kN h 198 4 - 1 - hd := ⟨_, rfl⟩
  have be : bsZ mr hd (2 ^ kN h 198 4) = bsZ mr hd (f + 1) := by
    rw [show 2 ^ kN h 198 4 = f + 1 + (2 ^ kN h 198 4 - 1 - f) by omega]
    exact bsZ_free _ fun s h1 h2 h3 => by have := fl s (by omega) h3; omega
  rw [be, ← hf]
  obtain ⟨r, e, q⟩ := kloop_inv (body := f_X12_bestSet_l11 173 (Int32.ofNat f)) (fun k s => s.1 = Int32.ofNat (bsZ mr hd (k + 1)).1 ∧ s.2.1 = Int64.ofInt (bsZ mr hd (k + 1)).2 ∧ s.2.2.1 = Int32.ofNat (k + 1) ∧ kfp W15 g s.2.2.2 ∧ Rzero s.2.2.2)
    (fun r => r.1 = Int32.ofNat (bsZ mr hd (f + 1)).1 ∧ kfp W15 g r.2 ∧ Rzero r.2) f (s0 := ((0 : Int32), Int64.ofInt (mr 0), (1 : Int32), g)) (by omega)
    ⟨by rw [bsZ_1]; rfl, by rw [bsZ_1], rfl, kfp.rf, rz⟩ (fun k x hk hP => by
      obtain ⟨x0, x1, x2, q⟩ := x
      obtain ⟨p0, p1, p2, p3, p4⟩ := hP
      dsimp only at p0 p1 p2 p3 p4
      subst p0
      subst p1
      subst p2
      have F := fg.tr (p3.wide fun l i z => W15.sc z)
      have k6 : k + 1 < 64 := by omega
      obtain ⟨i1, i2, i3⟩ := bsZ_b (mr := mr) hd mb (k + 1) (by omega)
      have m1 := mb (k + 1) k6
      obtain ⟨B, hB⟩ : ∃ B, (bsZ mr hd (k + 1)).1 = B := ⟨_, rfl⟩
      obtain ⟨M, hM⟩ : ∃ M, (bsZ mr hd (k + 1)).2 = M := ⟨_, rfl⟩
      have bs : bsZ mr hd (k + 1 + 1) = if (k + 1) &&& hd = 0 ∧ (M < mr (k + 1) ∨ (M = mr (k + 1) ∧ pcN (k + 1) < pcN B)) then (k + 1, mr (k + 1)) else (B, M) := by
        rw [bsZ, hB, hM]
        by_cases y : (k + 1) &&& hd = 0 ∧ (M < mr (k + 1) ∨ (M = mr (k + 1) ∧ pcN (k + 1) < pcN B))
        · rw [if_pos y, if_pos y]
        · rw [if_neg y, if_neg y, ← hB, ← hM]
      rw [hB] at i1
      rw [hM] at i2 i3
      have fr := n32_free _ (by omega) _ hh (k + 1) (by omega)
      rw [← hf] at fr
      obtain ⟨q1, e1, f1, z1⟩ := m_meritOf rc F wb (fun w hw => by rw [p3.2.2.2 _ _ (by unfold W15; omega)]; exact ws w hw) (by rw [p3.2.2.2 _ _ (by unfold W15; omega)]; exact wa) p4 a0 k6
      have e1' : f_X12_meritOf q 173 (Int32.ofNat (k + 1)) = some (Int64.ofInt (mr (k + 1)), q1) := by rw [e1, hmr _ k6, mK_same (g := g) (g' := q) (fun i => p3.2.2.1 _ _ (by unfold W15; omega))]
      have p3' : kfp W15 g q1 := p3.tr (f1.wide fun l i z => z)
      unfold f_X12_bestSet_l11 f_X12_bestSet_b66 f_X12_bestSet_b72
      dsimp only
      rw [hB, hM, if_neg (by rw [n32_lt (by omega) (by omega)]; omega)]
      by_cases y : (k + 1) &&& hd = 0
      · rw [if_pos (fr.mpr y), if_pos kk173, e1', kb_s]
        by_cases v : M < mr (k + 1)
        · refine ⟨(Int32.ofNat (k + 1), Int64.ofInt (mr (k + 1)), Int32.ofNat (k + 1 + 1), q1), ?_, ?_⟩
          · rw [if_neg (by rw [z64_lt (by omega) (by omega)]; omega), if_neg (by rw [z64_eq (by omega) (by omega)]; omega), kl_e, n32_addl]
          · rw [bs, if_pos ⟨y, Or.inl v⟩]
            exact ⟨rfl, rfl, rfl, p3', z1⟩
        · by_cases t : M = mr (k + 1)
          · rw [if_neg (by rw [z64_lt (by omega) (by omega)]; omega), if_pos (by rw [z64_eq (by omega) (by omega)]; exact t.symm), m_bits q1 k6, kb_s, m_bits q1 (by omega), kb_s]
            have pk : pcN (k + 1) ≤ 6 := by unfold pcN; omega
            have pB : pcN B ≤ 6 := by unfold pcN; omega
            by_cases w : pcN (k + 1) < pcN B
            · refine ⟨(Int32.ofNat (k + 1), Int64.ofInt (mr (k + 1)), Int32.ofNat (k + 1 + 1), q1), ?_, ?_⟩
              · rw [if_pos (by rw [n32_lt (by omega) (by omega)]; omega), kl_e, n32_addl]
              · rw [bs, if_pos ⟨y, Or.inr ⟨t, w⟩⟩]
                exact ⟨rfl, rfl, rfl, p3', z1⟩
            · refine ⟨(Int32.ofNat B, Int64.ofInt M, Int32.ofNat (k + 1 + 1), q1), ?_, ?_⟩
              · rw [if_neg (by rw [n32_lt (by omega) (by omega)]; omega), kl_e, n32_addl]
              · rw [bs, if_neg (fun z => z.2.elim v fun z => w z.2)]
                exact ⟨rfl, rfl, rfl, p3', z1⟩
          · refine ⟨(Int32.ofNat B, Int64.ofInt M, Int32.ofNat (k + 1 + 1), q1), ?_, ?_⟩
            · rw [if_pos (by rw [z64_lt (by omega) (by omega)]; omega), kl_e, n32_addl]
            · rw [bs, if_neg (fun z => z.2.elim v fun z => t z.1)]
              exact ⟨rfl, rfl, rfl, p3', z1⟩
      · refine ⟨(Int32.ofNat B, Int64.ofInt M, Int32.ofNat (k + 1 + 1), q), ?_, ?_⟩
        · rw [if_neg (fun z => y (fr.mp z)), kl_e, n32_addl]
        · rw [bs, if_neg (fun z => y z.1)]
          exact ⟨rfl, rfl, rfl, p3, p4⟩) (fun x hP => by
      obtain ⟨x0, x1, x2, q⟩ := x
      obtain ⟨y0, y1, y2, y3, y4⟩ := hP
      dsimp only at y0 y1 y2 y3 y4
      subst y0
      subst y1
      subst y2
      refine ⟨(Int32.ofNat (bsZ mr hd (f + 1)).1, q), ?_, rfl, y3, y4⟩
      unfold f_X12_bestSet_l11
      dsimp only
      rw [if_pos (by rw [n32_lt (by omega) (by omega)]; omega)])
  obtain ⟨r0, r1⟩ := r
  obtain ⟨q1, q2, q3⟩ := q
  dsimp only at q1 q2 q3
  subst q1
  exact ⟨r1, e, q2, q3⟩
