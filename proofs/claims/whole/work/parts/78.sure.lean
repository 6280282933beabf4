/-! SURE -/
theorem x_isSure {g : KH} (rg : kRefs g) {W P : Nat → Nat} (wb : ∀ w, W w ≤ 27960524111619) (ws : Wst g W P 72) (rz : Rzero g) {hd s : Nat} (hs : s < 64) (hh : hd < 64) :
    ∃ g', f_X10_isSure g 162 (Int32.ofNat s) (Int32.ofNat hd) = some (if s &&& hd = 0 ∧ aT W 72 ≠ 0 ∧ rN W (kX P s) = aT W 72 then 1 else 0, g') ∧ kfp W89 g g' ∧ Rzero g' := by
  have ab := aT_wb wb
  have rl := rN_le W (kX P s) (kX_lt P hs)
  unfold f_X10_isSure
  rw [n32_and]
  by_cases y : s &&& hd = 0
  · rw [if_pos (by rw [y]; rfl), if_pos kk162, x_totalW rg ws, kb_s]
    by_cases z : aT W 72 = 0
    · refine ⟨g, ?_, kfp.rf, rz⟩
      rw [if_pos (by rw [z]; decide), if_neg (fun q => q.2.1 z)]
    · obtain ⟨g1, e0, f1, z1⟩ := x_rightOf rg wb ws rz hs
      have e1 : f_X10_rightOf g 162 (Int32.ofNat s) = some (Int64.ofNat (rN W (kX P s)), g1) := e0
      refine ⟨g1, ?_, f1, z1⟩
      rw [if_neg (by rw [show (0 : Int64) = Int64.ofNat 0 from rfl, lgn_le0 (by omega) (by omega)]; omega), e1, kb_s, x_totalW (rg.fp f1) (ws.same f1 fun l i z => by unfold W89; omega), kb_s]
      by_cases u : rN W (kX P s) = aT W 72
      · rw [if_pos (by rw [lgn_eq (by omega) (by omega)]; exact u), if_pos ⟨y, z, u⟩]
      · rw [if_neg (by rw [lgn_eq (by omega) (by omega)]; exact u), if_neg (fun q => u q.2.2)]
  · refine ⟨g, ?_, kfp.rf, rz⟩
    rw [if_neg (by rw [n32_ne0 (by have : s &&& hd ≤ s := Nat.and_le_left; omega)]; exact y), if_neg (fun q => y q.1)]
/-- the SURE set below a number, 64 for none -/
def suN (r : Nat → Prop) [DecidablePred r] (hm : Nat → Nat) (hd : Nat) : Nat → Nat
  | 0 => 64
  | n + 1 => if (n &&& hd = 0 ∧ r n) ∧ (suN r hm hd n = 64 ∨ hm n < hm (suN r hm hd n) ∨ (hm n = hm (suN r hm hd n) ∧ pcN n < pcN (suN r hm hd n))) then n else suN r hm hd n
theorem suN_b (r : Nat → Prop) [DecidablePred r] (hm : Nat → Nat) (hd : Nat) : ∀ n, suN r hm hd n = 64 ∨ suN r hm hd n < n
  | 0 => Or.inl rfl
  | n + 1 => by
    rw [suN]
    by_cases y : (n &&& hd = 0 ∧ r n) ∧ (suN r hm hd n = 64 ∨ hm n < hm (suN r hm hd n) ∨ (hm n = hm (suN r hm hd n) ∧ pcN n < pcN (suN r hm hd n)))
    · rw [if_pos y]
      exact Or.inr (Nat.lt_succ_self n)
    · rw [if_neg y]
      rcases suN_b r hm hd n with z | z
      · exact Or.inl z
      · exact Or.inr (by omega)
theorem suN_cg {r r' : Nat → Prop} [DecidablePred r] [DecidablePred r'] (hm : Nat → Nat) (hd : Nat) : ∀ n, (∀ s, s < n → (r s ↔ r' s)) → suN r hm hd n = suN r' hm hd n
  | 0, _ => rfl
  | n + 1, e => by
    have := e n (by omega)
    rw [suN, suN, suN_cg hm hd n (fun s hs => e s (by omega))]
    by_cases y : r n
    · simp [y, this.mp y]
    · have y' : ¬ r' n := fun z => y (this.mpr z)
      simp [y, y']
theorem suN_free {r : Nat → Prop} [DecidablePred r] {hm : Nat → Nat} {hd a : Nat} : ∀ n, (∀ s, a ≤ s → s < a + n → ¬ s &&& hd = 0) → suN r hm hd (a + n) = suN r hm hd a
  | 0, _ => rfl
  | n + 1, e => by
    rw [← Nat.add_assoc, suN, if_neg (fun z => e (a + n) (by omega) (by omega) z.1.1)]
    exact suN_free n fun s h1 h2 => e s h1 (by omega)
def cI (b : Nat) : Int32 := if b = 64 then -1 else Int32.ofNat b
theorem cI_n {b : Nat} (h : b < 64) : cI b = Int32.ofNat b := if_neg (by omega)
theorem cI_m {b : Nat} (h : b < 65) : cI b = -1 ↔ b = 64 := by
  unfold cI
  by_cases z : b = 64
  · rw [if_pos z]; exact ⟨fun _ => z, fun _ => rfl⟩
  · rw [if_neg z, n32_eqm (by omega)]
    exact ⟨False.elim, z⟩
noncomputable def hmF (h : KH) (s : Nat) : Nat := hmN h s (kN h 198 4)
theorem x_sureLoop {h g : KH} {c : Nat} (rc : RC h c) (fg : kfp Wscr h g) {W P : Nat → Nat} (wb : ∀ w, W w ≤ 27960524111619) (ws : Wst g W P 72) (rz : Rzero g) (a0 : aT W 72 ≠ 0) {hd : Nat} (hh : hd < 64) :
    ∃ g', f_X10_sureSet g 162 c (Int32.ofNat hd) = some (cI (suN (fun s => rN W (kX P s) = aT W 72) (hmF h) hd (2 ^ kN h 198 4)), g') ∧ kfp W89 g g' ∧ Rzero g' := by
  obtain ⟨hr, hc, h5, hm, -⟩ := id rc
  have c39 := hc.lt
  have n4 := hm.2.1.1.2
  have ab := aT_wb wb
  have p1 := Nat.pow_le_pow_right (n := 2) (by omega) n4
  obtain ⟨S, hS⟩ : ∃ S, S = suN (fun s => rN W (kX P s) = aT W 72) (hmF h) hd := ⟨_, rfl⟩
  rw [← hS]
  obtain ⟨r, e, q⟩ := kloop_inv (body := f_X10_sureSet_l8 162 c (Int32.ofNat hd)) (fun k s => s.1 = cI (S k) ∧ s.2.1 = Int32.ofNat (if S k = 64 then 0 else hmF h (S k)) ∧ s.2.2.1 = Int32.ofNat k ∧ kfp W89 g s.2.2.2 ∧ Rzero s.2.2.2)
    (fun r => r.1 = cI (S (2 ^ kN h 198 4)) ∧ kfp W89 g r.2 ∧ Rzero r.2) (2 ^ kN h 198 4) (s0 := ((-1 : Int32), (0 : Int32), (0 : Int32), g)) (by omega)
    ⟨by rw [hS]; rfl, by rw [hS]; rfl, rfl, kfp.rf, rz⟩ (fun k x hk hP => by
      obtain ⟨x0, x1, x2, q⟩ := x
      obtain ⟨p0, p1, p2, p3, p4⟩ := hP
      dsimp only at p0 p1 p2 p3 p4
      subst p0
      subst p1
      subst p2
      have F := fg.tr (p3.wide fun l i z => W89.sc z)
      have rq := hr.fp F
      have c4 : kI q c 4 = Int32.ofNat (kN h 198 4) := by rw [← n4_sc F, (rc.sc F).2.2.2.1.2.1.2, (rc.sc F).2.2.2.1.2.1.1.1]
      have k6 : k < 64 := by omega
      have sb := suN_b (fun s => rN W (kX P s) = aT W 72) (hmF h) hd k
      rw [← hS] at sb
      have wq := ws.same p3 fun l i z => by unfold W89; omega
      obtain ⟨q1, e1, f1, z1⟩ := x_isSure rq wb wq p4 k6 hh
      have F1 := F.tr (f1.wide fun l i z => W89.sc z)
      have rc1 := rc.sc F1
      have hk1 : ∀ s, hmN q1 s (kN q1 198 4) = hmF h s := fun s => by rw [n4_sc F1, hmN_cg (h := h) (h' := q1) (fun t => kN_same (F1.2.2.1 _ _ (by unfold Wscr; omega)))]; rfl
      have hml := rc.hm k (Nat.le_refl _)
      have hmb := rc.hm (S k) (Nat.le_refl _)
      have bs : S (k + 1) = if (k &&& hd = 0 ∧ rN W (kX P k) = aT W 72) ∧ (S k = 64 ∨ hmF h k < hmF h (S k) ∨ (hmF h k = hmF h (S k) ∧ pcN k < pcN (S k))) then k else S k := by rw [hS, suN]
      obtain ⟨B, hB⟩ : ∃ B, S k = B := ⟨_, rfl⟩
      rw [hB] at bs sb hmb
      have hk' : hmF h k ≤ 594 := hml
      have hb' : hmF h B ≤ 594 := hmb
      have pk : pcN k ≤ 6 := by unfold pcN; omega
      have pB : pcN B ≤ 6 := by unfold pcN; omega
      unfold f_X10_sureSet_l8 f_X10_sureSet_b66 f_X10_sureSet_b92 f_X10_sureSet_b99
      dsimp only
      rw [hB, if_pos (ct_kk hc), c4, n32_shl _ (by omega), if_neg (by rw [n32_le (by omega) (by omega)]; omega), if_pos kk162, x_totalW rq wq, kb_s, if_neg (by rw [show (0 : Int64) = Int64.ofNat 0 from rfl, lgn_le0 (by omega) (by omega)]; omega)]
      by_cases y : k &&& hd = 0 ∧ rN W (kX P k) = aT W 72
      · rw [if_pos ⟨y.1, a0, y.2⟩] at e1
        rw [e1, kb_s, if_neg (show ¬ ((1 : Int32) = 0) by decide), x_harmOf rc1 (by omega), kb_s, hk1, x_bitCount q1 k6, kb_s]
        by_cases b : B = 64
        · refine ⟨(Int32.ofNat k, Int32.ofNat (hmF h k), Int32.ofNat (k + 1), q1), ?_, ?_⟩
          · rw [b]
            unfold cI
            rw [if_pos rfl, if_pos rfl, x_bitCount_m, kb_s, if_neg (by rw [n32_le (b := pcN k) (a := 32) (by omega) (by omega)]; omega), if_pos rfl, kl_e, n32_addl]
          · rw [bs, if_pos ⟨y, Or.inl b⟩, if_neg (by omega)]
            exact ⟨(cI_n k6).symm, rfl, rfl, p3.tr f1, z1⟩
        · have B6 : B < 64 := by omega
          rw [cI_n B6, if_neg b, x_bitCount q1 B6, kb_s]
          by_cases l : hmF h k < hmF h B
          · refine ⟨(Int32.ofNat k, Int32.ofNat (hmF h k), Int32.ofNat (k + 1), q1), ?_, ?_⟩
            · by_cases w : pcN B ≤ pcN k
              · rw [if_pos (by rw [n32_le (by omega) (by omega)]; exact w), if_neg (fun z => (n32_eqm (show B < 2147483648 by omega)).mp z), if_pos (by rw [n32_lt (by omega) (by omega)]; exact l), kl_e, n32_addl]
              · rw [if_neg (by rw [n32_le (by omega) (by omega)]; exact w), if_neg (fun z => (n32_eqm (show B < 2147483648 by omega)).mp z), if_pos (by rw [n32_lt (by omega) (by omega)]; exact l), kl_e, n32_addl]
            · rw [bs, if_pos ⟨y, Or.inr (Or.inl l)⟩, if_neg (by omega)]
              exact ⟨(cI_n k6).symm, rfl, rfl, p3.tr f1, z1⟩
          · by_cases t : hmF h k = hmF h B
            · by_cases w : pcN B ≤ pcN k
              · refine ⟨(Int32.ofNat B, Int32.ofNat (hmF h B), Int32.ofNat (k + 1), q1), ?_, ?_⟩
                · rw [if_pos (by rw [n32_le (by omega) (by omega)]; exact w), if_neg (fun z => (n32_eqm (show B < 2147483648 by omega)).mp z), if_neg (by rw [n32_lt (by omega) (by omega)]; exact l), if_pos (by rw [t]), if_pos rfl, kl_e, n32_addl]
                · rw [bs, if_neg (fun z => by omega), if_neg b]
                  exact ⟨(cI_n B6).symm, rfl, rfl, p3.tr f1, z1⟩
              · refine ⟨(Int32.ofNat k, Int32.ofNat (hmF h k), Int32.ofNat (k + 1), q1), ?_, ?_⟩
                · rw [if_neg (by rw [n32_le (by omega) (by omega)]; exact w), if_neg (fun z => (n32_eqm (show B < 2147483648 by omega)).mp z), if_neg (by rw [n32_lt (by omega) (by omega)]; exact l), if_pos (by rw [t]), if_neg (show ¬ ((1 : Int32) = 0) by decide), kl_e, n32_addl]
                · rw [bs, if_pos ⟨y, by omega⟩, if_neg (by omega)]
                  exact ⟨(cI_n k6).symm, rfl, rfl, p3.tr f1, z1⟩
            · refine ⟨(Int32.ofNat B, Int32.ofNat (hmF h B), Int32.ofNat (k + 1), q1), ?_, ?_⟩
              · by_cases w : pcN B ≤ pcN k
                · rw [if_pos (by rw [n32_le (by omega) (by omega)]; exact w), if_neg (fun z => (n32_eqm (show B < 2147483648 by omega)).mp z), if_neg (by rw [n32_lt (by omega) (by omega)]; exact l), if_neg (by rw [n32_eq (by omega) (by omega)]; exact t), kl_e, n32_addl]
                · rw [if_neg (by rw [n32_le (by omega) (by omega)]; exact w), if_neg (fun z => (n32_eqm (show B < 2147483648 by omega)).mp z), if_neg (by rw [n32_lt (by omega) (by omega)]; exact l), if_neg (by rw [n32_eq (by omega) (by omega)]; exact t), kl_e, n32_addl]
              · rw [bs, if_neg (fun z => by omega), if_neg b]
                exact ⟨(cI_n B6).symm, rfl, rfl, p3.tr f1, z1⟩
      · rw [if_neg (fun z => y ⟨z.1, z.2.2⟩)] at e1
        refine ⟨(cI B, Int32.ofNat (if B = 64 then 0 else hmF h B), Int32.ofNat (k + 1), q1), ?_, ?_⟩
        · rw [e1, kb_s, if_pos rfl, kl_e, n32_addl]
        · have bs' : S (k + 1) = B := by rw [bs, if_neg (fun z => y z.1)]
          rw [bs']
          exact ⟨rfl, rfl, rfl, p3.tr f1, z1⟩) (fun x hP => by
      obtain ⟨x0, x1, x2, q⟩ := x
      obtain ⟨y0, y1, y2, y3, y4⟩ := hP
      dsimp only at y0 y1 y2 y3 y4
      subst y0
      subst y1
      subst y2
      have F := fg.tr (y3.wide fun l i z => W89.sc z)
      have c4 : kI q c 4 = Int32.ofNat (kN h 198 4) := by rw [← n4_sc F, (rc.sc F).2.2.2.1.2.1.2, (rc.sc F).2.2.2.1.2.1.1.1]
      refine ⟨(cI (S (2 ^ kN h 198 4)), q), ?_, rfl, y3, y4⟩
      unfold f_X10_sureSet_l8
      dsimp only
      rw [if_pos (ct_kk hc), c4, n32_shl _ (by omega), if_pos (by rw [n32_le (by omega) (by omega)]; omega)])
  obtain ⟨r0, r1⟩ := r
  obtain ⟨q1, q2, q3⟩ := q
  dsimp only at q1 q2 q3
  subst q1
  refine ⟨r1, ?_, q2, q3⟩
  unfold f_X10_sureSet
  rw [e, kb_s]
theorem m_sureLoop {h g : KH} {c : Nat} (rc : RC h c) (fg : kfp Wscr h g) {W : Nat → Nat} (wb : ∀ w, W w ≤ 27960524111619) (ws : ∀ w, w < 72 → kL g 213 w = Int64.ofNat (W w)) (wa : kL g 173 56 = Int64.ofNat (aT W 72)) (rz : Rzero g) {hd : Nat} (hh : hd < 2 ^ kN h 198 4) (v1 : Int32) :
    ∃ g', kloop (f_X12_sure_l38 173 v1 (Int32.ofNat (2 ^ kN h 198 4 - 1 - hd))) KF ((-1 : Int32), (0 : Int32), g) = some (cI (suN (fun s => rN W (mK g s) = aT W 72) (hmF h) hd (2 ^ kN h 198 4)), g') ∧ kfp W15 g g' ∧ Rzero g' := by
  obtain ⟨hr, hc, h5, hm, -⟩ := id rc
  have n4 := hm.2.1.1.2
  have ab := aT_wb wb
  have p1 := Nat.pow_le_pow_right (n := 2) (by omega) n4
  have p0 : 0 < 2 ^ kN h 198 4 := Nat.pow_pos (by omega)
  have fl := free_le _ (by omega) _ hh
  obtain ⟨S, hS⟩ : ∃ S, S = suN (fun s => rN W (mK g s) = aT W 72) (hmF h) hd := ⟨_, rfl⟩
  obtain ⟨f, hf⟩ : ∃ f, f = 2 ^ kN h 198 4 - 1 - hd := ⟨_, rfl⟩
  have be : S (2 ^ kN h 198 4) = S (f + 1) := by
    rw [show 2 ^ kN h 198 4 = f + 1 + (2 ^ kN h 198 4 - 1 - f) by omega, hS]
    exact suN_free _ fun s h1 h2 h3 => by have := fl s (by omega) h3; omega
  rw [← hS, be, ← hf]
  obtain ⟨r, e, q⟩ := kloop_inv (body := f_X12_sure_l38 173 v1 (Int32.ofNat f)) (fun k s => s.1 = cI (S k) ∧ s.2.1 = Int32.ofNat k ∧ kfp W15 g s.2.2 ∧ Rzero s.2.2)
    (fun r => r.1 = cI (S (f + 1)) ∧ kfp W15 g r.2 ∧ Rzero r.2) (f + 1) (s0 := ((-1 : Int32), (0 : Int32), g)) (by omega)
    ⟨by rw [hS]; rfl, rfl, kfp.rf, rz⟩ (fun k x hk hP => by
      obtain ⟨x0, x1, q⟩ := x
      obtain ⟨p0, p2, p3, p4⟩ := hP
      dsimp only at p0 p2 p3 p4
      subst p0
      subst p2
      have F := fg.tr (p3.wide fun l i z => W15.sc z)
      have rq := hr.fp F
      have k6 : k < 64 := by omega
      have sb := suN_b (fun s => rN W (mK g s) = aT W 72) (hmF h) hd k
      rw [← hS] at sb
      have fr := n32_free _ (by omega) _ hh k (by omega)
      rw [← hf] at fr
      obtain ⟨q1, e0, f0, z1⟩ := m_rightBy rq wb (fun w hw => by rw [p3.2.2.2 _ _ (by unfold W15; omega)]; exact ws w hw) p4 k6
      have e1 : f_X12_rightBy q 173 (Int32.ofNat k) = some (Int64.ofNat (rN W (mK g k)), q1) := by rw [e0, mK_same (g := g) (g' := q) fun i => p3.2.2.1 _ _ (by unfold W15; omega)]
      have f1 : kfp W15 q q1 := f0.wide fun l i z => z
      have F1 := F.tr (f1.wide fun l i z => W15.sc z)
      have a1 : kL q1 173 56 = Int64.ofNat (aT W 72) := by rw [f1.2.2.2 _ _ (by unfold W15; omega), p3.2.2.2 _ _ (by unfold W15; omega)]; exact wa
      have rc1 := rc.sc F1
      have rl := rN_le W (mK g k) (mK_lt g k6)
      have hk1 : ∀ s, hmN q1 s (kN q1 198 4) = hmF h s := fun s => by rw [n4_sc F1, hmN_cg (h := h) (h' := q1) (fun t => kN_same (F1.2.2.1 _ _ (by unfold Wscr; omega)))]; rfl
      have hml := rc.hm k (Nat.le_refl _)
      have hmb := rc.hm (S k) (Nat.le_refl _)
      have bs : S (k + 1) = if (k &&& hd = 0 ∧ rN W (mK g k) = aT W 72) ∧ (S k = 64 ∨ hmF h k < hmF h (S k) ∨ (hmF h k = hmF h (S k) ∧ pcN k < pcN (S k))) then k else S k := by rw [hS, suN]
      obtain ⟨B, hB⟩ : ∃ B, S k = B := ⟨_, rfl⟩
      rw [hB] at bs sb hmb
      have hk' : hmF h k ≤ 594 := hml
      have hb' : hmF h B ≤ 594 := hmb
      have pk : pcN k ≤ 6 := by unfold pcN; omega
      have pB : pcN B ≤ 6 := by unfold pcN; omega
      unfold f_X12_sure_l38 f_X12_sure_b118 f_X12_sure_b121
      dsimp only
      rw [hB, if_neg (by rw [n32_lt (by omega) (by omega)]; omega)]
      by_cases y : k &&& hd = 0
      · rw [if_pos (fr.mpr y), if_pos kk173, e1, kb_s, a1]
        by_cases u : rN W (mK g k) = aT W 72
        · rw [if_pos (by rw [lgn_eq (by omega) (by omega)]; exact u)]
          by_cases b : B = 64
          · refine ⟨(Int32.ofNat k, Int32.ofNat (k + 1), q1), ?_, ?_⟩
            · rw [if_pos ((cI_m (by omega)).mpr b), kl_e, n32_addl]
            · have bs' : S (k + 1) = k := by rw [bs, if_pos ⟨⟨y, u⟩, Or.inl b⟩]
              rw [bs', cI_n k6]
              exact ⟨rfl, rfl, p3.tr f1, z1⟩
          · have B6 : B < 64 := by omega
            have Hk : f_X12_harmOf q1 173 (Int32.ofNat k) = some (Int32.ofNat (hmF h k)) := by rw [m_harmOf rc1 (by omega), hk1]
            have HB : f_X12_harmOf q1 173 (Int32.ofNat B) = some (Int32.ofNat (hmF h B)) := by rw [m_harmOf rc1 (by omega), hk1]
            rw [if_neg (fun z => b ((cI_m (by omega)).mp z)), cI_n B6, Hk, kb_s, HB, kb_s]
            by_cases l : hmF h B < hmF h k
            · refine ⟨(Int32.ofNat B, Int32.ofNat (k + 1), q1), ?_, ?_⟩
              · rw [if_pos (by rw [n32_lt (by omega) (by omega)]; exact l), kl_e, n32_addl]
              · have bs' : S (k + 1) = B := by rw [bs, if_neg (fun z => by omega)]
                rw [bs', cI_n B6]
                exact ⟨rfl, rfl, p3.tr f1, z1⟩
            · rw [if_neg (by rw [n32_lt (by omega) (by omega)]; exact l), kb_s, kb_s]
              by_cases t : hmF h k = hmF h B
              · rw [if_pos (by rw [t]), m_bits q1 k6, kb_s, m_bits q1 B6, kb_s]
                by_cases w : pcN k < pcN B
                · refine ⟨(Int32.ofNat k, Int32.ofNat (k + 1), q1), ?_, ?_⟩
                  · rw [if_pos (by rw [n32_lt (by omega) (by omega)]; exact w), kl_e, n32_addl]
                  · have bs' : S (k + 1) = k := by rw [bs, if_pos ⟨⟨y, u⟩, by omega⟩]
                    rw [bs', cI_n k6]
                    exact ⟨rfl, rfl, p3.tr f1, z1⟩
                · refine ⟨(Int32.ofNat B, Int32.ofNat (k + 1), q1), ?_, ?_⟩
                  · rw [if_neg (by rw [n32_lt (by omega) (by omega)]; exact w), kl_e, n32_addl]
                  · have bs' : S (k + 1) = B := by rw [bs, if_neg (fun z => by omega)]
                    rw [bs', cI_n B6]
                    exact ⟨rfl, rfl, p3.tr f1, z1⟩
              · refine ⟨(Int32.ofNat k, Int32.ofNat (k + 1), q1), ?_, ?_⟩
                · rw [if_neg (by rw [n32_eq (by omega) (by omega)]; exact t), kl_e, n32_addl]
                · have bs' : S (k + 1) = k := by rw [bs, if_pos ⟨⟨y, u⟩, by omega⟩]
                  rw [bs', cI_n k6]
                  exact ⟨rfl, rfl, p3.tr f1, z1⟩
        · refine ⟨(cI B, Int32.ofNat (k + 1), q1), ?_, ?_⟩
          · rw [if_neg (by rw [lgn_eq (by omega) (by omega)]; exact u), kl_e, n32_addl]
          · have bs' : S (k + 1) = B := by rw [bs, if_neg (fun z => u z.1.2)]
            rw [bs']
            exact ⟨rfl, rfl, p3.tr f1, z1⟩
      · refine ⟨(cI B, Int32.ofNat (k + 1), q), ?_, ?_⟩
        · rw [if_neg (fun z => y (fr.mp z)), kl_e, n32_addl]
        · have bs' : S (k + 1) = B := by rw [bs, if_neg (fun z => y z.1.1)]
          rw [bs']
          exact ⟨rfl, rfl, p3, p4⟩) (fun x hP => by
      obtain ⟨x0, x1, q⟩ := x
      obtain ⟨y0, y1, y3, y4⟩ := hP
      dsimp only at y0 y1 y3 y4
      subst y0
      subst y1
      refine ⟨(cI (S (f + 1)), q), ?_, rfl, y3, y4⟩
      unfold f_X12_sure_l38
      dsimp only
      rw [if_pos (by rw [n32_lt (by omega) (by omega)]; omega)])
  obtain ⟨r0, r1⟩ := r
  obtain ⟨q1, q2, q3⟩ := q
  dsimp only at q1 q2 q3
  subst q1
  exact ⟨r1, e, q2, q3⟩
