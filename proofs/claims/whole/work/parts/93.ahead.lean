/-! cases AHEAD: what is to be told, and the class -/
noncomputable def fW (h : KH) : Nat → Nat := wtN h (fun _ => 0) (fun _ => 0) (fun _ => 0)
noncomputable def tma (h : KH) : Nat → Nat → Nat
  | 0 => fun t => moreN (hdN h) (tmM h t) t
  | n + 1 => fun t => moreN (if aT (fW h) 72 = 0 then 0 else bsN h (fW h) (paN h (tma h n)) 0) (tma h n t) t
noncomputable def bsa (h : KH) (n : Nat) : Nat := if aT (fW h) 72 = 0 then 0 else bsN h (fW h) (paN h (tma h n)) 0
theorem tma_s (h : KH) (n t : Nat) : tma h (n + 1) t = moreN (bsa h n) (tma h n t) t := rfl
theorem tma_0 (h : KH) (t : Nat) : tma h 0 t = moreN (hdN h) (tmM h t) t := rfl
theorem tma_le {h : KH} (rs : RS h) : ∀ n t, t < 6 → tma h n t ≤ 99
  | 0, t, ht => by
    rw [tma_0]
    exact moreN_le (rs.t ht).1.2
  | n + 1, t, ht => by
    rw [tma_s]
    exact moreN_le (tma_le rs n t ht)
noncomputable def raN (h : KH) (n : Nat) : Nat := rN (fW h) (kX (paN h (tma h n)) (bsa h n))
noncomputable def seI (h : KH) (n : Nat) : Int32 := if aT (fW h) 72 = 0 then -1 else Int32.ofNat (bsa h n)
noncomputable def riI (h : KH) (n : Nat) : Int32 := if aT (fW h) 72 = 0 then -1 else Int32.ofNat (raN h n * 1000000 / aT (fW h) 72)
def Rcoming (h : KH) : Prop := ∃ m, m ≤ 30 ∧ kI h 155 3 = Int32.ofNat m ∧ (m = 0 ∨ (Sv h 158 (tma h m) (fun _ => 0) (fun _ => 0) ∧ ∀ n, n < m → kI h 156 n = seI h n ∧ kI h 157 n = riI h n))
theorem bsa_lt {h : KH} {c : Nat} (rc : RC h c) (n : Nat) : bsa h n < 2 ^ kN h 198 4 ∧ bsa h n < 64 := by
  have n4 := rc.2.2.2.1.2.1.1.2
  have p0 : 0 < 2 ^ kN h 198 4 := Nat.pow_pos (by omega)
  unfold bsa
  by_cases z : aT (fW h) 72 = 0
  · rw [if_pos z]
    exact ⟨p0, by omega⟩
  · rw [if_neg z]
    exact bsN_lt rc _ _ _
theorem Law.fw {h h' : KH} (e : Law h h') : fW h' = fW h := by
  unfold fW
  rw [e.wt]
theorem Law.bs {h h' : KH} (e : Law h h') : bsN h' = bsN h := by
  funext W P hd
  have em : mrX h' W P = mrX h W P := by
    funext s
    unfold mrX mrZ prN
    rw [e.hm, e.n (l := 198) (i := 4) (by omega) (by omega), e.n (l := 203) (i := 3) (by omega) (by omega)]
  unfold bsN
  rw [em, e.n (l := 198) (i := 4) (by omega) (by omega)]
theorem tma_eq {h h' : KH} (e : Law h h') (e7 : ∀ i, kI h' 207 i = kI h 207 i) : tma h' = tma h := by
  have et : tmM h' = tmM h := by
    funext t
    exact kN_same (e7 _)
  have ea : anN h' = anN h := by
    funext t
    exact kN_same (e7 _)
  have ed : hdN h' = hdN h := by
    unfold hdN
    rw [ea, e.n (l := 198) (i := 4) (by omega) (by omega)]
  funext n
  induction n with
  | zero =>
    funext t
    rw [tma_0, tma_0, ed, et]
  | succ n ih =>
    funext t
    rw [tma_s, tma_s]
    unfold bsa
    rw [e.fw, e.bs, e.pa, ih]
theorem seI_eq {h h' : KH} (e : Law h h') (e7 : ∀ i, kI h' 207 i = kI h 207 i) : seI h' = seI h ∧ riI h' = riI h := by
  have a := tma_eq e e7
  have b : bsa h' = bsa h := by
    funext n
    unfold bsa
    rw [e.fw, e.bs, e.pa, a]
  constructor
  · funext n
    unfold seI
    rw [e.fw, b]
  · funext n
    unfold riI raN
    rw [e.fw, e.pa, a, b]
theorem Sv.move {h h' : KH} {v : Nat} {T A L : Nat → Nat} (s : Sv h v T A L) (e : ∀ l i, v + 1 ≤ l → l ≤ v + 3 → kI h' l i = kI h l i) : Sv h' v T A L := by
  refine ⟨fun t ht => ?_, fun i hi => ?_⟩
  · rw [e _ _ (by omega) (by omega), e _ _ (by omega) (by omega)]
    exact s.1 t ht
  · rw [e _ _ (by omega) (by omega)]
    exact s.2 i hi
theorem Rcoming.zero {h : KH} (z : kI h 155 3 = 0) : Rcoming h := ⟨0, by omega, z, Or.inl rfl⟩
theorem Rcoming.fp {W : Nat → Nat → Prop} {h h' : KH} (r : Rcoming h) (x : kfp W h h') (hd : ∀ l i, (155 ≤ l ∧ l ≤ 161) ∨ (198 ≤ l ∧ l ≤ 207) → ¬ W l i) : Rcoming h' := by
  obtain ⟨m, m30, em, y⟩ := r
  have I : ∀ l i, (155 ≤ l ∧ l ≤ 161) ∨ (198 ≤ l ∧ l ≤ 207) → kI h' l i = kI h l i := fun l i z => x.2.2.1 l i (hd l i z)
  have law : Law h h' := fun l i a b => I l i (by omega)
  have e7 : ∀ i, kI h' 207 i = kI h 207 i := fun i => I _ _ (by omega)
  refine ⟨m, m30, (I _ _ (by omega)).trans em, y.imp id fun z => ⟨?_, fun n hn => ?_⟩⟩
  · rw [tma_eq law e7]
    exact z.1.move fun l i a b => I l i (by omega)
  · rw [(seI_eq law e7).1, (seI_eq law e7).2, I _ _ (by omega), I _ _ (by omega)]
    exact z.2 n hn
theorem Rcoming.sc {h h' : KH} (r : Rcoming h) (x : kfp Wscr h h') : Rcoming h' := r.fp x fun l i z => by unfold Wscr; omega
def Wah (l i : Nat) : Prop := Wscr l i ∨ (l = 155 ∧ i = 3) ∨ (156 ≤ l ∧ l ≤ 161)
def Xa (h g : KH) (c m : Nat) : Prop := kfp Wah h g ∧ Ryt g c ∧ Rzero g ∧ kI g 155 3 = Int32.ofNat m ∧ Sv g 158 (tma h m) (fun _ => 0) (fun _ => 0) ∧ ∀ n, n < m → kI g 156 n = seI h n ∧ kI g 157 n = riI h n
theorem RC.ah {h h' : KH} {c : Nat} (rc : RC h c) (x : kfp Wah h h') : RC h' c := rc.fp x fun l i z y => by
  rcases y with y | y
  · exact Wct.sc rc.2.1 z y
  · have := rc.2.1.lt
    unfold Wct at z
    omega
theorem Rrule.ah {h h' : KH} {c : Nat} (hc : ctc c) (rr : Rrule h c) (x : kfp Wah h h') : Rrule h' c := rr.fp x fun l i z => by
  unfold Wah Wscr
  rcases hc with rfl | rfl <;> omega
theorem more_N {s x t : Nat} (h : x ≤ 99) : min 99 (x + s / 2 ^ t % 2) = moreN s x t := by
  have b2 : s / 2 ^ t % 2 < 2 := Nat.mod_lt _ (by omega)
  unfold moreN
  by_cases y : s / 2 ^ t % 2 = 0
  · rw [if_pos y, y]
    omega
  · rw [if_neg y, show s / 2 ^ t % 2 = 1 by omega]
theorem fW_at {h : KH} {c : Nat} (rc : RC h c) (T : Nat → Nat) : wtN h T (fun _ => 0) (fun _ => 0) = fW h := wtN_fresh rc (fun _ _ => rfl) (fun _ _ => rfl) (fun _ _ => rfl)
/-- one case more is worked out -/
theorem x_ahStep {h g : KH} {c m : Nat} (rc : RC h c) (rs : RS h) (rr : Rrule h c) (x : Xa h g c m) (hm : m < 30) {v : Nat} (hv : v ≤ 30) (lt : m < v) :
    ∃ g', f_X11_lookAhead_l59 0 (Int32.ofNat v) (Int32.ofNat m, g) = some (.inl (Int32.ofNat (m + 1), g')) ∧ Xa h g' c (m + 1) := by
  obtain ⟨x1, x2, x3, x4, x5, x6⟩ := x
  obtain ⟨hr, hc, h5, hmm, -⟩ := id rc
  have c39 := hc.lt
  have rcg := rc.ah x1
  have rg := rcg.1
  have lawg : Law h g := fun l i a b => x1.2.2.1 l i (by unfold Wah Wscr; omega)
  obtain ⟨g1, e1, f1, y1, -, w1⟩ := x_weigh rcg (rr.ah hc x1) x2 (St158 rg) (by omega) x5
  rw [lawg.wt, lawg.pa, fW_at rc] at w1
  have wb : ∀ w, fW h w ≤ 27960524111619 := fun w => wt_le rc _ _ _ w
  have ab := aT_wb wb
  have F1 : kfp Wscr g g1 := f1.wide fun l i z => Wwg.sc hc z
  have rc1 := rcg.sc F1
  have r1 := rc1.1
  have law1 : Law h g1 := fun l i a b => by rw [F1.2.2.1 l i (by unfold Wscr; omega)]; exact lawg l i a b
  have rz1 : Rzero g1 := x3.fp f1 fun l i z w => by unfold Wwg at w; rcases hc with rfl | rfl <;> omega
  obtain ⟨g2, e2, f2, z2⟩ := x_bestSet rc1 kfp.rf wb w1 rz1 (hd := 0) (by omega)
  have e2' : f_X10_bestSet g1 162 c (0 : Int32) = some (seI h m, g2) := by
    rw [law1.bs] at e2
    rw [show (0 : Int32) = Int32.ofNat 0 from rfl, e2]
    unfold seI bsa
    by_cases y : aT (fW h) 72 = 0
    · rw [if_pos y, if_pos y]
    · rw [if_neg y, if_neg y, if_neg y]
  have F2 : kfp Wscr g g2 := F1.tr (f2.wide fun l i z => W89.sc z)
  have r2 := rg.fp F2
  have s5 : kR g 0 5 = c := (x1.2.1 _ _).trans h5
  have s51 : kR g1 0 5 = c := (f1.2.1 _ _).trans s5
  obtain ⟨g3, eg3⟩ : ∃ g3, g3 = ksI g2 156 m (seI h m) := ⟨_, rfl⟩
  have F3 : kfp Wah g g3 := by rw [eg3]; exact (F2.wide fun l i z => Or.inl z).sI _ (by omega)
  have r3 := rg.fp F3
  have f23 : kfp (fun l i => l = 156) g2 g3 := by rw [eg3]; exact kfp.rf.sI _ rfl
  have bl := bsa_lt rc m
  have tl := tma_le rs m
  -- the end of a turn
  have fin : ∀ q, kfp Wah g q → Ryt q c → Rzero q → kI q 156 m = seI h m → kI q 157 m = riI h m → (∀ n, n < m → kI q 156 n = kI g 156 n ∧ kI q 157 n = kI g 157 n) → (∀ l i, 158 ≤ l → l ≤ 161 → kI q l i = kI g l i) → ∀ s, s < 64 → s = bsa h m →
      ∃ g', f_X11_lookAhead_b161 q 0 (Int32.ofNat v) (Int32.ofNat m) 158 (Int32.ofNat s) = some (.inl (Int32.ofNat (m + 1), g')) ∧ Xa h g' c (m + 1) := fun q Fq Yq Zq a b d e s hs es => by
    have rq := rg.fp Fq
    have svq : Sv q 158 (tma h m) (fun _ => 0) (fun _ => 0) := x5.move fun l i a b => e l i (by omega) (by omega)
    obtain ⟨q1, u1, u2, u3⟩ := x_moreT (St158 rq) hs (T := tma h m) fun t ht => (svq.1 t ht).1
    have rq1 := rq.fp u2
    obtain ⟨q2, eq2⟩ : ∃ q2, q2 = ksI q1 155 3 (Int32.ofNat (m + 1)) := ⟨_, rfl⟩
    have fq2 : kfp (fun l i => l = 159 ∨ (l = 155 ∧ i = 3)) q q2 := by
      rw [eq2]
      exact (u2.wide fun l i z => Or.inl z).sI _ (Or.inr ⟨rfl, rfl⟩)
    refine ⟨q2, ?_, ?_, ?_, ?_, ?_, ?_, fun n hn => ?_⟩
    · unfold f_X11_lookAhead_b161
      rw [if_pos kk158, u1, kb_s, if_pos kk0, rf0_10 rq1, if_pos (show 155 < 999999 by omega), if_pos kk155, n32_addl, ← eq2, kl_e, kl_e]
    · exact (x1.tr Fq).tr (fq2.wide fun l i z => by unfold Wah; omega)
    · exact Yq.fp fq2 fun l i z w => by unfold Wlw at z; rcases hc with rfl | rfl <;> omega
    · exact Zq.fp fq2 fun l i z w => by omega
    · rw [eq2, kI_sI, if_pos ⟨rfl, rfl⟩]
    · refine ⟨fun t ht => ⟨⟨?_, tma_le rs (m + 1) t ht⟩, ?_, Nat.zero_le _⟩, fun i hi => ⟨?_, Nat.zero_le _⟩⟩
      · rw [eq2, kI_sI, if_neg (by omega), u3 t ht, more_N (tl t ht), tma_s, es]
      · rw [fq2.2.2.1 _ _ (by omega)]
        exact (svq.1 t ht).2.1
      · rw [fq2.2.2.1 _ _ (by omega)]
        exact (svq.2 i hi).1
    · rw [fq2.2.2.1 _ _ (by omega), fq2.2.2.1 _ _ (by omega)]
      by_cases y : n = m
      · rw [y]
        exact ⟨a, b⟩
      · rw [(d n (by omega)).1, (d n (by omega)).2]
        exact x6 n (by omega)
  unfold f_X11_lookAhead_l59
  dsimp only
  rw [if_neg (by rw [n32_le (by omega) (by omega)]; omega), if_neg (by rw [n32_ler (by omega) (by omega)]; omega), if_pos kk0, rf0_11 rg, if_pos (show 162 < 999999 by omega), s5, if_pos (show c < 999999 by omega), rf0_10 rg, if_pos (show 155 < 999999 by omega), if_pos kk155, rf155_2 rg, if_pos (show 158 < 999999 by omega), if_pos kk162, e1, kb_s, rf0_11 r1, if_pos (show 162 < 999999 by omega), s51, if_pos (show c < 999999 by omega), if_pos kk162, e2', kb_s]
  dsimp only
  rw [rf0_10 r2, if_pos (show 155 < 999999 by omega), if_pos kk155, rf155_0 r2, if_pos (show 156 < 999999 by omega), if_pos kk156, kn156, if_neg (by rw [n32_cl (by omega)]; exact fun z => z.elim (n32_nn (by omega)) (by omega)), n32_cl (show m < 2147483648 by omega), ← eg3, kl_e, rf0_10 r3, if_pos (show 155 < 999999 by omega), if_pos kk155, rf155_1 r3, if_pos (show 157 < 999999 by omega)]
  have y2 : Ryt g2 c := y1.fp f2 fun l i z w => by unfold Wlw at z; unfold W89 at w; rcases hc with rfl | rfl <;> omega
  have y3 : Ryt g3 c := y2.fp f23 fun l i z w => by unfold Wlw at z; rcases hc with rfl | rfl <;> omega
  have z3 : Rzero g3 := z2.fp f23 fun l i z w => by omega
  have I2 : ∀ l i, 155 ≤ l → l ≤ 161 → kI g2 l i = kI g l i := fun l i a b => F2.2.2.1 l i (by unfold Wscr; omega)
  have se : seI h m = -1 ↔ aT (fW h) 72 = 0 := by
    unfold seI
    by_cases y : aT (fW h) 72 = 0
    · rw [if_pos y]
      exact ⟨fun _ => y, fun _ => rfl⟩
    · rw [if_neg y, n32_eqm (by omega)]
      exact ⟨fun z => z.elim, fun z => y z⟩
  by_cases y : aT (fW h) 72 = 0
  · rw [if_pos (se.mpr y)]
    obtain ⟨g4, eg4⟩ : ∃ g4, g4 = ksI g3 157 m (-1 : Int32) := ⟨_, rfl⟩
    have f34 : kfp (fun l i => l = 157) g3 g4 := by rw [eg4]; exact kfp.rf.sI _ rfl
    have F4 : kfp Wah g g4 := F3.tr (f34.wide fun l i z => by unfold Wah; omega)
    have r4 := rg.fp F4
    obtain ⟨g', k1, k2⟩ := fin g4 F4 (y3.fp f34 fun l i z w => by unfold Wlw at z; rcases hc with rfl | rfl <;> omega) (z3.fp f34 fun l i z w => by omega)
      (by rw [f34.2.2.1 _ _ (by omega), eg3, kI_sI, if_pos ⟨rfl, rfl⟩]) (by rw [eg4, kI_sI, if_pos ⟨rfl, rfl⟩]; unfold riI; rw [if_pos y])
      (fun n hn => by rw [f34.2.2.1 _ _ (by omega), eg3, kI_sI, if_neg (by omega), eg4, kI_sI, if_neg (by omega), eg3, kI_sI, if_neg (by omega)]; exact ⟨I2 _ _ (by omega) (by omega), I2 _ _ (by omega) (by omega)⟩)
      (fun l i a b => by rw [f34.2.2.1 _ _ (by omega), f23.2.2.1 _ _ (by omega)]; exact I2 _ _ (by omega) (by omega)) 0 (by omega) (by unfold bsa; rw [if_pos y])
    refine ⟨g', ?_, k2⟩
    unfold f_X11_lookAhead_b143
    rw [if_pos kk157, kn157, if_neg (by rw [n32_cl (by omega)]; exact fun z => z.elim (n32_nn (by omega)) (by omega)), n32_cl (show m < 2147483648 by omega), ← eg4, kl_e, if_pos kk0, rf0_10 r4, if_pos (show 155 < 999999 by omega), if_pos kk155, rf155_2 r4, if_pos (show 158 < 999999 by omega), if_pos (se.mpr y)]
    exact k1
  · have w3 : Wst g3 (fW h) (paN h (tma h m)) 72 := (w1.same f2 fun l i z => by unfold W89; omega).same f23 fun l i z => by omega
    obtain ⟨g4, e4, f4, z4⟩ := x_rightOf r3 wb w3 z3 (s := bsa h m) bl.2
    have e4' : f_X10_rightOf g3 162 (Int32.ofNat (bsa h m)) = some (Int64.ofNat (raN h m), g4) := e4
    have sm : seI h m = Int32.ofNat (bsa h m) := by unfold seI; rw [if_neg y]
    have r4 := r3.fp f4
    have rl : raN h m ≤ aT (fW h) 72 := rN_le _ _ (kX_lt _ bl.2)
    have e5 := x_shareW r4 wb (w3.same f4 fun l i z => by unfold W89; omega) rl
    rw [if_neg y] at e5
    rw [if_neg (fun z => y (se.mp z)), rf0_11 r3, if_pos (show 162 < 999999 by omega), if_pos kk162, sm, e4', kb_s]
    dsimp only
    rw [e5, kb_s]
    obtain ⟨g5, eg5⟩ : ∃ g5, g5 = ksI g4 157 m (Int32.ofNat (raN h m * 1000000 / aT (fW h) 72)) := ⟨_, rfl⟩
    have f45 : kfp (fun l i => l = 157) g4 g5 := by rw [eg5]; exact kfp.rf.sI _ rfl
    have f35 : kfp (fun l i => W89 l i ∨ l = 157) g3 g5 := (f4.wide fun l i z => Or.inl z).tr (f45.wide fun l i z => Or.inr z)
    have F5 : kfp Wah g g5 := F3.tr (f35.wide fun l i z => by unfold W89 at z; unfold Wah Wscr; omega)
    have r5 := rg.fp F5
    obtain ⟨g', k1, k2⟩ := fin g5 F5 (y3.fp f35 fun l i z w => by unfold Wlw at z; unfold W89 at w; rcases hc with rfl | rfl <;> omega) (z4.fp f45 fun l i z w => by omega)
      (by rw [f35.2.2.1 _ _ (by unfold W89; omega), eg3, kI_sI, if_pos ⟨rfl, rfl⟩]) (by rw [eg5, kI_sI, if_pos ⟨rfl, rfl⟩]; unfold riI; rw [if_neg y])
      (fun n hn => by rw [f35.2.2.1 _ _ (by unfold W89; omega), eg3, kI_sI, if_neg (by omega), eg5, kI_sI, if_neg (by omega), f4.2.2.1 _ _ (by unfold W89; omega), eg3, kI_sI, if_neg (by omega)]; exact ⟨I2 _ _ (by omega) (by omega), I2 _ _ (by omega) (by omega)⟩)
      (fun l i a b => by rw [f35.2.2.1 _ _ (by unfold W89; omega), f23.2.2.1 _ _ (by omega)]; exact I2 _ _ (by omega) (by omega)) (bsa h m) bl.2 rfl
    refine ⟨g', ?_, k2⟩
    unfold f_X11_lookAhead_b143
    rw [if_pos kk157, kn157, if_neg (by rw [n32_cl (by omega)]; exact fun z => z.elim (n32_nn (by omega)) (by omega)), n32_cl (show m < 2147483648 by omega), ← eg5, kl_e, if_pos kk0, rf0_10 r5, if_pos (show 155 < 999999 by omega), if_pos kk155, rf155_2 r5, if_pos (show 158 < 999999 by omega), if_neg (by rw [n32_eqm (by omega)]; exact fun z => z)]
    exact k1
