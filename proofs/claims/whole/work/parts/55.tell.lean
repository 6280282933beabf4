/-! tell -/
theorem kloop_all2 {σ ρ : Type} {body : σ → Option (σ ⊕ ρ)} (st : Nat → σ) (M : Nat) (ok : Nat → Prop) (good bad : ρ) (hM : M < 400000) (h1 : ∀ j, j < M → ok j → body (st j) = some (.inl (st (j + 1)))) (h2 : ∀ j, j < M → ¬ ok j → ∃ x, body (st j) = some (.inl x) ∧ body x = some (.inr bad)) (h3 : body (st M) = some (.inr good)) :
    (kloop body KF (st 0) = some good ∧ ∀ j, j < M → ok j) ∨ (kloop body KF (st 0) = some bad ∧ ¬ ∀ j, j < M → ok j) := by
  by_cases z : ∀ j, j < M → ok j
  · left
    exact ⟨kloop_for st M good (by omega) (fun k hk => h1 k hk (z k hk)) h3, z⟩
  · right
    refine ⟨?_, z⟩
    have hx : ∃ j, j < M ∧ ¬ ok j := by
      refine Classical.byContradiction fun y => z fun j hj => Classical.byContradiction fun w => y ⟨j, hj, w⟩
    obtain ⟨j0, hj0, hn0⟩ := hx
    obtain ⟨r, e, hq⟩ := kloop_KF (body := body) (fun n s => (∃ k, 2 * k + n = 2 * M + 1 ∧ k ≤ M ∧ (∀ i, i < k → ok i) ∧ s = st k) ∨ body s = some (.inr bad)) (fun r => r = bad) (fun n s hP => by
      rcases hP with ⟨k, hk, hkM, ho, rfl⟩ | hb
      · have kj : k ≤ j0 := Nat.le_of_not_lt fun y => hn0 (ho j0 y)
        by_cases y : ok k
        · right
          refine ⟨n - 2, st (k + 1), by omega, h1 k (by omega) y, Or.inl ⟨k + 1, by omega, by omega, fun i hi => ?_, rfl⟩⟩
          by_cases e : i = k
          · rw [e]; exact y
          · exact ho i (by omega)
        · obtain ⟨x, b1, b2⟩ := h2 k (by omega) y
          exact Or.inr ⟨0, x, by omega, b1, Or.inr b2⟩
      · exact Or.inl ⟨bad, hb, rfl⟩) (n := 2 * M + 1) (s := st 0) (by omega) (Or.inl ⟨0, by omega, by omega, fun i hi => absurd hi (Nat.not_lt_zero _), rfl⟩)
    rw [e, hq]
def mxN (h : KH) (i : Nat) : Nat := if i % 4 < 2 then kN h 198 3 else 2
def isAns (h : KH) (t : Nat) : Prop := t ≠ 0 ∧ t % 4 = 0 ∧ t ≤ 64 ∧ ∀ i, i < t → tyN h i < mxN h i
/-- the rows ANSWERED -/
def Rans (h : KH) : Prop := ∃ r, r ≤ 16 ∧ kI h 0 13 = Int32.ofNat r ∧ kI h 173 58 = Int32.ofNat r ∧ ∀ i, i < 4 * r → cn h 216 i 255 ∧ kI h 170 i = kI h 216 i ∧ kN h 216 i < mxN h i
def Wans (l i : Nat) : Prop := (l = 0 ∧ i = 13) ∨ l = 170 ∨ (l = 173 ∧ i = 58) ∨ l = 216
theorem x_isAnswered {h : KH} {c : Nat} (rc : RC h c) (ht : Rtape h) {t : Nat} (h1 : kI h 1 1 = Int32.ofNat t) (t16 : t ≤ 1600) : (isAns h t ∧ f_X11_isAnswered h 0 = some 1) ∨ (¬ isAns h t ∧ f_X11_isAnswered h 0 = some 0) := by
  obtain ⟨hr, hc, h5, hm, -⟩ := id rc
  have c39 := hc.lt
  have n3 := hm.1.1.2
  have e3 : kI h c 3 = Int32.ofNat (kN h 198 3) := hm.1.2.trans hm.1.1.1
  have eA := kloop_all (body := f_X11_isAnswered_l31 h 0 (Int32.ofNat t)) (fun j => Int32.ofNat j) t (fun j => tyN h j < mxN h j) (Sum.inl ()) (Sum.inr 0) (by omega)
    (fun j hj ok => by
      have bl := (ht.ty (i := j) (by omega)).2.1
      have e54 : ∀ w : Nat, tyN h j < w → w < 1000 → f_X11_isAnswered_b54 h 0 (Int32.ofNat t) (Int32.ofNat j) (Int32.ofNat w) = some (.inl (Int32.ofNat (j + 1))) := fun w hw hw2 => by
        unfold f_X11_isAnswered_b54
        rw [if_pos kk0, rf0_0 hr, if_pos (show 1 < 999999 by omega), if_pos kk1, x_byte hr ht (by omega) rfl, kb_s, if_pos (by rw [n32_lt (by omega) (by omega)]; exact hw), kl_e, n32_addl]
      unfold f_X11_isAnswered_l31
      rw [if_neg (by rw [n32_le (by omega) (by omega)]; omega), show (4 : Int32) = Int32.ofNat 4 from rfl, n32_rem (by omega) (by omega)]
      unfold mxN at ok
      by_cases p : j % 4 < 2
      · rw [if_pos p] at ok
        rw [if_neg (by rw [n32_ler (by omega) (by omega)]; omega), if_pos kk0, h5, if_pos (show c < 999999 by omega), if_pos (ct_kk hc), e3, e54 _ ok (by omega)]
      · rw [if_neg p] at ok
        rw [if_pos (by rw [n32_ler (by omega) (by omega)]; omega), show (2 : Int32) = Int32.ofNat 2 from rfl, e54 _ ok (by omega)])
    (fun j hj ok => by
      have bl := (ht.ty (i := j) (by omega)).2.1
      have e54 : ∀ w : Nat, ¬ tyN h j < w → w < 1000 → f_X11_isAnswered_b54 h 0 (Int32.ofNat t) (Int32.ofNat j) (Int32.ofNat w) = some (.inr (Sum.inr 0)) := fun w hw hw2 => by
        unfold f_X11_isAnswered_b54
        rw [if_pos kk0, rf0_0 hr, if_pos (show 1 < 999999 by omega), if_pos kk1, x_byte hr ht (by omega) rfl, kb_s, if_neg (by rw [n32_lt (by omega) (by omega)]; exact hw), kout2_s]
      unfold f_X11_isAnswered_l31
      rw [if_neg (by rw [n32_le (by omega) (by omega)]; omega), show (4 : Int32) = Int32.ofNat 4 from rfl, n32_rem (by omega) (by omega)]
      unfold mxN at ok
      by_cases p : j % 4 < 2
      · rw [if_pos p] at ok
        rw [if_neg (by rw [n32_ler (by omega) (by omega)]; omega), if_pos kk0, h5, if_pos (show c < 999999 by omega), if_pos (ct_kk hc), e3, e54 _ ok (by omega)]
      · rw [if_neg p] at ok
        rw [if_pos (by rw [n32_ler (by omega) (by omega)]; omega), show (2 : Int32) = Int32.ofNat 2 from rfl, e54 _ ok (by omega)]) (by
    unfold f_X11_isAnswered_l31
    rw [if_pos (by rw [n32_le (by omega) (by omega)]; omega)])
  have hx : f_X11_isAnswered h 0 = if t = 0 then some 0 else if t % 4 = 0 then (if t ≤ 64 then kb (kloop (f_X11_isAnswered_l31 h 0 (Int32.ofNat t)) KF (Int32.ofNat 0)) fun e11 => ksum e11 (fun _ => some (1 : Int32)) (fun o15 => some o15) else some 0) else some 0 := by
    unfold f_X11_isAnswered
    rw [if_pos kk0, rf0_0 hr, if_pos (show 1 < 999999 by omega), if_pos kk1, h1, kl_e, rf0_12 hr, if_pos (show 170 < 999999 by omega), if_pos kk170, kn170, ifP (n32_ne0 (show t < 2147483648 by omega)), show (4 : Int32) = Int32.ofNat 4 from rfl, n32_rem (by omega) (by omega), ifP (n32_ne0 (show t % 4 < 2147483648 by omega)), ifP (n32_le (show t < 2147483648 by omega) (show 64 < 2147483648 by omega))]
    rfl
  rw [hx]
  unfold isAns
  by_cases z0 : t = 0
  · rw [if_pos z0]
    exact Or.inr ⟨fun y => y.1 z0, rfl⟩
  · rw [if_neg z0]
    by_cases z1 : t % 4 = 0
    · rw [if_pos z1]
      by_cases z2 : t ≤ 64
      · rw [if_pos z2]
        rcases eA with ⟨a1, a2⟩ | ⟨a1, a2⟩
        · rw [a1, kb_s, ksum_l]
          exact Or.inl ⟨⟨z0, z1, z2, a2⟩, rfl⟩
        · rw [a1, kb_s, ksum_r]
          exact Or.inr ⟨fun y => a2 y.2.2.2, rfl⟩
      · rw [if_neg z2]
        exact Or.inr ⟨fun y => z2 y.2.2.1, rfl⟩
    · rw [if_neg z1]
      exact Or.inr ⟨fun y => z1 y.2.1, rfl⟩
/-- the model's check of rows -/
theorem m_tellLoop {h g : KH} {c : Nat} (rc : RC h c) (ht : Rtape h) (hr : kRefs g) (g174 : ∀ i, kI g 174 i = kI h 174 i) (g198 : ∀ i, kI g 198 i = kI h 198 i) {t : Nat} (t0 : t ≠ 0) (t4 : t % 4 = 0) (t64 : t ≤ 64) :
    (isAns h t ∧ kloop (f_X12_tell_l36 g 173 (Int32.ofNat t)) KF ((1 : Int32), (0 : Int32)) = some 1) ∨ (¬ isAns h t ∧ kloop (f_X12_tell_l36 g 173 (Int32.ofNat t)) KF ((1 : Int32), (0 : Int32)) = some 0) := by
  obtain ⟨-, hc, h5, hm, -⟩ := id rc
  have n3 := hm.1.1.2
  have e3 : kI g 198 3 = Int32.ofNat (kN h 198 3) := by rw [g198]; exact hm.1.1.1
  have gb : ∀ i, i < 1600 → kI g 174 i = Int32.ofNat (tyN h i) ∧ tyN h i < 256 := fun i hi => ⟨by rw [g174]; exact (ht.ty hi).1, (ht.ty hi).2.1⟩
  have ik : ∀ v : Nat, v < 256 → f_X12_isKind g 173 (Int32.ofNat v) = some (if v < kN h 198 3 then 1 else 0) := fun v hv => by
    unfold f_X12_isKind
    rw [if_pos kk173, m_kindMany hr, kb_s, e3, isIn_cnt _ _ (by omega), kb_s]
    by_cases z : v < kN h 198 3
    · rw [if_pos (rgt z (by omega)), if_pos z]
      exact if_pos (Or.inr rfl)
    · rw [if_neg (show ¬ (0 ≤ (Int32.ofNat v).toInt ∧ (Int32.ofNat v).toInt < (kN h 198 3 : Int)) by rw [n32_toInt (by omega)]; omega), if_neg z]
      exact if_pos (Or.inl rfl)
  have endb : ∀ k : Nat, f_X12_tell_l36 g 173 (Int32.ofNat t) ((0 : Int32), Int32.ofNat k) = some (.inr 0) := fun k => by
    unfold f_X12_tell_l36
    dsimp only
    by_cases z : Int32.ofNat t ≤ Int32.ofNat k
    · rw [if_pos z]
    · rw [if_neg z, if_pos rfl]
  have row : ∀ j, j < t / 4 → f_X12_tell_l36 g 173 (Int32.ofNat t) ((1 : Int32), Int32.ofNat (4 * j)) = some (.inl ((if tyN h (4 * j) < kN h 198 3 ∧ tyN h (4 * j + 1) < kN h 198 3 ∧ tyN h (4 * j + 2) < 2 ∧ tyN h (4 * j + 3) < 2 then (1 : Int32) else 0), Int32.ofNat (4 * (j + 1)))) := fun j hj => by
    obtain ⟨a0, b0⟩ := gb (4 * j) (by omega)
    obtain ⟨a1, b1⟩ := gb (4 * j + 1) (by omega)
    obtain ⟨a2, b2⟩ := gb (4 * j + 2) (by omega)
    obtain ⟨a3, b3⟩ := gb (4 * j + 3) (by omega)
    unfold f_X12_tell_l36 f_X12_tell_b101 f_X12_tell_b102
    dsimp only
    simp only [kl_e]
    rw [if_neg (by rw [n32_le (by omega) (by omega)]; omega), if_neg (show ¬ ((1 : Int32) = 0) by decide), if_pos kk173, rf173_0 hr, if_pos (show 174 < 999999 by omega), if_pos kk174, kn174, if_neg (by rw [n32_cl (by omega)]; exact fun z => z.elim (n32_nn (by omega)) (by omega)), n32_cl (by omega), a0, ik _ b0, kb_s, n32_addl, n32_addl, n32_addl, n32_addl]
    by_cases z0 : tyN h (4 * j) < kN h 198 3
    · rw [if_pos z0, if_neg (show ¬ ((1 : Int32) = 0) by decide), if_neg (by rw [n32_cl (by omega)]; exact fun z => z.elim (n32_nn (by omega)) (by omega)), n32_cl (by omega), a1, ik _ b1, kb_s]
      by_cases z1 : tyN h (4 * j + 1) < kN h 198 3
      · rw [if_pos z1, if_neg (show ¬ ((1 : Int32) = 0) by decide), if_neg (by rw [n32_cl (by omega)]; exact fun z => z.elim (n32_nn (by omega)) (by omega)), n32_cl (by omega), a2]
        by_cases z2 : tyN h (4 * j + 2) < 2
        · rw [if_neg (by rw [n32_ler (by omega) (by omega)]; omega), if_neg (by rw [n32_cl (by omega)]; exact fun z => z.elim (n32_nn (by omega)) (by omega)), n32_cl (by omega), a3]
          by_cases z3 : tyN h (4 * j + 3) < 2
          · rw [if_neg (by rw [n32_ler (by omega) (by omega)]; omega), if_pos ⟨z0, z1, z2, z3⟩]
            rfl
          · rw [if_pos (by rw [n32_ler (by omega) (by omega)]; omega), if_neg (fun y => z3 y.2.2.2)]
            rfl
        · rw [if_pos (by rw [n32_ler (by omega) (by omega)]; omega), if_neg (fun y => z2 y.2.2.1)]
          rfl
      · rw [if_neg z1, if_pos rfl, if_neg (fun y => z1 y.2.1)]
        rfl
    · rw [if_neg z0, if_pos rfl, if_neg (fun y => z0 y.1)]
      rfl
  have eA := kloop_all2 (body := f_X12_tell_l36 g 173 (Int32.ofNat t)) (fun j => ((1 : Int32), Int32.ofNat (4 * j))) (t / 4) (fun j => tyN h (4 * j) < kN h 198 3 ∧ tyN h (4 * j + 1) < kN h 198 3 ∧ tyN h (4 * j + 2) < 2 ∧ tyN h (4 * j + 3) < 2) (1 : Int32) 0 (by omega)
    (fun j hj ok => by rw [row j hj, if_pos ok]) (fun j hj ok => ⟨_, by rw [row j hj, if_neg ok], endb _⟩) (by
      unfold f_X12_tell_l36
      dsimp only
      rw [if_pos (by rw [n32_le (by omega) (by omega)]; omega)])
  unfold isAns
  rcases eA with ⟨a1, a2⟩ | ⟨a1, a2⟩
  · refine Or.inl ⟨⟨t0, t4, t64, fun i hi => ?_⟩, a1⟩
    obtain ⟨q0, q1, q2, q3⟩ := a2 (i / 4) (by omega)
    unfold mxN
    have e : i % 4 = 0 ∨ i % 4 = 1 ∨ i % 4 = 2 ∨ i % 4 = 3 := by omega
    rcases e with e | e | e | e
    · rw [if_pos (by omega)]
      rw [show 4 * (i / 4) = i by omega] at q0
      exact q0
    · rw [if_pos (by omega)]
      rw [show 4 * (i / 4) + 1 = i by omega] at q1
      exact q1
    · rw [if_neg (by omega)]
      rw [show 4 * (i / 4) + 2 = i by omega] at q2
      exact q2
    · rw [if_neg (by omega)]
      rw [show 4 * (i / 4) + 3 = i by omega] at q3
      exact q3
  · refine Or.inr ⟨fun y => a2 fun j hj => ?_, a1⟩
    have q0 := y.2.2.2 (4 * j) (by omega)
    have q1 := y.2.2.2 (4 * j + 1) (by omega)
    have q2 := y.2.2.2 (4 * j + 2) (by omega)
    have q3 := y.2.2.2 (4 * j + 3) (by omega)
    unfold mxN at q0 q1 q2 q3
    rw [if_pos (by omega)] at q0
    rw [if_pos (by omega)] at q1
    rw [if_neg (by omega)] at q2
    rw [if_neg (by omega)] at q3
    exact ⟨q0, q1, q2, q3⟩
theorem c_tell {h : KH} {c : Nat} (rc : RC h c) (ht : Rtape h) (hf : Rref h) (ha : Rans h) : ∃ r h1 h2, f_X11_tell h 0 = some (r, h1) ∧ f_X12_tell h1 173 = some (r, h2) ∧ Rtape h2 ∧ Rref h2 ∧ Rans h2 ∧ kfp (fun l i => Wtl l i ∨ Wref l i ∨ Wans l i) h h2 := by
  obtain ⟨hr, hc, h5, hm, -⟩ := id rc
  obtain ⟨⟨t, t16, t1, t2⟩, tb⟩ := id ht
  obtain ⟨g0, eg0⟩ : ∃ g, g = ksI h 1 1 0 := ⟨_, rfl⟩
  have f0 : kfp (fun l i => l = 1 ∧ i = 1) h g0 := by rw [eg0]; exact kfp.rf.sI _ ⟨rfl, rfl⟩
  have r0 := hr.fp f0
  have mm : ∀ {W : Nat → Nat → Prop} {g : KH}, kfp W h g → (∀ i, ¬ W 198 i) → mxN g = mxN h := fun fg hw => by
    funext i
    unfold mxN
    rw [kN_same (fg.2.2.1 198 3 (hw 3))]
  have xh : ∀ v, f_X11_isAnswered h 0 = some v → f_X11_tell h 0 = if v = 0 then (kb (f_X11_refuse g0 0 (1 : Int32)) fun r16 => some (r16.1, r16.2)) else (kb (kloop (f_X11_tell_l33 0 (Int32.ofNat t)) KF ((0 : Int32), g0)) fun e13 => f_X11_tell_b67 e13 0 (Int32.ofNat t)) := fun v hv => by
    unfold f_X11_tell
    rw [if_pos kk0, hv, kb_s, rf0_0 hr, if_pos (show 1 < 999999 by omega), if_pos kk1, t1, kl_e, ← eg0, kl_e]
  have mh : ∀ g, kRefs g → kI g 173 1 = Int32.ofNat t → f_X12_tell g 173 = if t = 0 then f_X12_tell_b32 (ksI g 173 1 0) 173 (Int32.ofNat t) else if t % 4 = 0 then (if 64 < t then f_X12_tell_b32 (ksI g 173 1 0) 173 (Int32.ofNat t) else f_X12_tell_b33 (ksI g 173 1 0) 173 (Int32.ofNat t) 1) else f_X12_tell_b32 (ksI g 173 1 0) 173 (Int32.ofNat t) := fun g rg e => by
    have p1 : (Int32.ofNat t ≤ 0) ↔ t = 0 := by
      rw [show (0 : Int32) = Int32.ofNat 0 from rfl, n32_le (by omega) (by omega)]
      omega
    have p2 : (16 : Int32) < Int32.ofNat (t / 4) ↔ 64 < t ∧ 16 < t / 4 := by
      rw [n32_ltr (by omega) (by omega)]
      omega
    have p3 : (16 : Int32) < Int32.ofNat t / (4 : Int32) ↔ 16 < t / 4 := by
      rw [n32_divl (by omega) (by omega), n32_ltr (by omega) (by omega)]
    unfold f_X12_tell
    rw [if_pos kk173, e, kl_e, kl_e, ifP p1]
    by_cases z0 : t = 0
    · rw [if_pos z0, if_pos z0]
    · rw [if_neg z0, if_neg z0, ifP p3, show (4 : Int32) = Int32.ofNat 4 from rfl, n32_rem (by omega) (by omega), ifP (n32_ne0 (show t % 4 < 2147483648 by omega))]
      by_cases z1 : t % 4 = 0
      · rw [if_pos z1, if_pos z1]
        by_cases z2 : 64 < t
        · rw [if_pos z2, if_pos (by omega)]
        · rw [if_neg z2, if_neg (by omega)]
      · rw [if_neg z1, if_neg z1]
  rcases x_isAnswered rc ht t1 t16 with ⟨P, ex⟩ | ⟨P, ex⟩
  · -- the rows are taken
    obtain ⟨P0, P1, P2, P3⟩ := id P
    have X := xh 1 ex
    rw [if_neg (show ¬ ((1 : Int32) = 0) by decide)] at X
    obtain ⟨g1, e1, f1, v1⟩ := kloop_inv (body := f_X11_tell_l33 0 (Int32.ofNat t)) (fun k s => s.1 = Int32.ofNat k ∧ kfp (fun l _ => l = 170) g0 s.2 ∧ ∀ i, i < k → kI s.2 170 i = Int32.ofNat (tyN h i)) (fun r => kfp (fun l _ => l = 170) g0 r ∧ ∀ i, i < t → kI r 170 i = Int32.ofNat (tyN h i)) t (s0 := ((0 : Int32), g0)) (by omega) ⟨rfl, kfp.rf, fun i hi => absurd hi (Nat.not_lt_zero _)⟩ (fun k s hk hP => by
        obtain ⟨s1, q⟩ := s
        obtain ⟨p1, p2, p3⟩ := hP
        dsimp only at p1 p2 p3
        subst p1
        have rg := r0.fp p2
        have b1 : f_X9_byteAt q 1 (Int32.ofNat k) = some (Int32.ofNat (tyN h k)) := x_byte rg ht (by omega) (by rw [p2.2.2.1 _ _ (by omega), f0.2.2.1 _ _ (by omega)])
        refine ⟨(Int32.ofNat (k + 1), ksI q 170 k (Int32.ofNat (tyN h k))), ?_, rfl, p2.sI _ rfl, fun i hi => ?_⟩
        · unfold f_X11_tell_l33
          dsimp only
          rw [if_neg (by rw [n32_le (by omega) (by omega)]; omega), if_pos kk0, rf0_12 rg, if_pos (show 170 < 999999 by omega), if_pos kk170, kn170, if_neg (by rw [n32_le (by omega) (by omega)]; omega), rf0_0 rg, if_pos (show 1 < 999999 by omega), if_pos kk1, b1, kb_s, if_neg (by rw [n32_cl (by omega)]; exact fun z => z.elim (n32_nn (by omega)) (by omega)), n32_cl (by omega), kl_e, kl_e, n32_addl]
        · dsimp only
          rw [kI_sI]
          by_cases z : i = k
          · rw [if_pos ⟨rfl, z⟩, z]
          · rw [if_neg (fun y => z y.2)]
            exact p3 i (by omega)) (fun s hP => by
        obtain ⟨s1, q⟩ := s
        obtain ⟨p1, p2, p3⟩ := hP
        dsimp only at p1 p2 p3
        subst p1
        refine ⟨q, ?_, p2, p3⟩
        unfold f_X11_tell_l33
        dsimp only
        rw [if_pos (by rw [n32_le (by omega) (by omega)]; omega)])
    obtain ⟨g2, eg2⟩ : ∃ g, g = ksI g1 0 13 (Int32.ofNat (t / 4)) := ⟨_, rfl⟩
    have f2 : kfp (fun l i => l = 0 ∧ i = 13) g1 g2 := by rw [eg2]; exact kfp.rf.sI _ ⟨rfl, rfl⟩
    have r2 := (r0.fp f1).fp f2
    have F2 : kfp (fun l i => (l = 1 ∧ i = 1) ∨ l = 170 ∨ (l = 0 ∧ i = 13)) h g2 := ((f0.wide fun l i y => by omega).tr (f1.wide fun l i y => by omega)).tr (f2.wide fun l i y => by omega)
    obtain ⟨g3, eg3⟩ : ∃ g, g = ksI g2 173 1 0 := ⟨_, rfl⟩
    have f3 : kfp (fun l i => l = 173 ∧ i = 1) g2 g3 := by rw [eg3]; exact kfp.rf.sI _ ⟨rfl, rfl⟩
    have r3 := r2.fp f3
    have F3 : kfp (fun l i => (l = 1 ∧ i = 1) ∨ l = 170 ∨ (l = 0 ∧ i = 13) ∨ (l = 173 ∧ i = 1)) h g3 := (F2.wide fun l i y => by omega).tr (f3.wide fun l i y => by omega)
    have g174 : ∀ i, kI g3 174 i = kI h 174 i := fun i => F3.2.2.1 _ _ (by omega)
    have mL : kloop (f_X12_tell_l36 g3 173 (Int32.ofNat t)) KF ((1 : Int32), (0 : Int32)) = some 1 := by
      rcases m_tellLoop rc ht r3 g174 (fun i => F3.2.2.1 _ _ (by omega)) P0 P1 P2 with ⟨-, q⟩ | ⟨q, -⟩
      · exact q
      · exact absurd P q
    obtain ⟨g4, e4, f4, v4⟩ := kloop_inv (body := f_X12_tell_l121 173 (Int32.ofNat t)) (fun k s => s.1 = Int32.ofNat k ∧ kfp (fun l _ => l = 216) g3 s.2 ∧ ∀ i, i < k → kI s.2 216 i = Int32.ofNat (tyN h i)) (fun r => kfp (fun l _ => l = 216) g3 r ∧ ∀ i, i < t → kI r 216 i = Int32.ofNat (tyN h i)) t (s0 := ((0 : Int32), g3)) (by omega) ⟨rfl, kfp.rf, fun i hi => absurd hi (Nat.not_lt_zero _)⟩ (fun k s hk hP => by
        obtain ⟨s1, q⟩ := s
        obtain ⟨p1, p2, p3⟩ := hP
        dsimp only at p1 p2 p3
        subst p1
        have rg := r3.fp p2
        have b1 : kI q 174 k = Int32.ofNat (tyN h k) := by rw [p2.2.2.1 _ _ (by omega), g174]; exact (ht.ty (by omega)).1
        refine ⟨(Int32.ofNat (k + 1), ksI q 216 k (Int32.ofNat (tyN h k))), ?_, rfl, p2.sI _ rfl, fun i hi => ?_⟩
        · unfold f_X12_tell_l121
          dsimp only
          rw [if_neg (by rw [n32_le (by omega) (by omega)]; omega), if_pos kk173, rf173_59 rg, if_pos (show 216 < 999999 by omega), rf173_0 rg, if_pos (show 174 < 999999 by omega), if_pos kk174, kn174, if_neg (by rw [n32_cl (by omega)]; exact fun z => z.elim (n32_nn (by omega)) (by omega)), if_pos kk216, kn216, if_neg (by rw [n32_cl (by omega)]; exact fun z => z.elim (n32_nn (by omega)) (by omega)), n32_cl (by omega), b1, kl_e, kl_e, n32_addl]
        · dsimp only
          rw [kI_sI]
          by_cases z : i = k
          · rw [if_pos ⟨rfl, z⟩, z]
          · rw [if_neg (fun y => z y.2)]
            exact p3 i (by omega)) (fun s hP => by
        obtain ⟨s1, q⟩ := s
        obtain ⟨p1, p2, p3⟩ := hP
        dsimp only at p1 p2 p3
        subst p1
        refine ⟨q, ?_, p2, p3⟩
        unfold f_X12_tell_l121
        dsimp only
        rw [if_pos (by rw [n32_le (by omega) (by omega)]; omega)])
    obtain ⟨g5, eg5⟩ : ∃ g, g = ksI g4 173 58 (Int32.ofNat (t / 4)) := ⟨_, rfl⟩
    have f5 : kfp (fun l i => l = 173 ∧ i = 58) g4 g5 := by rw [eg5]; exact kfp.rf.sI _ ⟨rfl, rfl⟩
    have F5 : kfp (fun l i => (l = 1 ∧ i = 1) ∨ l = 170 ∨ (l = 0 ∧ i = 13) ∨ (l = 173 ∧ (i = 1 ∨ i = 58)) ∨ l = 216) h g5 := ((F3.wide fun l i y => by omega).tr (f4.wide fun l i y => by omega)).tr (f5.wide fun l i y => by omega)
    have v5 : ∀ i, i < t → kI g5 216 i = Int32.ofNat (tyN h i) := fun i hi => by rw [f5.2.2.1 _ _ (by omega), v4 i hi]
    have w5 : ∀ i, i < t → kI g5 170 i = Int32.ofNat (tyN h i) := fun i hi => by rw [f5.2.2.1 _ _ (by omega), f4.2.2.1 _ _ (by omega), f3.2.2.1 _ _ (by omega), f2.2.2.1 _ _ (by omega), v1 i hi]
    have em : mxN g5 = mxN h := mm F5 fun i y => by omega
    refine ⟨Int32.ofNat (t / 4), g2, g5, ?_, ?_, ⟨⟨0, by omega, ?_, ?_⟩, fun i hi => ?_⟩, fun j hj => ?_, ⟨t / 4, by omega, ?_, ?_, fun i hi => ?_⟩, F5.wide fun l i y => by unfold Wtl Wref Wans; omega⟩
    · have e13 : kI (ksI g1 0 13 (Int32.ofNat (t / 4))) 0 13 = Int32.ofNat (t / 4) := by rw [kI_sI, if_pos ⟨rfl, rfl⟩]
      rw [X, e1, kb_s]
      unfold f_X11_tell_b67
      rw [if_pos kk0, n32_divl (by omega) (by omega), kl_e, e13, ← eg2]
    · have e58 : kI (ksI g4 173 58 (Int32.ofNat (t / 4))) 173 58 = Int32.ofNat (t / 4) := by rw [kI_sI, if_pos ⟨rfl, rfl⟩]
      rw [mh g2 r2 ((F2.2.2.1 _ _ (by omega)).trans t2), if_neg P0, if_pos P1, if_neg (by omega), ← eg3]
      unfold f_X12_tell_b33 f_X12_tell_b109
      rw [mL, kb_s, if_neg (show ¬ ((1 : Int32) = 0) by decide), e4, kb_s, if_pos kk173, n32_divl (by omega) (by omega), kl_e, e58, ← eg5]
    · rw [f5.2.2.1 _ _ (by omega), f4.2.2.1 _ _ (by omega), f3.2.2.1 _ _ (by omega), f2.2.2.1 _ _ (by omega), f1.2.2.1 _ _ (by omega), eg0, kI_sI, if_pos ⟨rfl, rfl⟩]
      rfl
    · rw [f5.2.2.1 _ _ (by omega), f4.2.2.1 _ _ (by omega), eg3, kI_sI, if_pos ⟨rfl, rfl⟩]
      rfl
    · rw [F5.2.2.1 _ _ (by omega), F5.2.2.1 _ _ (by omega)]
      exact tb i hi
    · rw [F5.2.2.1 _ _ (by omega), F5.2.2.1 _ _ (by omega)]
      exact hf j hj
    · rw [f5.2.2.1 _ _ (by omega), f4.2.2.1 _ _ (by omega), f3.2.2.1 _ _ (by omega), eg2, kI_sI, if_pos ⟨rfl, rfl⟩]
    · rw [eg5, kI_sI, if_pos ⟨rfl, rfl⟩]
    · have q := v5 i (by omega)
      have bt := (ht.ty (i := i) (by omega)).2.1
      have lt := P3 i (by omega)
      rw [em]
      exact ⟨cn_of q (by omega) (by omega), (w5 i (by omega)).trans q.symm, by rw [kN_of q (by omega)]; exact lt⟩
  · -- they are none
    have X := xh 0 ex
    rw [if_pos rfl] at X
    obtain ⟨g2, eg2⟩ : ∃ g, g = ksI g0 172 1 (kI g0 172 1 + 1) := ⟨_, rfl⟩
    have f2 : kfp (fun l i => l = 172 ∧ i = 1) g0 g2 := by rw [eg2]; exact kfp.rf.sI _ ⟨rfl, rfl⟩
    have r2 := r0.fp f2
    have F2 : kfp (fun l i => (l = 1 ∧ i = 1) ∨ (l = 172 ∧ i = 1)) h g2 := (f0.wide fun l i y => by omega).tr (f2.wide fun l i y => by omega)
    obtain ⟨g3, eg3⟩ : ∃ g, g = ksI g2 173 1 0 := ⟨_, rfl⟩
    have f3 : kfp (fun l i => l = 173 ∧ i = 1) g2 g3 := by rw [eg3]; exact kfp.rf.sI _ ⟨rfl, rfl⟩
    have r3 := r2.fp f3
    have F3 : kfp (fun l i => (l = 1 ∧ i = 1) ∨ (l = 172 ∧ i = 1) ∨ (l = 173 ∧ i = 1)) h g3 := (F2.wide fun l i y => by omega).tr (f3.wide fun l i y => by omega)
    have g174 : ∀ i, kI g3 174 i = kI h 174 i := fun i => F3.2.2.1 _ _ (by omega)
    obtain ⟨g4, eg4⟩ : ∃ g, g = ksI g3 175 1 (kI g3 175 1 + 1) := ⟨_, rfl⟩
    have f4 : kfp (fun l i => l = 175 ∧ i = 1) g3 g4 := by rw [eg4]; exact kfp.rf.sI _ ⟨rfl, rfl⟩
    have F4 : kfp (fun l i => (l = 1 ∧ i = 1) ∨ (l = 172 ∧ i = 1) ∨ (l = 173 ∧ i = 1) ∨ (l = 175 ∧ i = 1)) h g4 := (F3.wide fun l i y => by omega).tr (f4.wide fun l i y => by omega)
    have b109 : f_X12_tell_b109 g3 173 (Int32.ofNat t) 0 = some (-1, g4) := by
      unfold f_X12_tell_b109
      rw [if_pos rfl, if_pos kk173, show (1 : Int32) = Int32.ofNat 1 from rfl, m_refuses r3 (by omega), kb_s, eg4]
      rfl
    have b32 : f_X12_tell_b32 g3 173 (Int32.ofNat t) = some (-1, g4) := by
      unfold f_X12_tell_b32 f_X12_tell_b33
      have e0 : kloop (f_X12_tell_l36 g3 173 (Int32.ofNat t)) KF ((0 : Int32), (0 : Int32)) = some 0 := by
        refine kloop_end (n := 999999) ?_
        unfold f_X12_tell_l36
        dsimp only
        by_cases z : Int32.ofNat t ≤ 0
        · rw [if_pos z]
        · rw [if_neg z, if_pos rfl]
      rw [e0, kb_s, b109]
    have ref : Rref g4 := fun j hj => by
      have q := hf j hj
      have e5 : kI g3 175 1 = kI h 175 1 := F3.2.2.1 _ _ (by omega)
      have e6 : kI g0 172 1 = kI h 172 1 := f0.2.2.1 _ _ (by omega)
      rw [f4.2.2.1 172 j (by omega), f3.2.2.1 172 j (by omega), eg2, eg4, kI_sI, kI_sI, e5, e6]
      by_cases y : j = 1
      · rw [if_pos ⟨rfl, y⟩, if_pos ⟨rfl, y⟩, hf 1 (by omega)]
      · rw [if_neg (fun z => y z.2), if_neg (fun z => y z.2), f0.2.2.1 _ _ (by omega), F3.2.2.1 _ _ (by omega), q]
    obtain ⟨r, ra, rb, rcc, rd⟩ := ha
    have em : mxN g4 = mxN h := mm F4 fun i y => by omega
    refine ⟨-1, g2, g4, ?_, ?_, ⟨⟨0, by omega, ?_, ?_⟩, fun i hi => ?_⟩, ref, ⟨r, ra, ?_, ?_, fun i hi => ?_⟩, F4.wide fun l i y => by unfold Wtl Wref Wans; omega⟩
    · rw [X, show (1 : Int32) = Int32.ofNat 1 from rfl, x_refuse r0 (by omega), kb_s, eg2]
      rfl
    · rw [mh g2 r2 ((F2.2.2.1 _ _ (by omega)).trans t2), ← eg3, b32]
      by_cases z0 : t = 0
      · rw [if_pos z0]
      · rw [if_neg z0]
        by_cases z1 : t % 4 = 0
        · rw [if_pos z1]
          by_cases z2 : 64 < t
          · rw [if_pos z2]
          · rw [if_neg z2]
            unfold f_X12_tell_b33
            rcases m_tellLoop rc ht r3 g174 (fun i => F3.2.2.1 _ _ (by omega)) z0 z1 (by omega) with ⟨q, -⟩ | ⟨-, q⟩
            · exact absurd q P
            · rw [q, kb_s, b109]
        · rw [if_neg z1]
    · rw [f4.2.2.1 _ _ (by omega), f3.2.2.1 _ _ (by omega), f2.2.2.1 _ _ (by omega), eg0, kI_sI, if_pos ⟨rfl, rfl⟩]
      rfl
    · rw [f4.2.2.1 _ _ (by omega), eg3, kI_sI, if_pos ⟨rfl, rfl⟩]
      rfl
    · rw [F4.2.2.1 _ _ (by omega), F4.2.2.1 _ _ (by omega)]
      exact tb i hi
    · rw [F4.2.2.1 _ _ (by omega)]; exact rb
    · rw [F4.2.2.1 _ _ (by omega)]; exact rcc
    · obtain ⟨q1, q2, q3⟩ := rd i hi
      have e : kI g4 216 i = kI h 216 i := F4.2.2.1 _ _ (by omega)
      rw [em]
      exact ⟨q1.same e, by rw [F4.2.2.1 _ _ (by omega), e]; exact q2, by rw [kN_same e]; exact q3⟩
