/-! the class's Reader: what stands next -/
def Xr (h g : KH) (n : Nat) : Prop := kRefs g ∧ kI g 1 1 = Int32.ofNat n ∧ (∀ i, kI g 2 i = kI h 2 i) ∧ ∀ j, j < 27 → kI g 9 j = Int32.ofNat (nmC j)
theorem Xr.fp {W : Nat → Nat → Prop} {h g g' : KH} {n : Nat} (x : Xr h g n) (f : kfp W g g') (hd : ∀ l i, (l = 1 ∧ i = 1) ∨ l = 2 ∨ l = 9 → ¬ W l i) : Xr h g' n :=
  ⟨x.1.fp f, (f.2.2.1 _ _ (hd _ _ (by omega))).trans x.2.1, fun i => (f.2.2.1 _ _ (hd _ _ (by omega))).trans (x.2.2.1 i), fun j hj => (f.2.2.1 _ _ (hd _ _ (by omega))).trans (x.2.2.2 j hj)⟩
theorem x_isBlank (h : KH) {x : Nat} (hx : x < 256) : f_X7_isBlank h (Int32.ofNat x) = some (if isBl x = true then 1 else 0) := by
  unfold f_X7_isBlank f_X7_isBlank_b12 isBl
  by_cases a : x = 10
  · rw [if_pos (by rw [a]; rfl), if_pos (decide_eq_true (Or.inl a))]
  · rw [if_neg (by rw [n32_eql (by omega) (by omega)]; exact a)]
    by_cases c : x = 32
    · rw [if_pos (by rw [c]; rfl), if_pos (decide_eq_true (Or.inr c))]
    · rw [if_neg (by rw [n32_eql (by omega) (by omega)]; exact c), if_neg (by rw [decide_eq_true_eq]; omega)]
theorem x_isLetter (h : KH) {x : Nat} (hx : x < 256) : f_X7_isLetter h (Int32.ofNat x) = some (if isLt x = true then 1 else 0) := by
  unfold f_X7_isLetter isLt
  by_cases a : x < 97
  · rw [if_pos (by rw [n32_ltl (by omega) (by omega)]; exact a), if_neg (by rw [decide_eq_true_eq]; omega)]
  · rw [if_neg (by rw [n32_ltl (by omega) (by omega)]; exact a)]
    by_cases c : 122 < x
    · rw [if_pos (by rw [n32_ltr (by omega) (by omega)]; exact c), if_neg (by rw [decide_eq_true_eq]; omega)]
    · rw [if_neg (by rw [n32_ltr (by omega) (by omega)]; exact c), if_pos (decide_eq_true (by omega))]
theorem x_isDigit (h : KH) {x : Nat} (hx : x < 256) : f_X7_isDigit h (Int32.ofNat x) = some (if isDg x = true then 1 else 0) := by
  unfold f_X7_isDigit isDg
  by_cases a : x < 48
  · rw [if_pos (by rw [n32_ltl (by omega) (by omega)]; exact a), if_neg (by rw [decide_eq_true_eq]; omega)]
  · rw [if_neg (by rw [n32_ltl (by omega) (by omega)]; exact a)]
    by_cases c : 57 < x
    · rw [if_pos (by rw [n32_ltr (by omega) (by omega)]; exact c), if_neg (by rw [decide_eq_true_eq]; omega)]
    · rw [if_neg (by rw [n32_ltr (by omega) (by omega)]; exact c), if_pos (decide_eq_true (by omega))]
theorem if10 {p : Prop} [Decidable p] {α : Type} {a c : α} : (if (if p then (1 : Int32) else 0) = 0 then a else c) = if p then c else a := by
  by_cases y : p
  · rw [if_pos y, if_pos y, if_neg (by decide)]
  · rw [if_neg y, if_neg y, if_pos rfl]
def W8 (l i : Nat) : Prop := l = 8 ∧ 2 ≤ i ∧ i ≤ 6
theorem x_blanks {h g : KH} {n p : Nat} (ht : Rtape h) (n16 : n ≤ 1600) (x : Xr h g n) (hp : p ≤ n) (e : kI g 8 2 = Int32.ofNat p) (v1 v2 : Int32) :
    ∃ g', kloop (f_X7_next_l37 8 v1 v2) KF g = some g' ∧ kfp W8 g g' ∧ (∀ i, i ≠ 2 → kI g' 8 i = kI g 8 i) ∧ kI g' 8 2 = Int32.ofNat (blE (tyN h) n p) := by
  obtain ⟨⟨a1, a2⟩, a3, a4⟩ := skN_at (c := fun i => isBl (tyN h i)) (n := n) n p (by omega)
  have a2 := a2 hp
  have base : ∀ q k, kfp (fun l i => l = 8 ∧ i = 2) g q → kI q 8 2 = Int32.ofNat k → k ≤ n → f_X7_next_l37 8 v1 v2 q = if k < n ∧ isBl (tyN h k) = true then some (.inl (ksI q 8 2 (Int32.ofNat (k + 1)))) else some (.inr q) := fun q k f ek hk => by
    have rq := x.1.fp f
    unfold f_X7_next_l37
    rw [if_pos kk8, rf8_0 rq, if_pos (show 1 < 999999 by omega), if_pos kk1, ek, f.2.2.1 _ _ (by omega), x.2.1]
    by_cases y : n ≤ k
    · rw [if_pos (by rw [n32_le (by omega) (by omega)]; exact y), if_neg (fun z => by have := z.1; omega)]
    · have tb := (ht.ty (i := k) (by omega)).2.1
      rw [if_neg (by rw [n32_le (by omega) (by omega)]; exact y), x_byte rq ht (by omega) (by rw [f.2.2.1 _ _ (by omega)]; exact x.2.2.1 k), kb_s, x_isBlank q tb, kb_s, if10]
      by_cases z : isBl (tyN h k) = true
      · rw [if_pos z, if_pos ⟨by omega, z⟩, n32_addl, kl_e]
      · rw [if_neg z, if_neg (fun w => z w.2)]
  obtain ⟨g', e1, f1, i1⟩ := kloop_inv (body := f_X7_next_l37 8 v1 v2) (fun k s => kfp (fun l i => l = 8 ∧ i = 2) g s ∧ kI s 8 2 = Int32.ofNat (p + k)) (fun r => kfp (fun l i => l = 8 ∧ i = 2) g r ∧ kI r 8 2 = Int32.ofNat (blE (tyN h) n p)) (blE (tyN h) n p - p) (s0 := g) (by unfold blE; omega) ⟨kfp.rf, e⟩ (fun k s hk hP => by
      obtain ⟨p1, p2⟩ := hP
      unfold blE at hk
      have c := a3 (p + k) (by omega) (by omega)
      refine ⟨ksI s 8 2 (Int32.ofNat (p + k + 1)), ?_, p1.sI _ ⟨rfl, rfl⟩, by rw [kI_sI, if_pos ⟨rfl, rfl⟩]; rfl⟩
      rw [base s (p + k) p1 p2 (by omega), if_pos c]) (fun s hP => by
      obtain ⟨p1, p2⟩ := hP
      have el : p + (blE (tyN h) n p - p) = blE (tyN h) n p := by unfold blE; omega
      rw [el] at p2
      refine ⟨s, ?_, p1, p2⟩
      have a4' : ¬ (blE (tyN h) n p < n ∧ isBl (tyN h (blE (tyN h) n p)) = true) := a4
      rw [base s _ p1 p2 a2, if_neg a4'])
  exact ⟨g', e1, f1.wide fun l i z => by unfold W8; omega, fun i hi => f1.2.2.1 _ _ (by omega), i1⟩
theorem x_word {h g : KH} {n s : Nat} (ht : Rtape h) (n16 : n ≤ 1600) (x : Xr h g n) (hs : s < n) (l : isLt (tyN h s) = true) (e2 : kI g 8 2 = Int32.ofNat s) (e5 : kI g 8 5 = 0) (e6 : kI g 8 6 = 0) :
    ∃ g', f_X7_readWord g 8 = some g' ∧ kfp W8 g g' ∧ kI g' 8 2 = Int32.ofNat (wdE (tyN h) n s) ∧ kI g' 8 3 = 2 ∧ kI g' 8 4 = kI g 8 4 ∧ kI g' 8 5 = Int32.ofNat (wdE (tyN h) n s - s) ∧ kI g' 8 6 = Int32.ofNat (flN (wvN (tyN h) s (wdE (tyN h) n s - s)) (wdE (tyN h) n s - s)) := by
  obtain ⟨a1, a2, a3, a4⟩ := wdE_at (tyN h) hs l
  obtain ⟨E, hE⟩ : ∃ E, wdE (tyN h) n s = E := ⟨_, rfl⟩
  rw [hE] at a1 a2 a3 a4 ⊢
  obtain ⟨g0, eg0⟩ : ∃ g0, g0 = ksI g 8 3 (2 : Int32) := ⟨_, rfl⟩
  have f0 : kfp (fun l i => l = 8 ∧ i = 3) g g0 := by rw [eg0]; exact kfp.rf.sI _ ⟨rfl, rfl⟩
  have base : ∀ q k, kfp (fun l i => l = 8 ∧ (i = 2 ∨ i = 5 ∨ i = 6)) g0 q → k ≤ n - s → kI q 8 2 = Int32.ofNat (s + k) → kI q 8 5 = Int32.ofNat k → kI q 8 6 = Int32.ofNat (wvN (tyN h) s k) →
      f_X7_readWord_l5 8 q = if s + k < n ∧ isLt (tyN h (s + k)) = true then some (.inl (ksI (ksI (if k < 6 then ksI q 8 6 (Int32.ofNat (wvN (tyN h) s (k + 1))) else q) 8 5 (Int32.ofNat (k + 1))) 8 2 (Int32.ofNat (s + k + 1)))) else some (.inr q) := fun q k f hk c2 c5 c6 => by
    have F : kfp (fun l i => l = 8 ∧ (i = 2 ∨ i = 3 ∨ i = 5 ∨ i = 6)) g q := (f0.wide fun l i z => by omega).tr (f.wide fun l i z => by omega)
    have rq := x.1.fp F
    unfold f_X7_readWord_l5
    rw [if_pos kk8, rf8_0 rq, if_pos (show 1 < 999999 by omega), if_pos kk1, c2, F.2.2.1 _ _ (by omega), x.2.1]
    by_cases y : n ≤ s + k
    · rw [if_pos (by rw [n32_le (by omega) (by omega)]; exact y), if_neg (fun z => by have := z.1; omega)]
    · have tb := (ht.ty (i := s + k) (by omega)).2.1
      have xb := x_byte rq ht (k := s + k) (by omega) (by rw [F.2.2.1 _ _ (by omega)]; exact x.2.2.1 (s + k))
      rw [if_neg (by rw [n32_le (by omega) (by omega)]; exact y), xb, kb_s, x_isLetter q tb, kb_s, if10]
      by_cases z : isLt (tyN h (s + k)) = true
      · have z' := z
        unfold isLt at z'
        rw [decide_eq_true_eq] at z'
        rw [if_pos z, if_pos (show s + k < n ∧ isLt (tyN h (s + k)) = true from ⟨by omega, z⟩), c5]
        have st : ∀ q', kI q' 8 5 = Int32.ofNat k → kI q' 8 2 = Int32.ofNat (s + k) → f_X7_readWord_b71 q' 8 = some (.inl (ksI (ksI q' 8 5 (Int32.ofNat (k + 1))) 8 2 (Int32.ofNat (s + k + 1)))) := fun q' u v => by
          unfold f_X7_readWord_b71
          rw [if_pos kk8, u, n32_addl, kl_e, kI_sI, if_neg (by omega), v, n32_addl, kl_e]
        by_cases w : k < 6
        · rw [if_neg (by rw [n32_ler (by omega) (by omega)]; omega), kb_s, if_pos w]
          unfold f_X7_letterOf
          rw [kb_s, c6, n32_subl (by omega), n32_addl, n32_mull, n32_add, kl_e, st _ (by rw [kI_sI, if_neg (by omega)]; exact c5) (by rw [kI_sI, if_neg (by omega)]; exact c2), wvN, if_pos w, show tyN h (s + k) - 97 + 1 = tyN h (s + k) - 96 by omega]
        · rw [if_pos (by rw [n32_ler (by omega) (by omega)]; omega), if_neg w]
          exact st q c5 c2
      · rw [if_neg z, if_neg (fun w => z w.2)]
  obtain ⟨g1, e1, f1, i2, i5, i6⟩ := kloop_inv (body := f_X7_readWord_l5 8) (fun k q => kfp (fun l i => l = 8 ∧ (i = 2 ∨ i = 5 ∨ i = 6)) g0 q ∧ kI q 8 2 = Int32.ofNat (s + k) ∧ kI q 8 5 = Int32.ofNat k ∧ kI q 8 6 = Int32.ofNat (wvN (tyN h) s k)) (fun q => kfp (fun l i => l = 8 ∧ (i = 2 ∨ i = 5 ∨ i = 6)) g0 q ∧ kI q 8 2 = Int32.ofNat E ∧ kI q 8 5 = Int32.ofNat (E - s) ∧ kI q 8 6 = Int32.ofNat (wvN (tyN h) s (E - s))) (E - s) (s0 := g0) (by omega)
    ⟨kfp.rf, by rw [f0.2.2.1 _ _ (by omega), e2]; rfl, by rw [f0.2.2.1 _ _ (by omega), e5]; rfl, by rw [f0.2.2.1 _ _ (by omega), e6]; rfl⟩ (fun k q hk hP => by
      obtain ⟨p1, p2, p3, p4⟩ := hP
      have c := a3 (s + k) (by omega) (by omega)
      refine ⟨_, by rw [base q k p1 (by omega) p2 p3 p4, if_pos ⟨by omega, c⟩], ?_, ?_, ?_, ?_⟩
      · by_cases w : k < 6
        · rw [if_pos w]
          exact ((p1.sI _ (by omega)).sI _ (by omega)).sI _ (by omega)
        · rw [if_neg w]
          exact (p1.sI _ (by omega)).sI _ (by omega)
      · rw [kI_sI, if_pos ⟨rfl, rfl⟩]
        rfl
      · rw [kI_sI, if_neg (by omega), kI_sI, if_pos ⟨rfl, rfl⟩]
      · rw [kI_sI, if_neg (by omega), kI_sI, if_neg (by omega)]
        by_cases w : k < 6
        · rw [if_pos w, kI_sI, if_pos ⟨rfl, rfl⟩]
        · rw [if_neg w, p4, wvN, if_neg w]) (fun q hP => by
      obtain ⟨p1, p2, p3, p4⟩ := hP
      have el : s + (E - s) = E := by omega
      rw [el] at p2
      refine ⟨q, ?_, p1, p2, p3, p4⟩
      rw [base q (E - s) p1 (by omega) (by rw [el]; exact p2) p3 p4, el, if_neg a4])
  have F1 : kfp W8 g g1 := (f0.wide fun l i z => by unfold W8; omega).tr (f1.wide fun l i z => by unfold W8; omega)
  have fill : ∀ v k, k ≤ 6 → f_X7_filledUp g1 (Int32.ofNat v) (Int32.ofNat k) = some (Int32.ofNat (v * 27 ^ (6 - k))) := fun v k hk => by
    unfold f_X7_filledUp
    have e := kloop_for (body := f_X7_filledUp_l4 g1) (fun j => (Int32.ofNat (v * 27 ^ j), Int32.ofNat (k + j))) (6 - k) (Int32.ofNat (v * 27 ^ (6 - k))) (by omega) (fun j hj => by
      unfold f_X7_filledUp_l4
      dsimp only
      rw [if_neg (by rw [n32_ler (by omega) (by omega)]; omega), n32_mull, kl_e, n32_addl, kl_e, Nat.pow_succ, Nat.mul_assoc]
      rfl) (by
      unfold f_X7_filledUp_l4
      dsimp only
      rw [if_pos (by rw [n32_ler (by omega) (by omega)]; omega)])
    rw [show (Int32.ofNat v, Int32.ofNat k) = (Int32.ofNat (v * 27 ^ 0), Int32.ofNat (k + 0)) by rw [Nat.pow_zero, Nat.mul_one]; rfl, e, kb_s]
  obtain ⟨V, hV⟩ : ∃ V, V = flN (wvN (tyN h) s (E - s)) (E - s) := ⟨_, rfl⟩
  refine ⟨ksI g1 8 6 (Int32.ofNat V), ?_, F1.sI _ (by unfold W8; omega), ?_, ?_, ?_, ?_, ?_⟩
  · unfold f_X7_readWord
    rw [if_pos kk8, ← eg0, kl_e, e1, kb_s]
    unfold f_X7_readWord_b94 f_X7_readWord_b119
    rw [if_pos kk8, i5, i6]
    unfold flN at hV
    by_cases y : E - s ≤ 6
    · rw [if_pos y] at hV
      rw [if_pos (by rw [n32_lel (by omega) (by omega)]; exact y), fill _ _ y, kb_s, if_pos kk8, kl_e, hV]
    · rw [if_neg y] at hV
      rw [if_neg (by rw [n32_lel (by omega) (by omega)]; exact y), if_pos kk8, kl_e, hV]
      rfl
  · rw [kI_sI, if_neg (by omega)]; exact i2
  · rw [kI_sI, if_neg (by omega), f1.2.2.1 _ _ (by omega), eg0, kI_sI, if_pos ⟨rfl, rfl⟩]
  · rw [kI_sI, if_neg (by omega), f1.2.2.1 _ _ (by omega), f0.2.2.1 _ _ (by omega)]
  · rw [kI_sI, if_neg (by omega)]; exact i5
  · rw [kI_sI, if_pos ⟨rfl, rfl⟩, hV]
theorem x_number {h g : KH} {n s : Nat} (ht : Rtape h) (n16 : n ≤ 1600) (x : Xr h g n) (hs : s < n) (l : isDg (tyN h s) = true) (e2 : kI g 8 2 = Int32.ofNat s) (e5 : kI g 8 5 = 0) (e6 : kI g 8 6 = 0) :
    ∃ g', f_X7_readNumber g 8 = some g' ∧ kfp W8 g g' ∧ kI g' 8 2 = Int32.ofNat (dgE (tyN h) n s) ∧ kI g' 8 3 = 3 ∧ kI g' 8 4 = kI g 8 4 ∧ kI g' 8 5 = Int32.ofNat (dgE (tyN h) n s - s) ∧ kI g' 8 6 = Int32.ofNat (nvN (tyN h) s (dgE (tyN h) n s - s)) := by
  obtain ⟨a1, a2, a3, a4⟩ := dgE_at (tyN h) hs l
  obtain ⟨E, hE⟩ : ∃ E, dgE (tyN h) n s = E := ⟨_, rfl⟩
  rw [hE] at a1 a2 a3 a4 ⊢
  obtain ⟨g0, eg0⟩ : ∃ g0, g0 = ksI g 8 3 (3 : Int32) := ⟨_, rfl⟩
  have f0 : kfp (fun l i => l = 8 ∧ i = 3) g g0 := by rw [eg0]; exact kfp.rf.sI _ ⟨rfl, rfl⟩
  have base : ∀ q k, kfp (fun l i => l = 8 ∧ (i = 2 ∨ i = 5 ∨ i = 6)) g0 q → k ≤ n - s → kI q 8 2 = Int32.ofNat (s + k) → kI q 8 5 = Int32.ofNat k → kI q 8 6 = Int32.ofNat (nvN (tyN h) s k) →
      f_X7_readNumber_l5 8 q = if s + k < n ∧ isDg (tyN h (s + k)) = true then some (.inl (ksI (ksI (if k < 4 then ksI q 8 6 (Int32.ofNat (nvN (tyN h) s (k + 1))) else q) 8 5 (Int32.ofNat (k + 1))) 8 2 (Int32.ofNat (s + k + 1)))) else some (.inr q) := fun q k f hk c2 c5 c6 => by
    have F : kfp (fun l i => l = 8 ∧ (i = 2 ∨ i = 3 ∨ i = 5 ∨ i = 6)) g q := (f0.wide fun l i z => by omega).tr (f.wide fun l i z => by omega)
    have rq := x.1.fp F
    unfold f_X7_readNumber_l5
    rw [if_pos kk8, rf8_0 rq, if_pos (show 1 < 999999 by omega), if_pos kk1, c2, F.2.2.1 _ _ (by omega), x.2.1]
    by_cases y : n ≤ s + k
    · rw [if_pos (by rw [n32_le (by omega) (by omega)]; exact y), if_neg (fun z => by have := z.1; omega)]
    · have tb := (ht.ty (i := s + k) (by omega)).2.1
      have xb := x_byte rq ht (k := s + k) (by omega) (by rw [F.2.2.1 _ _ (by omega)]; exact x.2.2.1 (s + k))
      rw [if_neg (by rw [n32_le (by omega) (by omega)]; exact y), xb, kb_s, x_isDigit q tb, kb_s, if10]
      by_cases z : isDg (tyN h (s + k)) = true
      · have z' := z
        unfold isDg at z'
        rw [decide_eq_true_eq] at z'
        rw [if_pos z, if_pos (show s + k < n ∧ isDg (tyN h (s + k)) = true from ⟨by omega, z⟩), c5]
        have st : ∀ q', kI q' 8 5 = Int32.ofNat k → kI q' 8 2 = Int32.ofNat (s + k) → f_X7_readNumber_b70 q' 8 = some (.inl (ksI (ksI q' 8 5 (Int32.ofNat (k + 1))) 8 2 (Int32.ofNat (s + k + 1)))) := fun q' u v => by
          unfold f_X7_readNumber_b70
          rw [if_pos kk8, u, n32_addl, kl_e, kI_sI, if_neg (by omega), v, n32_addl, kl_e]
        by_cases w : k < 4
        · rw [if_neg (by rw [n32_ler (by omega) (by omega)]; omega), kb_s, if_pos w, c6, n32_mull, n32_add, n32_subl (by omega), kl_e, st _ (by rw [kI_sI, if_neg (by omega)]; exact c5) (by rw [kI_sI, if_neg (by omega)]; exact c2), nvN, if_pos w, show nvN (tyN h) s k * 10 + tyN h (s + k) - 48 = nvN (tyN h) s k * 10 + (tyN h (s + k) - 48) by omega]
        · rw [if_pos (by rw [n32_ler (by omega) (by omega)]; omega), if_neg w]
          exact st q c5 c2
      · rw [if_neg z, if_neg (fun w => z w.2)]
  obtain ⟨g1, e1, f1, i2, i5, i6⟩ := kloop_inv (body := f_X7_readNumber_l5 8) (fun k q => kfp (fun l i => l = 8 ∧ (i = 2 ∨ i = 5 ∨ i = 6)) g0 q ∧ kI q 8 2 = Int32.ofNat (s + k) ∧ kI q 8 5 = Int32.ofNat k ∧ kI q 8 6 = Int32.ofNat (nvN (tyN h) s k)) (fun q => kfp (fun l i => l = 8 ∧ (i = 2 ∨ i = 5 ∨ i = 6)) g0 q ∧ kI q 8 2 = Int32.ofNat E ∧ kI q 8 5 = Int32.ofNat (E - s) ∧ kI q 8 6 = Int32.ofNat (nvN (tyN h) s (E - s))) (E - s) (s0 := g0) (by omega)
    ⟨kfp.rf, by rw [f0.2.2.1 _ _ (by omega), e2]; rfl, by rw [f0.2.2.1 _ _ (by omega), e5]; rfl, by rw [f0.2.2.1 _ _ (by omega), e6]; rfl⟩ (fun k q hk hP => by
      obtain ⟨p1, p2, p3, p4⟩ := hP
      have c := a3 (s + k) (by omega) (by omega)
      refine ⟨_, by rw [base q k p1 (by omega) p2 p3 p4, if_pos ⟨by omega, c⟩], ?_, ?_, ?_, ?_⟩
      · by_cases w : k < 4
        · rw [if_pos w]
          exact ((p1.sI _ (by omega)).sI _ (by omega)).sI _ (by omega)
        · rw [if_neg w]
          exact (p1.sI _ (by omega)).sI _ (by omega)
      · rw [kI_sI, if_pos ⟨rfl, rfl⟩]
        rfl
      · rw [kI_sI, if_neg (by omega), kI_sI, if_pos ⟨rfl, rfl⟩]
      · rw [kI_sI, if_neg (by omega), kI_sI, if_neg (by omega)]
        by_cases w : k < 4
        · rw [if_pos w, kI_sI, if_pos ⟨rfl, rfl⟩]
        · rw [if_neg w, p4, nvN, if_neg w]) (fun q hP => by
      obtain ⟨p1, p2, p3, p4⟩ := hP
      have el : s + (E - s) = E := by omega
      rw [el] at p2
      refine ⟨q, ?_, p1, p2, p3, p4⟩
      rw [base q (E - s) p1 (by omega) (by rw [el]; exact p2) p3 p4, el, if_neg a4])
  have F1 : kfp W8 g g1 := (f0.wide fun l i z => by unfold W8; omega).tr (f1.wide fun l i z => by unfold W8; omega)
  refine ⟨g1, ?_, F1, i2, ?_, ?_, i5, i6⟩
  · unfold f_X7_readNumber
    rw [if_pos kk8, ← eg0, kl_e, e1, kb_s]
  · rw [f1.2.2.1 _ _ (by omega), eg0, kI_sI, if_pos ⟨rfl, rfl⟩]
  · rw [f1.2.2.1 _ _ (by omega), f0.2.2.1 _ _ (by omega)]
/-- the reader stands at what comes next -/
def Tk (h g : KH) (n p : Nat) (w : Bool) : Prop := kI g 8 2 = Int32.ofNat (tkE (tyN h) n p) ∧ kI g 8 3 = Int32.ofNat (tkT (tyN h) n p w) ∧ kI g 8 4 = Int32.ofNat (blE (tyN h) n p) ∧ kI g 8 5 = Int32.ofNat (tkZ (tyN h) n p) ∧ kI g 8 6 = Int32.ofNat (tkV (tyN h) n p)
theorem x_read {h g : KH} {n p : Nat} (ht : Rtape h) (n16 : n ≤ 1600) (x : Xr h g n) (hp : p ≤ n) (e : kI g 8 2 = Int32.ofNat p) (w : Bool) :
    ∃ g', f_X7_next_b31 g 8 (if w = true then 1 else 0) = some g' ∧ kfp W8 g g' ∧ Tk h g' n p w := by
  obtain ⟨w1, hw1⟩ : ∃ w1 : Int32, w1 = if w = true then 1 else 0 := ⟨_, rfl⟩
  rw [← hw1]
  obtain ⟨g1, e1, f1, j1, i1⟩ := x_blanks ht n16 x hp e w1 (Int32.ofNat p)
  obtain ⟨a1, a2⟩ := blE_at (tyN h) hp
  obtain ⟨S, hS⟩ : ∃ S, blE (tyN h) n p = S := ⟨_, rfl⟩
  rw [hS] at i1 a1 a2
  have w8 : ∀ l i, W8 l i → l = 8 := fun l i z => z.1
  have x1 := x.fp f1 fun l i z y => by have := w8 l i y; omega
  obtain ⟨g2, eg2⟩ : ∃ g2, g2 = ksI (ksI (ksI g1 8 4 (Int32.ofNat S)) 8 5 0) 8 6 0 := ⟨_, rfl⟩
  have f2 : kfp W8 g1 g2 := by rw [eg2]; exact ((kfp.rf.sI _ (by unfold W8; omega)).sI _ (by unfold W8; omega)).sI _ (by unfold W8; omega)
  have x2 := x1.fp f2 fun l i z y => by have := w8 l i y; omega
  have r2 := x2.1
  have c2 : kI g2 8 2 = Int32.ofNat S := by rw [eg2, kI_sI, if_neg (by omega), kI_sI, if_neg (by omega), kI_sI, if_neg (by omega)]; exact i1
  have c4 : kI g2 8 4 = Int32.ofNat S := by rw [eg2, kI_sI, if_neg (by omega), kI_sI, if_neg (by omega), kI_sI, if_pos ⟨rfl, rfl⟩]
  have c5 : kI g2 8 5 = 0 := by rw [eg2, kI_sI, if_neg (by omega), kI_sI, if_pos ⟨rfl, rfl⟩]
  have c6 : kI g2 8 6 = 0 := by rw [eg2, kI_sI, if_pos ⟨rfl, rfl⟩]
  have F2 := f1.tr f2
  -- the end: glued or not
  have fin : ∀ q (t : Nat), kfp W8 g q → kI q 8 3 = Int32.ofNat t → (t = 1 ∨ t = 2 ∨ t = 3 ∨ t = 4) → kI q 8 4 = Int32.ofNat S → ∃ g', f_X7_next_b199 q 8 w1 (Int32.ofNat p) = some g' ∧ kfp W8 g g' ∧ kI g' 8 3 = Int32.ofNat (if (t = 2 ∨ t = 3) ∧ w = true ∧ S = p then 5 else t) ∧ ∀ i, i ≠ 3 → kI g' 8 i = kI q 8 i := fun q t F e3 ht' e4 => by
    have glue : ∀ w0 : Int32, w0 = 1 → ∃ g', f_X7_next_b220 q 8 w1 (Int32.ofNat p) w0 = some g' ∧ kfp W8 g g' ∧ kI g' 8 3 = Int32.ofNat (if w = true ∧ S = p then 5 else t) ∧ ∀ i, i ≠ 3 → kI g' 8 i = kI q 8 i := fun w0 ew0 => by
      unfold f_X7_next_b220
      rw [ew0, hw1]
      by_cases y : w = true
      · rw [if_pos y, if_neg (by decide), if_neg (by decide), if_pos kk8, e4]
        by_cases z : S = p
        · refine ⟨ksI q 8 3 5, by rw [if_pos (by rw [z]), kl_e], F.sI _ (by unfold W8; omega), by rw [kI_sI, if_pos ⟨rfl, rfl⟩, if_pos ⟨y, z⟩]; rfl, fun i hi => by rw [kI_sI, if_neg (by omega)]⟩
        · exact ⟨q, by rw [if_neg (by rw [n32_eq (by omega) (by omega)]; exact z)], F, by rw [if_neg (fun u => z u.2)]; exact e3, fun _ _ => rfl⟩
      · rw [if_neg y, if_pos rfl]
        exact ⟨q, rfl, F, by rw [if_neg (fun u => y u.1)]; exact e3, fun _ _ => rfl⟩
    unfold f_X7_next_b199 f_X7_next_b215
    rw [if_pos kk8, e3]
    by_cases t2 : t = 2
    · rw [if_pos (by rw [t2]; rfl)]
      obtain ⟨g', k1, k2, k3, k4⟩ := glue 1 rfl
      exact ⟨g', k1, k2, by rw [k3]; congr 1; exact ifP ⟨fun z => ⟨Or.inl t2, z⟩, fun z => z.2⟩, k4⟩
    · rw [if_neg (by rw [n32_eql (by omega) (by omega)]; exact t2)]
      by_cases t3 : t = 3
      · rw [if_pos (by rw [t3]; rfl)]
        obtain ⟨g', k1, k2, k3, k4⟩ := glue 1 rfl
        exact ⟨g', k1, k2, by rw [k3]; congr 1; exact ifP ⟨fun z => ⟨Or.inr t3, z⟩, fun z => z.2⟩, k4⟩
      · rw [if_neg (by rw [n32_eql (by omega) (by omega)]; exact t3)]
        refine ⟨q, ?_, F, by rw [if_neg (fun z => z.1.elim t2 t3)]; exact e3, fun _ _ => rfl⟩
        unfold f_X7_next_b220
        by_cases y : w1 = 0
        · rw [if_pos y]
        · rw [if_neg y, if_pos rfl]
  have top : ∀ {r}, f_X7_next_b81 g1 8 w1 (Int32.ofNat p) = some r → f_X7_next_b31 g 8 w1 = some r := fun {r} k => by
    unfold f_X7_next_b31
    rw [if_pos kk8, kl_e, e, e1, kb_s, k]
  have mid : f_X7_next_b81 g1 8 w1 (Int32.ofNat p) = (if (kI g2 8 2) < (kI g2 1 1) then
      kb (f_X9_byteAt g2 1 (kI g2 8 2)) fun r14 => kb (f_X7_isLetter g2 r14) fun r17 => if r17 = 0 then
      kb (f_X9_byteAt g2 1 (kI g2 8 2)) fun r21 => kb (f_X7_isDigit g2 r21) fun r24 => if r24 = 0 then
      kl (ksI g2 8 3 (4 : Int32)) fun h28 => if (kR h28 8 0) < 999999 then if kkind (kR h28 8 0) = 9 then kb (f_X9_byteAt h28 (kR h28 8 0) (kI h28 8 2)) fun r33 => kl (ksI h28 8 6 r33) fun h36 => kl (ksI h36 8 2 ((kI h36 8 2) + (1 : Int32))) fun h39 => f_X7_next_b199 h39 8 w1 (Int32.ofNat p) else none else none
      else kb (f_X7_readNumber g2 8) fun r42 => f_X7_next_b199 r42 8 w1 (Int32.ofNat p)
      else kb (f_X7_readWord g2 8) fun r46 => f_X7_next_b199 r46 8 w1 (Int32.ofNat p)
      else kl (ksI g2 8 3 (1 : Int32)) fun h50 => f_X7_next_b199 h50 8 w1 (Int32.ofNat p)) := by
    unfold f_X7_next_b81
    rw [if_pos kk8, i1, kl_e, kl_e, kl_e, ← eg2, rf8_0 r2, if_pos (show 1 < 999999 by omega), if_pos kk1]
  rw [c2, x2.2.1] at mid
  unfold Tk tkE tkT tkZ tkV tkZ
  rw [hS]
  by_cases y : n ≤ S
  · rw [if_neg (by rw [n32_lt (by omega) (by omega)]; omega), kl_e] at mid
    obtain ⟨g', k1, k2, k3, k4⟩ := fin (ksI g2 8 3 1) 1 (F2.sI _ (by unfold W8; omega)) (by rw [kI_sI, if_pos ⟨rfl, rfl⟩]; rfl) (by omega) (by rw [kI_sI, if_neg (by omega)]; exact c4)
    refine ⟨g', top (by rw [mid, k1]), k2, ?_, ?_, ?_, ?_, ?_⟩
    · rw [k4 _ (by omega), kI_sI, if_neg (by omega), if_pos y]; exact c2
    · rw [k3, if_neg (by omega), if_pos y]
    · rw [k4 _ (by omega), kI_sI, if_neg (by omega)]; exact c4
    · rw [k4 _ (by omega), kI_sI, if_neg (by omega), if_pos y]; exact c5
    · rw [k4 _ (by omega), kI_sI, if_neg (by omega), if_pos y]; exact c6
  · have tb := (ht.ty (i := S) (by omega)).2.1
    have xb := x_byte r2 ht (k := S) (by omega) (x2.2.2.1 S)
    rw [if_pos (by rw [n32_lt (by omega) (by omega)]; omega), xb, kb_s, x_isLetter g2 tb, kb_s, if10] at mid
    rw [if_neg y, if_neg y, if_neg y, if_neg y]
    by_cases l : isLt (tyN h S) = true
    · rw [if_pos l] at mid
      obtain ⟨g3, k0, f3, d2, d3, d4, d5, d6⟩ := x_word ht n16 x2 (by omega) l c2 c5 c6
      rw [k0, kb_s] at mid
      obtain ⟨g', k1, k2, k3, k4⟩ := fin g3 2 (F2.tr f3) d3 (by omega) (d4.trans c4)
      refine ⟨g', top (by rw [mid, k1]), k2, ?_, ?_, ?_, ?_, ?_⟩
      · rw [k4 _ (by omega), if_pos l]; exact d2
      · rw [k3, if_pos l]; congr 1; exact ifP ⟨fun z => z.2, fun z => ⟨Or.inl rfl, z⟩⟩
      · rw [k4 _ (by omega)]; exact d4.trans c4
      · rw [k4 _ (by omega), if_pos l]; exact d5
      · rw [k4 _ (by omega), if_pos l, if_pos l]; exact d6
    · rw [if_neg l, kb_s, x_isDigit g2 tb, kb_s, if10] at mid
      by_cases d : isDg (tyN h S) = true
      · rw [if_pos d] at mid
        obtain ⟨g3, k0, f3, d2, d3, d4, d5, d6⟩ := x_number ht n16 x2 (by omega) d c2 c5 c6
        rw [k0, kb_s] at mid
        obtain ⟨g', k1, k2, k3, k4⟩ := fin g3 3 (F2.tr f3) d3 (by omega) (d4.trans c4)
        refine ⟨g', top (by rw [mid, k1]), k2, ?_, ?_, ?_, ?_, ?_⟩
        · rw [k4 _ (by omega), if_neg l, if_pos d]; exact d2
        · rw [k3, if_neg l, if_pos d]; congr 1; exact ifP ⟨fun z => z.2, fun z => ⟨Or.inr rfl, z⟩⟩
        · rw [k4 _ (by omega)]; exact d4.trans c4
        · rw [k4 _ (by omega), if_neg l, if_pos d]; exact d5
        · rw [k4 _ (by omega), if_neg l, if_pos d, if_neg l, if_pos d]; exact d6
      · obtain ⟨g3, eg3⟩ : ∃ g3, g3 = ksI g2 8 3 (4 : Int32) := ⟨_, rfl⟩
        have f3 : kfp W8 g2 g3 := by rw [eg3]; exact kfp.rf.sI _ (by unfold W8; omega)
        have x3 := x2.fp f3 fun l i z y => by have := w8 l i y; omega
        have r3 := x3.1
        have c32 : kI g3 8 2 = Int32.ofNat S := by rw [eg3, kI_sI, if_neg (by omega)]; exact c2
        obtain ⟨g4, eg4⟩ : ∃ g4, g4 = ksI (ksI g3 8 6 (Int32.ofNat (tyN h S))) 8 2 (Int32.ofNat (S + 1)) := ⟨_, rfl⟩
        have f4 : kfp W8 g3 g4 := by rw [eg4]; exact (kfp.rf.sI _ (by unfold W8; omega)).sI _ (by unfold W8; omega)
        rw [if_neg d, ← eg3, kl_e, rf8_0 r3, if_pos (show 1 < 999999 by omega), if_pos kk1, c32, x_byte r3 ht (k := S) (by omega) (x3.2.2.1 S), kb_s, kl_e, kI_sI, if_neg (by omega), c32, n32_addl, kl_e, ← eg4] at mid
        have v : ∀ i, i ≠ 6 → i ≠ 2 → kI g4 8 i = kI g3 8 i := fun i a b => by rw [eg4, kI_sI, if_neg (by omega), kI_sI, if_neg (by omega)]
        have u3 : kI g4 8 3 = Int32.ofNat 4 := by rw [v _ (by omega) (by omega), eg3, kI_sI, if_pos ⟨rfl, rfl⟩]; rfl
        have u4 : kI g4 8 4 = Int32.ofNat S := by rw [v _ (by omega) (by omega), eg3, kI_sI, if_neg (by omega)]; exact c4
        obtain ⟨g', k1, k2, k3, k4⟩ := fin g4 4 ((F2.tr f3).tr f4) u3 (by omega) u4
        refine ⟨g', top (by rw [mid, k1]), k2, ?_, ?_, ?_, ?_, ?_⟩
        · rw [k4 _ (by omega), if_neg l, if_neg d, eg4, kI_sI, if_pos ⟨rfl, rfl⟩]
        · rw [k3, if_neg l, if_neg d, if_neg (by omega)]
        · rw [k4 _ (by omega)]; exact u4
        · rw [k4 _ (by omega), if_neg l, if_neg d, v _ (by omega) (by omega), eg3, kI_sI, if_neg (by omega)]; exact c5
        · rw [k4 _ (by omega), if_neg l, if_neg d, eg4, kI_sI, if_neg (by omega), kI_sI, if_pos ⟨rfl, rfl⟩]
