/-! the class: next, stop, words, signs and numbers -/
theorem whN6_at (v : Nat) : ∀ k, k ≤ 27 → whN6 v k = 27 ∨ (whN6 v k < 27 ∧ nmC (whN6 v k) = v)
  | 0, _ => Or.inl rfl
  | k + 1, h => by
    rw [whN6]
    by_cases y : nmC (26 - k) = v
    · rw [if_pos y]
      exact Or.inr ⟨by omega, y⟩
    · rw [if_neg y]
      exact whN6_at v k (by omega)
theorem whN6_nm : ∀ j, j < 27 → whN6 (nmC j) 27 = j := by decide +kernel
theorem whN6_eq {v j : Nat} (hj : j < 27) : whN6 v 27 = j ↔ nmC j = v := by
  constructor
  · intro e
    rcases whN6_at v 27 (by omega) with y | y
    · omega
    · rw [← e]
      exact y.2
  · intro e
    rw [← e]
    exact whN6_nm j hj
theorem nmC_lt : ∀ j, j < 27 → nmC j < 387420489 := by decide +kernel
theorem wvN_lt {b : Nat → Nat} {s : Nat} : ∀ k, k ≤ 6 → (∀ i, i < k → isLt (b (s + i)) = true) → wvN b s k < 27 ^ k
  | 0, _, _ => by
    rw [wvN, Nat.pow_zero]
    omega
  | k + 1, h, l => by
    have i := wvN_lt k (by omega) fun i hi => l i (by omega)
    have c := l k (by omega)
    unfold isLt at c
    rw [decide_eq_true_eq] at c
    rw [wvN, if_pos (by omega), Nat.pow_succ]
    omega
theorem nvN_lt {b : Nat → Nat} {s : Nat} : ∀ k, (∀ i, i < k → isDg (b (s + i)) = true) → nvN b s k < 10 ^ (min k 4)
  | 0, _ => by
    rw [nvN]
    decide
  | k + 1, l => by
    have i := nvN_lt k fun i hi => l i (by omega)
    have c := l k (by omega)
    unfold isDg at c
    rw [decide_eq_true_eq] at c
    rw [nvN]
    by_cases y : k < 4
    · rw [Nat.min_eq_left (by omega)] at i
      rw [if_pos y, Nat.min_eq_left (by omega), Nat.pow_succ]
      omega
    · rw [Nat.min_eq_right (by omega)] at i
      rw [if_neg y, Nat.min_eq_right (by omega)]
      exact i
theorem flN_lt {b : Nat → Nat} {s k : Nat} (l : ∀ i, i < k → isLt (b (s + i)) = true) : flN (wvN b s k) k < 387420489 := by
  unfold flN
  by_cases y : k ≤ 6
  · rw [if_pos y]
    have a := wvN_lt k y l
    have p : 0 < 27 ^ (6 - k) := Nat.pow_pos (by omega)
    have e : 27 ^ k * 27 ^ (6 - k) = 387420489 := by
      rw [← Nat.pow_add, show k + (6 - k) = 6 by omega]
    rw [← e]
    exact Nat.mul_lt_mul_of_pos_right a p
  · rw [if_neg y]
    omega
theorem tk_b {h : KH} {n p : Nat} (ht : Rtape h) (n16 : n ≤ 1600) (hp : p ≤ n) (w : Bool) : tkT (tyN h) n p w ≤ 5 ∧ 1 ≤ tkT (tyN h) n p w ∧ tkZ (tyN h) n p ≤ n ∧ tkV (tyN h) n p < 387420489 ∧ (tkT (tyN h) n p w = 3 → tkV (tyN h) n p ≤ 9999) := by
  obtain ⟨a1, a2⟩ := blE_at (tyN h) hp
  unfold tkT tkV tkZ
  by_cases y : n ≤ blE (tyN h) n p
  · rw [if_pos y, if_pos y, if_pos y]
    omega
  · rw [if_neg y, if_neg y, if_neg y]
    by_cases l : isLt (tyN h (blE (tyN h) n p)) = true
    · obtain ⟨b1, b2, b3, b4⟩ := wdE_at (tyN h) (n := n) (s := blE (tyN h) n p) (by omega) l
      have f := flN_lt (b := tyN h) (s := blE (tyN h) n p) (k := wdE (tyN h) n (blE (tyN h) n p) - blE (tyN h) n p) fun i hi => b3 _ (by omega) (by omega)
      rw [if_pos l, if_pos l, if_pos l]
      refine ⟨by split <;> omega, by split <;> omega, by omega, f, fun z => ?_⟩
      split at z <;> omega
    · rw [if_neg l, if_neg l, if_neg l]
      by_cases d : isDg (tyN h (blE (tyN h) n p)) = true
      · obtain ⟨b1, b2, b3, b4⟩ := dgE_at (tyN h) (n := n) (s := blE (tyN h) n p) (by omega) d
        have f := nvN_lt (b := tyN h) (s := blE (tyN h) n p) (dgE (tyN h) n (blE (tyN h) n p) - blE (tyN h) n p) fun i hi => b3 _ (by omega) (by omega)
        have g : 10 ^ min (dgE (tyN h) n (blE (tyN h) n p) - blE (tyN h) n p) 4 ≤ 10 ^ 4 := Nat.pow_le_pow_right (by omega) (Nat.min_le_right _ _)
        rw [if_pos d, if_pos d, if_pos d]
        refine ⟨by split <;> omega, by split <;> omega, by omega, by omega, fun _ => by omega⟩
      · have tb := (ht.ty (i := blE (tyN h) n p) (by omega)).2.1
        rw [if_neg d, if_neg d, if_neg d]
        exact ⟨by omega, by omega, by omega, by omega, fun z => by omega⟩
def Rx (h g : KH) (n : Nat) (r : PR) : Prop := Xr h g n ∧ (match r with
  | .inl e => kI g 8 3 = 6 ∧ kI g 8 7 = Int32.ofNat e.1 ∧ kI g 8 8 = Int32.ofNat e.2
  | .inr s => s.1 ≤ n ∧ Tk h g n s.1 s.2.1 ∧ kI g 8 7 = 0 ∧ kI g 8 8 = -1)
theorem Rx.fp {W : Nat → Nat → Prop} {h g g' : KH} {n : Nat} {r : PR} (x : Rx h g n r) (f : kfp W g g') (hd : ∀ l i, (l = 1 ∧ i = 1) ∨ l = 2 ∨ l = 9 ∨ l = 8 → ¬ W l i) : Rx h g' n r := by
  obtain ⟨x1, x2⟩ := x
  have I : ∀ i, kI g' 8 i = kI g 8 i := fun i => f.2.2.1 _ _ (hd _ _ (by omega))
  refine ⟨x1.fp f fun l i z => hd l i (by omega), ?_⟩
  cases r with
  | inl e =>
    dsimp only at x2 ⊢
    rw [I, I, I]
    exact x2
  | inr s =>
    dsimp only at x2 ⊢
    unfold Tk at x2 ⊢
    rw [I, I, I, I, I, I, I]
    exact x2
theorem Xr.r8 {h g g' : KH} {n : Nat} (x : Xr h g n) (f : kfp (fun l _ => l = 8) g g') : Xr h g' n := x.fp f fun l i z => by omega
theorem W8.to {g g' : KH} (f : kfp W8 g g') : kfp (fun l _ => l = 8) g g' := f.wide fun l i z => z.1
theorem f8 {g g' : KH} (f : kfp (fun l _ => l = 8) g g') (i : Nat) (v : Int32) : kfp (fun l _ => l = 8) g (ksI g' 8 i v) := f.sI v rfl
theorem x_next {h g : KH} {n : Nat} (ht : Rtape h) (n16 : n ≤ 1600) {s : PS} (x : Rx h g n (.inr s)) : ∃ g', f_X7_next g 8 = some g' ∧ kfp (fun l _ => l = 8) g g' ∧ Rx h g' n (.inr (nxt (tyN h) n s)) := by
  obtain ⟨x1, x2, ⟨t2, t3, t4, t5, t6⟩, x7, x8⟩ := x
  have tb := tk_b ht n16 x2 s.2.1
  have te := tkE_at (tyN h) x2 s.2.1
  obtain ⟨g', e, f, k⟩ := x_read ht n16 x1 te.2.1 t2 (decide (tkT (tyN h) n s.1 s.2.1 = 2 ∨ tkT (tyN h) n s.1 s.2.1 = 3))
  refine ⟨g', ?_, W8.to f, x1.r8 (W8.to f), te.2.1, k, ?_, ?_⟩
  · unfold f_X7_next f_X7_next_b26
    rw [if_pos kk8, t3, if_neg (by rw [n32_eql (by omega) (by omega)]; omega)]
    by_cases y : tkT (tyN h) n s.1 s.2.1 = 2
    · rw [if_pos (by rw [y]; rfl)]
      rw [if_pos (decide_eq_true (Or.inl y))] at e
      exact e
    · rw [if_neg (by rw [n32_eql (by omega) (by omega)]; exact y)]
      by_cases z : tkT (tyN h) n s.1 s.2.1 = 3
      · rw [if_pos (by rw [z]; rfl)]
        rw [if_pos (decide_eq_true (Or.inr z))] at e
        exact e
      · rw [if_neg (by rw [n32_eql (by omega) (by omega)]; exact z)]
        rw [if_neg (by rw [decide_eq_true_eq]; omega)] at e
        exact e
  · rw [f.2.2.1 _ _ (by unfold W8; omega)]; exact x7
  · rw [f.2.2.1 _ _ (by unfold W8; omega)]; exact x8
theorem x_next_l {h g : KH} {n : Nat} {e : Nat × Nat} (x : Rx h g n (.inl e)) : f_X7_next g 8 = some g := by
  unfold f_X7_next
  rw [if_pos kk8, x.2.1, if_pos rfl]
theorem x_nextR {h g : KH} {n : Nat} (ht : Rtape h) (n16 : n ≤ 1600) {r : PR} (x : Rx h g n r) : ∃ g', f_X7_next g 8 = some g' ∧ kfp (fun l _ => l = 8) g g' ∧ Rx h g' n (pbd r fun s => .inr (nxt (tyN h) n s)) := by
  cases r with
  | inl e => exact ⟨g, x_next_l x, kfp.rf, x⟩
  | inr s => exact x_next ht n16 x
theorem x_stop {h g : KH} {n k pl : Nat} {s : PS} (ht : Rtape h) (n16 : n ≤ 1600) (x : Rx h g n (.inr s)) : ∃ g', f_X7_stop g 8 (Int32.ofNat k) (Int32.ofNat pl) = some g' ∧ kfp (fun l _ => l = 8) g g' ∧ Rx h g' n (.inl (k, pl)) := by
  obtain ⟨x1, x2, ⟨t2, t3, t4, t5, t6⟩, x7, x8⟩ := x
  have tb := tk_b ht n16 x2 s.2.1
  have f : kfp (fun l _ => l = 8) g (ksI (ksI (ksI g 8 7 (Int32.ofNat k)) 8 8 (Int32.ofNat pl)) 8 3 6) := f8 (f8 (f8 kfp.rf _ _) _ _) _ _
  refine ⟨ksI (ksI (ksI g 8 7 (Int32.ofNat k)) 8 8 (Int32.ofNat pl)) 8 3 6, ?_, f, x1.r8 f, ?_⟩
  · unfold f_X7_stop
    rw [if_pos kk8, t3, if_neg (by rw [n32_eql (by omega) (by omega)]; omega), kl_e, kl_e, kl_e]
  · dsimp only
    refine ⟨by rw [kI_sI, if_pos ⟨rfl, rfl⟩], ?_, ?_⟩
    · rw [kI_sI, if_neg (by omega), kI_sI, if_neg (by omega), kI_sI, if_pos ⟨rfl, rfl⟩]
    · rw [kI_sI, if_neg (by omega), kI_sI, if_pos ⟨rfl, rfl⟩]
theorem x_stop_l {h g : KH} {n : Nat} {e : Nat × Nat} (x : Rx h g n (.inl e)) (a c : Int32) : f_X7_stop g 8 a c = some g := by
  unfold f_X7_stop
  rw [if_pos kk8, x.2.1, if_pos rfl]
/-- where the reader stands: its start -/
theorem Rx.start {h g : KH} {n : Nat} {s : PS} (x : Rx h g n (.inr s)) : kI g 8 4 = Int32.ofNat (blE (tyN h) n s.1) := x.2.2.1.2.2.1
theorem x_stopH {h g : KH} {n k : Nat} {r : PR} (ht : Rtape h) (n16 : n ≤ 1600) (x : Rx h g n r) : ∃ g', f_X7_stop g 8 (Int32.ofNat k) (kI g 8 4) = some g' ∧ kfp (fun l _ => l = 8) g g' ∧ Rx h g' n (pbd r (pft (tyN h) n k)) := by
  cases r with
  | inl e => exact ⟨g, x_stop_l x _ _, kfp.rf, x⟩
  | inr s =>
    rw [x.start]
    exact x_stop ht n16 x
theorem wI_eq {h : KH} {n j : Nat} {s : PS} (hj : j < 27) : wI (tyN h) n s = j ↔ tkT (tyN h) n s.1 s.2.1 = 2 ∧ nmC j = tkV (tyN h) n s.1 := by
  unfold wI wIx
  by_cases y : tkT (tyN h) n s.1 s.2.1 = 2
  · rw [if_pos y, whN6_eq hj]
    exact ⟨fun z => ⟨y, z⟩, fun z => z.2⟩
  · rw [if_neg y]
    exact ⟨fun z => by omega, fun z => absurd z.1 y⟩
theorem wI_le (b : Nat → Nat) (n : Nat) (s : PS) : wI b n s ≤ 27 := by
  unfold wI wIx
  split
  · rcases whN6_at (tkV b n s.1) 27 (by omega) with y | y <;> omega
  · omega
theorem x_isAt {h g : KH} {n j : Nat} {s : PS} (ht : Rtape h) (n16 : n ≤ 1600) (hj : j < 27) (x : Rx h g n (.inr s)) : f_X7_isAt g 8 (Int32.ofNat j) = some (if wI (tyN h) n s = j then 1 else 0) := by
  obtain ⟨x1, x2, ⟨t2, t3, t4, t5, t6⟩, x7, x8⟩ := x
  have tb := tk_b ht n16 x2 s.2.1
  have nl := nmC_lt j hj
  have w := wI_eq (h := h) (n := n) (s := s) hj
  unfold f_X7_isAt
  rw [if_pos kk8, t3]
  by_cases y : tkT (tyN h) n s.1 s.2.1 = 2
  · rw [if_pos (by rw [y]; rfl), rf8_1 x1.1, if_pos (show 9 < 999999 by omega), if_pos kk9, kn9, if_neg (by rw [n32_cl (by omega)]; exact fun z => z.elim (n32_nn (by omega)) (by omega)), n32_cl (show j < 2147483648 by omega), t6, x1.2.2.2 j hj]
    by_cases z : nmC j = tkV (tyN h) n s.1
    · rw [if_pos (by rw [z]), if_pos (w.mpr ⟨y, z⟩)]
    · rw [if_neg (by rw [n32_eq (by omega) (by omega)]; exact fun u => z u.symm), if_neg (fun u => z (w.mp u).2)]
  · rw [if_neg (by rw [n32_eql (by omega) (by omega)]; exact y), if_neg (fun u => y (w.mp u).1)]
theorem x_isAt_l {h g : KH} {n : Nat} {e : Nat × Nat} (x : Rx h g n (.inl e)) (a : Int32) : f_X7_isAt g 8 a = some 0 := by
  unfold f_X7_isAt
  rw [if_pos kk8, x.2.1, if_neg (by decide)]
theorem x_isAtSign {h g : KH} {n c : Nat} {s : PS} (ht : Rtape h) (n16 : n ≤ 1600) (hc : c < 256) (x : Rx h g n (.inr s)) : f_X7_isAtSign g 8 (Int32.ofNat c) = some (if tkT (tyN h) n s.1 s.2.1 = 4 ∧ tkV (tyN h) n s.1 = c then 1 else 0) := by
  obtain ⟨x1, x2, ⟨t2, t3, t4, t5, t6⟩, x7, x8⟩ := x
  have tb := tk_b ht n16 x2 s.2.1
  unfold f_X7_isAtSign
  rw [if_pos kk8, t3, t6]
  by_cases y : tkT (tyN h) n s.1 s.2.1 = 4
  · rw [if_pos (by rw [y]; rfl)]
    by_cases z : tkV (tyN h) n s.1 = c
    · rw [if_pos (by rw [z]), if_pos ⟨y, z⟩]
    · rw [if_neg (by rw [n32_eq (by omega) (by omega)]; exact z), if_neg (fun u => z u.2)]
  · rw [if_neg (by rw [n32_eql (by omega) (by omega)]; exact y), if_neg (fun u => y u.1)]
theorem x_isAtSign_l {h g : KH} {n : Nat} {e : Nat × Nat} (x : Rx h g n (.inl e)) (a : Int32) : f_X7_isAtSign g 8 a = some 0 := by
  unfold f_X7_isAtSign
  rw [if_pos kk8, x.2.1, if_neg (by decide)]
theorem x_wordHere {h g : KH} {n : Nat} {s : PS} (ht : Rtape h) (n16 : n ≤ 1600) (x : Rx h g n (.inr s)) : f_X7_wordHere g 8 = some (if wI (tyN h) n s = 27 then -1 else Int32.ofNat (wI (tyN h) n s)) := by
  obtain ⟨x1, x2, ⟨t2, t3, t4, t5, t6⟩, x7, x8⟩ := x
  have tb := tk_b ht n16 x2 s.2.1
  unfold f_X7_wordHere
  rw [if_pos kk8, t3]
  by_cases y : tkT (tyN h) n s.1 s.2.1 = 2
  · rw [if_pos (by rw [y]; rfl)]
    have ew : wI (tyN h) n s = whN6 (tkV (tyN h) n s.1) 27 := by
      unfold wI wIx
      rw [if_pos y]
    rw [ew]
    obtain ⟨V, hV⟩ : ∃ V, tkV (tyN h) n s.1 = V := ⟨_, rfl⟩
    rw [hV] at tb t6 ⊢
    have body : ∀ k, k < 27 → f_X7_wordHere_l10 g 8 (Int32.ofNat k) = if nmC k = V then some (.inr (.inr (Int32.ofNat k))) else some (.inl (Int32.ofNat (k + 1))) := fun k hk => by
      have nl := nmC_lt k hk
      unfold f_X7_wordHere_l10
      rw [if_pos kk8, rf8_1 x1.1, if_pos (show 9 < 999999 by omega), if_pos kk9, kn9, if_neg (by rw [n32_le (by omega) (by omega)]; omega), if_neg (by rw [n32_cl (by omega)]; exact fun z => z.elim (n32_nn (by omega)) (by omega)), n32_cl (show k < 2147483648 by omega), t6, x1.2.2.2 k hk, n32_addl, kl_e, kout2_s]
      exact ifP (n32_eq (by omega) (by omega))
    obtain ⟨r, er, hr⟩ := kloop_up (body := f_X7_wordHere_l10 g 8) (fun k => Int32.ofNat k) (fun k => ∀ i, i < k → nmC i ≠ V) (fun r => (whN6 V 27 = 27 ∧ r = .inl ()) ∨ (whN6 V 27 < 27 ∧ r = .inr (Int32.ofNat (whN6 V 27)))) (a := 0) (N := 27) (by omega) (by omega) (fun i hi => absurd hi (Nat.not_lt_zero _)) (fun k _ hk hJ => by
      rw [body k hk]
      by_cases z : nmC k = V
      · refine Or.inl ⟨_, by rw [if_pos z], ?_⟩
        have := (whN6_eq hk).mpr z
        exact Or.inr ⟨by omega, by rw [this]⟩
      · refine Or.inr ⟨by rw [if_neg z], fun i hi => ?_⟩
        by_cases u : i = k
        · rw [u]; exact z
        · exact hJ i (by omega)) (fun hJ => by
      refine ⟨.inl (), ?_, ?_⟩
      · unfold f_X7_wordHere_l10
        rw [if_pos kk8, rf8_1 x1.1, if_pos (show 9 < 999999 by omega), if_pos kk9, kn9, if_pos (by decide)]
      · rcases whN6_at V 27 (by omega) with z | z
        · exact Or.inl ⟨z, rfl⟩
        · exact absurd z.2 (hJ _ z.1))
    have er' : kloop (f_X7_wordHere_l10 g 8) KF (0 : Int32) = some r := er
    rw [er', kb_s]
    rcases hr with ⟨h1, h2⟩ | ⟨h1, h2⟩
    · rw [h2, ksum_l, if_pos h1]
    · rw [h2, ksum_r, if_neg (by omega)]
  · have ew : wI (tyN h) n s = 27 := by
      unfold wI wIx
      rw [if_neg y]
    rw [if_neg (by rw [n32_eql (by omega) (by omega)]; exact y), if_pos ew]
theorem x_wordHere_l {h g : KH} {n : Nat} {e : Nat × Nat} (x : Rx h g n (.inl e)) : f_X7_wordHere g 8 = some (-1) := by
  unfold f_X7_wordHere
  rw [if_pos kk8, x.2.1, if_neg (by decide)]
theorem x_takeSign {h g : KH} {n c : Nat} {r : PR} (ht : Rtape h) (n16 : n ≤ 1600) (hc : c < 256) (x : Rx h g n r) : ∃ g', f_X7_takeSign g 8 (Int32.ofNat c) = some g' ∧ kfp (fun l _ => l = 8) g g' ∧ Rx h g' n (pbd r (wS (tyN h) n c)) := by
  cases r with
  | inl e =>
    refine ⟨g, ?_, kfp.rf, x⟩
    unfold f_X7_takeSign
    rw [if_pos kk8, x_isAtSign_l x, kb_s, if_pos rfl, x_stop_l x, kb_s]
  | inr s =>
    rw [pbd_r]
    unfold wS f_X7_takeSign
    rw [if_pos kk8, x_isAtSign ht n16 hc x, kb_s, if10]
    by_cases y : tkT (tyN h) n s.1 s.2.1 = 4 ∧ tkV (tyN h) n s.1 = c
    · obtain ⟨g', e, f, k⟩ := x_next ht n16 x
      rw [if_pos y, if_pos y, e, kb_s]
      exact ⟨g', rfl, f, k⟩
    · obtain ⟨g', e, f, k⟩ := x_stopH (k := 1) ht n16 x
      have e' : f_X7_stop g 8 (1 : Int32) (kI g 8 4) = some g' := e
      rw [if_neg y, if_neg y, e', kb_s]
      exact ⟨g', rfl, f, k⟩
def wW (b : Nat → Nat) (n j : Nat) (s : PS) : PR := if wI b n s = j then .inr (nxt b n s) else pft b n 1 s
theorem x_takeWord {h g : KH} {n j : Nat} {r : PR} (ht : Rtape h) (n16 : n ≤ 1600) (hj : j < 27) (x : Rx h g n r) : ∃ g', f_X7_takeWord g 8 (Int32.ofNat j) = some g' ∧ kfp (fun l _ => l = 8) g g' ∧ Rx h g' n (pbd r (wW (tyN h) n j)) := by
  cases r with
  | inl e =>
    refine ⟨g, ?_, kfp.rf, x⟩
    unfold f_X7_takeWord
    rw [if_pos kk8, x_isAt_l x, kb_s, if_pos rfl, x_stop_l x, kb_s]
  | inr s =>
    rw [pbd_r]
    unfold wW f_X7_takeWord
    rw [if_pos kk8, x_isAt ht n16 hj x, kb_s, if10]
    by_cases y : wI (tyN h) n s = j
    · obtain ⟨g', e, f, k⟩ := x_next ht n16 x
      rw [if_pos y, if_pos y, e, kb_s]
      exact ⟨g', rfl, f, k⟩
    · obtain ⟨g', e, f, k⟩ := x_stopH (k := 1) ht n16 x
      have e' : f_X7_stop g 8 (1 : Int32) (kI g 8 4) = some g' := e
      rw [if_neg y, if_neg y, e', kb_s]
      exact ⟨g', rfl, f, k⟩
/-- a number taken: the reader behind it, and what it is -/
def nbd (r : (Nat × Nat) ⊕ (Nat × PS)) : PR := match r with
  | .inl e => .inl e
  | .inr v => .inr v.2
theorem x_takeNumber {h g : KH} {n lo hi : Nat} {s : PS} (ht : Rtape h) (n16 : n ≤ 1600) (hhi : hi < 10000) (hlo : lo < 10000) (x : Rx h g n (.inr s)) : ∃ v g', f_X7_takeNumber g 8 (Int32.ofNat lo) (Int32.ofNat hi) = some (v, g') ∧ kfp (fun l _ => l = 8) g g' ∧ Rx h g' n (nbd (wNum (tyN h) n lo hi s)) ∧ ∀ w s', wNum (tyN h) n lo hi s = .inr (w, s') → v = Int32.ofNat w := by
  obtain ⟨x1, x2, ⟨t2, t3, t4, t5, t6⟩, x7, x8⟩ := id x
  have tb := tk_b ht n16 x2 s.2.1
  have bl := blE_at (tyN h) x2
  unfold f_X7_takeNumber wNum
  rw [if_pos kk8, kl_e, t3]
  by_cases y : tkT (tyN h) n s.1 s.2.1 = 3
  · have v9 := tb.2.2.2.2 y
    rw [if_pos (by rw [y]; rfl), if_neg (show ¬ tkT (tyN h) n s.1 s.2.1 ≠ 3 from fun z => z y), t5]
    by_cases z : 4 < tkZ (tyN h) n s.1
    · obtain ⟨g', e, f, k⟩ := x_stop (k := 1) (pl := blE (tyN h) n s.1 + 4) ht n16 x
      have e' : f_X7_stop g 8 (1 : Int32) (kI g 8 4 + (4 : Int32)) = some g' := by rw [t4, n32_addl]; exact e
      rw [if_neg (by rw [n32_lel (by omega) (by omega)]; omega), if_pos z, e', kb_s]
      exact ⟨_, g', rfl, f, k, fun w s' q => by cases q⟩
    · rw [if_pos (by rw [n32_lel (by omega) (by omega)]; omega), if_neg z, t6]
      have bad : ∃ v g', f_X7_takeNumber_b57 g 8 (Int32.ofNat (tkV (tyN h) n s.1)) = some (v, g') ∧ kfp (fun l _ => l = 8) g g' ∧ Rx h g' n (.inl (2, blE (tyN h) n s.1)) := by
        obtain ⟨g', e, f, k⟩ := x_stop (k := 2) (pl := blE (tyN h) n s.1) ht n16 x
        have e' : f_X7_stop g 8 (2 : Int32) (kI g 8 4) = some g' := by rw [t4]; exact e
        unfold f_X7_takeNumber_b57
        rw [if_pos kk8, e', kb_s]
        exact ⟨_, g', rfl, f, k⟩
      by_cases a : tkV (tyN h) n s.1 < lo
      · obtain ⟨v, g', e, f, k⟩ := bad
        rw [if_pos (by rw [n32_lt (by omega) (by omega)]; exact a), if_pos (Or.inl a)]
        exact ⟨v, g', e, f, k, fun w s' q => by cases q⟩
      · rw [if_neg (by rw [n32_lt (by omega) (by omega)]; exact a)]
        by_cases c : tkV (tyN h) n s.1 ≤ hi
        · obtain ⟨g', e, f, k⟩ := x_next ht n16 x
          rw [if_pos (by rw [n32_le (by omega) (by omega)]; exact c), if_neg (by omega), e, kb_s]
          exact ⟨_, g', rfl, f, k, fun w s' q => by cases q; rfl⟩
        · obtain ⟨v, g', e, f, k⟩ := bad
          rw [if_neg (by rw [n32_le (by omega) (by omega)]; exact c), if_pos (Or.inr (by omega))]
          exact ⟨v, g', e, f, k, fun w s' q => by cases q⟩
  · obtain ⟨g', e, f, k⟩ := x_stopH (k := 1) ht n16 x
    have e' : f_X7_stop g 8 (1 : Int32) (kI g 8 4) = some g' := e
    rw [if_neg (by rw [n32_eql (by omega) (by omega)]; exact y), if_pos y, e', kb_s]
    exact ⟨_, g', rfl, f, k, fun w s' q => by cases q⟩
theorem x_takeNumber_l {h g : KH} {n : Nat} {e : Nat × Nat} (x : Rx h g n (.inl e)) (a c : Int32) : f_X7_takeNumber g 8 a c = some (kI g 8 6, g) := by
  unfold f_X7_takeNumber
  rw [if_pos kk8, kl_e, x.2.1, if_neg (by decide), x_stop_l x, kb_s]
theorem x_begin {h g : KH} {n : Nat} (ht : Rtape h) (n16 : n ≤ 1600) (x : Xr h g n) (c : List Nat) : ∃ g', f_X7_begin g 8 = some g' ∧ kfp (fun l _ => l = 8) g g' ∧ Rx h g' n (.inr (0, false, c)) := by
  obtain ⟨q, eq⟩ : ∃ q, q = ksI (ksI (ksI (ksI g 8 2 0) 8 3 0) 8 7 0) 8 8 (-1) := ⟨_, rfl⟩
  have f : kfp (fun l _ => l = 8) g q := by rw [eq]; exact f8 (f8 (f8 (f8 kfp.rf _ _) _ _) _ _) _ _
  have xq := x.r8 f
  have c2 : kI q 8 2 = Int32.ofNat 0 := by rw [eq, kI_sI, if_neg (by omega), kI_sI, if_neg (by omega), kI_sI, if_neg (by omega), kI_sI, if_pos ⟨rfl, rfl⟩]; rfl
  have c3 : kI q 8 3 = 0 := by rw [eq, kI_sI, if_neg (by omega), kI_sI, if_neg (by omega), kI_sI, if_pos ⟨rfl, rfl⟩]
  have c7 : kI q 8 7 = 0 := by rw [eq, kI_sI, if_neg (by omega), kI_sI, if_pos ⟨rfl, rfl⟩]
  have c8 : kI q 8 8 = -1 := by rw [eq, kI_sI, if_pos ⟨rfl, rfl⟩]
  obtain ⟨g', e, f', k⟩ := x_read ht n16 xq (Nat.zero_le _) c2 false
  have e' : f_X7_next_b31 q 8 (0 : Int32) = some g' := e
  refine ⟨g', ?_, f.tr (W8.to f'), xq.r8 (W8.to f'), Nat.zero_le _, k, ?_, ?_⟩
  · unfold f_X7_begin
    rw [if_pos kk8, kl_e, kl_e, kl_e, kl_e, ← eq]
    unfold f_X7_next
    rw [if_pos kk8, c3, if_neg (by decide), if_neg (by decide), if_neg (by decide), e', kb_s]
  · rw [f'.2.2.1 _ _ (by unfold W8; omega)]; exact c7
  · rw [f'.2.2.1 _ _ (by unfold W8; omega)]; exact c8
theorem x_goesOn {h g : KH} {n : Nat} {r : PR} (ht : Rtape h) (n16 : n ≤ 1600) (x : Rx h g n r) : f_X7_goesOn g 8 = some (match r with | .inl _ => 0 | .inr s => if tkT (tyN h) n s.1 s.2.1 = 1 then 0 else 1) := by
  cases r with
  | inl e =>
    unfold f_X7_goesOn
    rw [if_pos kk8, x.2.1, if_neg (by decide), if_pos rfl]
  | inr s =>
    obtain ⟨x1, x2, ⟨t2, t3, t4, t5, t6⟩, x7, x8⟩ := id x
    have tb := tk_b ht n16 x2 s.2.1
    dsimp only
    unfold f_X7_goesOn
    rw [if_pos kk8, t3]
    by_cases y : tkT (tyN h) n s.1 s.2.1 = 1
    · rw [if_pos (by rw [y]; rfl), if_pos y]
    · rw [if_neg (by rw [n32_eql (by omega) (by omega)]; exact y), if_neg y, if_neg (by rw [n32_eql (by omega) (by omega)]; omega)]
