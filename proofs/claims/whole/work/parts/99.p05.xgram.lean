/-! the class reads the little language -/
def Gx (h g : KH) (n cv : Nat) (L : Bool) (r : PR) : Prop := Rx h g n r ∧ (kR g 10 1 = cv ∧ kI g 10 2 = (if L = true then 0 else 1) ∧ (cv = 4 ∨ cv = 33 ∨ cv = 59)) ∧ (match r with
  | .inl _ => cn g cv 2 1600
  | .inr s => kI g cv 2 = Int32.ofNat s.2.2.length ∧ s.2.2.length ≤ s.1 ∧ ∀ i, i < s.2.2.length → kI g (cv + 1) i = csI (s.2.2.getD i 0))
def Wg (cv l i : Nat) : Prop := l = 8 ∨ (l = cv ∧ i = 2) ∨ l = cv + 1
theorem cv_k {cv : Nat} (h : cv = 4 ∨ cv = 33 ∨ cv = 59) : kkind cv = 1 ∧ kkind (cv + 1) = 20 ∧ klen (cv + 1) = 1600 ∧ cv < 100 := by
  rcases h with rfl | rfl | rfl
  · exact ⟨kk4, kk5, kn5, by omega⟩
  · exact ⟨kk33, kk34, kn34, by omega⟩
  · exact ⟨kk59, kk60, kn60, by omega⟩
theorem cv_r {h : KH} (hr : kRefs h) {cv : Nat} (hc : cv = 4 ∨ cv = 33 ∨ cv = 59) : kR h cv 0 = cv + 1 := by
  rcases hc with rfl | rfl | rfl
  · exact rf4_0 hr
  · exact rf33_0 hr
  · exact rf59_0 hr
theorem Gx.kR {h g : KH} {n cv : Nat} {L : Bool} {r : PR} (x : Gx h g n cv L r) : kRefs g := x.1.1.1
theorem Gx.mv {h g g' : KH} {n cv : Nat} {L : Bool} {r r' : PR} (n16 : n ≤ 1600) (x : Gx h g n cv L r) (f : kfp (fun l _ => l = 8) g g') (y : Rx h g' n r') (c : ∀ s', r' = .inr s' → ∃ s, r = .inr s ∧ s'.2.2 = s.2.2 ∧ s.1 ≤ s'.1) : Gx h g' n cv L r' := by
  obtain ⟨x1, ⟨x2, x3, x4⟩, x5⟩ := x
  have c8 : cv ≠ 8 ∧ cv + 1 ≠ 8 := by omega
  have I : ∀ l i, l ≠ 8 → kI g' l i = kI g l i := fun l i z => f.2.2.1 _ _ z
  refine ⟨y, ⟨(f.2.1 _ _).trans x2, (I _ _ (by omega)).trans x3, x4⟩, ?_⟩
  cases r' with
  | inl e =>
    dsimp only
    cases r with
    | inl e0 => exact cn.same x5 (I _ _ c8.1)
    | inr s =>
      dsimp only at x5
      have := x1.2.1
      exact (cn_of x5.1 (by omega) (by omega) : cn g cv 2 1600).same (I _ _ c8.1)
  | inr s' =>
    obtain ⟨s, es, e1, e2⟩ := c s' rfl
    subst es
    dsimp only at x5 ⊢
    rw [e1]
    exact ⟨(I _ _ c8.1).trans x5.1, by omega, fun i hi => (I _ _ c8.2).trans (x5.2.2 i hi)⟩
theorem Wg.of8 {cv : Nat} {g g' : KH} (f : kfp (fun l _ => l = 8) g g') : kfp (Wg cv) g g' := f.wide fun l i z => Or.inl z
/-- one code more -/
theorem x_emit {h g : KH} {n cv c : Nat} {L : Bool} {r : PR} {v : Int32} (n16 : n ≤ 1600) (x : Gx h g n cv L r) (hl : ∀ s, r = .inr s → v = csI c ∧ s.2.2.length + 1 ≤ s.1) : ∃ g', f_X1_addNumber g cv v = some g' ∧ kfp (Wg cv) g g' ∧ Gx h g' n cv L (pbd r fun s => .inr (pem c s)) := by
  obtain ⟨x1, ⟨x2, x3, x4⟩, x5⟩ := x
  obtain ⟨k1, k2, k3, k4⟩ := cv_k x4
  have c8 : cv ≠ 8 ∧ cv + 1 ≠ 8 ∧ cv ≠ 10 ∧ cv + 1 ≠ 10 ∧ cv + 1 ≠ 1 ∧ cv + 1 ≠ 2 ∧ cv + 1 ≠ 9 ∧ cv ≠ 1 ∧ cv ≠ 2 ∧ cv ≠ 9 := by omega
  have rg := x1.1.1
  have r0 := cv_r rg x4
  have step : ∀ (m : Nat), kI g cv 2 = Int32.ofNat m → m ≤ 1600 → f_X1_addNumber g cv v = some (if 1600 ≤ m then g else ksI (ksI g (cv + 1) m v) cv 2 (Int32.ofNat (m + 1))) := fun m em hm => by
    unfold f_X1_addNumber
    rw [if_pos k1, r0, if_pos (show cv + 1 < 999999 by omega), if_pos k2, k3, em]
    by_cases y : 1600 ≤ m
    · rw [if_pos (by rw [n32_le (by omega) (by omega)]; exact y), if_pos y]
    · rw [if_neg (by rw [n32_le (by omega) (by omega)]; exact y), if_neg (by rw [n32_cl (by omega)]; exact fun z => z.elim (n32_nn (by omega)) (by omega)), n32_cl (show m < 2147483648 by omega), kl_e, kI_sI, if_neg (by omega), em, n32_addl, kl_e, if_neg y]
  have fr : ∀ m, kfp (Wg cv) g (ksI (ksI g (cv + 1) m v) cv 2 (Int32.ofNat (m + 1))) := fun m => (kfp.rf.sI _ (by unfold Wg; omega)).sI _ (by unfold Wg; omega)
  have Rk : ∀ {r'} g', kfp (Wg cv) g g' → (∀ i, kI g' 8 i = kI g 8 i) → Rx h g n r' → Rx h g' n r' := fun {r'} g' f e z => by
    obtain ⟨z1, z2⟩ := z
    refine ⟨z1.fp f fun l i a b => by unfold Wg at b; omega, ?_⟩
    cases r' with
    | inl e0 => dsimp only at z2 ⊢; rw [e, e, e]; exact z2
    | inr s => dsimp only at z2 ⊢; unfold Tk at z2 ⊢; rw [e, e, e, e, e, e, e]; exact z2
  cases r with
  | inl e =>
    dsimp only at x5
    have s := step _ x5.1 x5.2
    by_cases y : 1600 ≤ kN g cv 2
    · rw [if_pos y] at s
      exact ⟨g, s, kfp.rf, x1, ⟨x2, x3, x4⟩, x5⟩
    · rw [if_neg y] at s
      refine ⟨_, s, fr _, Rk _ (fr _) (fun i => by rw [kI_sI, if_neg (by omega), kI_sI, if_neg (by omega)]) x1, ⟨x2, by rw [kI_sI, if_neg (by omega), kI_sI, if_neg (by omega)]; exact x3, x4⟩, ?_⟩
      show cn _ cv 2 1600
      exact cn_of (by rw [kI_sI, if_pos ⟨rfl, rfl⟩]) (by omega) (by omega)
  | inr s =>
    dsimp only at x5
    obtain ⟨hv, l⟩ := hl s rfl
    have sn := x1.2.1
    have st := step _ x5.1 (by omega)
    rw [if_neg (by omega)] at st
    refine ⟨_, st, fr _, Rk (r' := .inr (pem c s)) _ (fr _) (fun i => by rw [kI_sI, if_neg (by omega), kI_sI, if_neg (by omega)]) x1, ⟨x2, by rw [kI_sI, if_neg (by omega), kI_sI, if_neg (by omega)]; exact x3, x4⟩, ?_⟩
    have el : (s.2.2 ++ [c]).length = s.2.2.length + 1 := by simp
    show kI _ cv 2 = Int32.ofNat (s.2.2 ++ [c]).length ∧ (s.2.2 ++ [c]).length ≤ s.1 ∧ ∀ i, i < (s.2.2 ++ [c]).length → kI _ (cv + 1) i = csI ((s.2.2 ++ [c]).getD i 0)
    rw [el]
    refine ⟨by rw [kI_sI, if_pos ⟨rfl, rfl⟩], l, fun i hi => ?_⟩
    rw [kI_sI, if_neg (by omega), kI_sI, getD_app hi]
    by_cases y : i = s.2.2.length
    · rw [if_pos ⟨rfl, y⟩, if_neg (by omega), hv]
    · rw [if_neg (fun z => y z.2), if_pos (by omega)]
      exact x5.2.2 i (by omega)
def XQ (h : KH) (n cv : Nat) (L : Bool) (R : KRec) (tag : Nat) (o v2 : Int32) (f : PS → PR) : Prop := ∀ g r, Gx h g n cv L r → ∃ g', R tag g 10 o v2 = some g' ∧ kfp (Wg cv) g g' ∧ Gx h g' n cv L (pbd r f)
theorem pbd_id (r : PR) : pbd r .inr = r := by
  cases r <;> rfl
/-- the class's loops over what stands between two values -/
theorem lpX {h : KH} {n cv : Nat} {L : Bool} {op : PS → Nat} {it : PS → PR} (body : Int32 × KH → Option ((Int32 × KH) ⊕ KH))
    (H0 : ∀ k g r, k < 1600 → Gx h g n cv L r → (∀ s, r = .inr s → op s = 0) → body (Int32.ofNat k, g) = some (.inr g))
    (H1 : ∀ k g s, k < 1600 → Gx h g n cv L (.inr s) → op s ≠ 0 → ∃ g', body (Int32.ofNat k, g) = some (.inl (Int32.ofNat (k + 1), g')) ∧ kfp (Wg cv) g g' ∧ Gx h g' n cv L (pbd (it (nxt (tyN h) n s)) fun s2 => .inr (pem (op s) s2)))
    (H2 : ∀ g, body (Int32.ofNat 1600, g) = some (.inr g)) {g : KH} {r : PR} (x : Gx h g n cv L r) : ∃ g', kloop body KF ((0 : Int32), g) = some g' ∧ kfp (Wg cv) g g' ∧ Gx h g' n cv L (pbd r (lpB (tyN h) n op it 1600)) :=
  kloop_KF (fun m st => ∃ k q r', k + m = 1600 ∧ st = (Int32.ofNat k, q) ∧ kfp (Wg cv) g q ∧ Gx h q n cv L r' ∧ pbd r' (lpB (tyN h) n op it m) = pbd r (lpB (tyN h) n op it 1600)) (fun q => kfp (Wg cv) g q ∧ Gx h q n cv L (pbd r (lpB (tyN h) n op it 1600))) (fun m st hP => by
    obtain ⟨k, q, r', e1, e2, e3, e4, e5⟩ := hP
    subst e2
    by_cases z : m = 0
    · subst z
      have ek : k = 1600 := by omega
      subst ek
      refine Or.inl ⟨q, H2 q, e3, ?_⟩
      rw [← e5]
      have : lpB (tyN h) n op it 0 = .inr := rfl
      rw [this, pbd_id]
      exact e4
    · obtain ⟨m', rfl⟩ : ∃ m', m = m' + 1 := ⟨m - 1, by omega⟩
      cases r' with
      | inl e =>
        refine Or.inl ⟨q, H0 k q _ (by omega) e4 (fun s y => by cases y), e3, ?_⟩
        rw [← e5]
        exact e4
      | inr s =>
        by_cases y : op s = 0
        · refine Or.inl ⟨q, H0 k q _ (by omega) e4 (fun s' y' => by cases y'; exact y), e3, ?_⟩
          rw [← e5, pbd_r, lpB, if_pos y]
          exact e4
        · obtain ⟨g', b1, b2, b3⟩ := H1 k q s (by omega) e4 y
          refine Or.inr ⟨m', _, by omega, b1, k + 1, g', _, by omega, rfl, e3.tr b2, b3, ?_⟩
          rw [← e5, pbd_a, pbd_r, lpB, if_neg y]
          rfl) (n := 1600) (by omega) ⟨0, g, r, by omega, rfl, kfp.rf, x, rfl⟩
theorem Gx.len {h g : KH} {n cv : Nat} {L : Bool} {s : PS} (x : Gx h g n cv L (.inr s)) : s.2.2.length ≤ s.1 ∧ s.1 ≤ n := ⟨x.2.2.2.1, x.1.2.1⟩
/-- behind a token, a reader leaves room for one code more -/
theorem pg_room {b : Nat → Nat} {n : Nat} {L : Bool} {t D : Nat} {f : PS → PR} (p : Pg b n L t D f) {s s2 : PS} (h : s.1 ≤ n) (l : s.2.2.length ≤ s.1) (z : tkT b n s.1 s.2.1 ≠ 1) (e : f (nxt b n s) = .inr s2) : s2.2.2.length + 1 ≤ s2.1 := by
  obtain ⟨a1, a2⟩ := nxt_pos b h z
  obtain ⟨b1, b2, d, b3, b4, -⟩ := p _ _ a2 e
  have e3 : s2.2.2.length = s.2.2.length + d.length := by
    rw [b3, List.length_append]
    rfl
  omega
theorem x_nextG {h g : KH} {n cv : Nat} {L : Bool} {s : PS} (ht : Rtape h) (n16 : n ≤ 1600) (x : Gx h g n cv L (.inr s)) : ∃ g', f_X7_next g 8 = some g' ∧ kfp (Wg cv) g g' ∧ Gx h g' n cv L (.inr (nxt (tyN h) n s)) := by
  obtain ⟨g', e, f, k⟩ := x_next ht n16 x.1
  have te := tkE_at (tyN h) x.1.2.1 s.2.1
  exact ⟨g', e, Wg.of8 f, x.mv n16 f k fun s' q => by cases q; exact ⟨s, rfl, rfl, te.1⟩⟩
theorem x_stopG {h g : KH} {n cv k : Nat} {L : Bool} {r : PR} (ht : Rtape h) (n16 : n ≤ 1600) (x : Gx h g n cv L r) : ∃ g', f_X7_stop g 8 (Int32.ofNat k) (kI g 8 4) = some g' ∧ kfp (Wg cv) g g' ∧ Gx h g' n cv L (pbd r (pft (tyN h) n k)) := by
  obtain ⟨g', e, f, y⟩ := x_stopH (k := k) ht n16 x.1
  refine ⟨g', e, Wg.of8 f, x.mv n16 f y fun s' q => ?_⟩
  cases r with
  | inl e => cases q
  | inr s => cases q
theorem x_takeSignG {h g : KH} {n cv c : Nat} {L : Bool} {r : PR} (ht : Rtape h) (n16 : n ≤ 1600) (hc : c < 256) (x : Gx h g n cv L r) : ∃ g', f_X7_takeSign g 8 (Int32.ofNat c) = some g' ∧ kfp (Wg cv) g g' ∧ Gx h g' n cv L (pbd r (wS (tyN h) n c)) := by
  obtain ⟨g', e, f, y⟩ := x_takeSign ht n16 hc x.1
  refine ⟨g', e, Wg.of8 f, x.mv n16 f y fun s' q => ?_⟩
  cases r with
  | inl e => cases q
  | inr s =>
    have w := wS_g (b := tyN h) x.1.2.1 q
    exact ⟨s, rfl, w.2.2, by omega⟩
theorem x_opens {h g : KH} {n cv k : Nat} {L : Bool} {s : PS} (ht : Rtape h) (n16 : n ≤ 1600) (hk : k ≤ 6) (x : Gx h g n cv L (.inr s)) : ∃ g', f_X4_opens g 10 (Int32.ofNat (6 - k)) = some (if k = 0 then 0 else 1, g') ∧ kfp (Wg cv) g g' ∧ Gx h g' n cv L (if k = 0 then pft (tyN h) n 4 s else .inr (nxt (tyN h) n s)) := by
  have rg := x.kR
  unfold f_X4_opens
  by_cases y : k = 0
  · obtain ⟨g', e, f, z⟩ := x_stopG (k := 4) ht n16 x
    have e' : f_X7_stop g 8 (4 : Int32) (kI g 8 4) = some g' := e
    rw [if_neg (by rw [n32_ltl (by omega) (by omega)]; omega), if_pos kk10, rf10_0 rg, if_pos (show 8 < 999999 by omega), if_pos kk8, e', kb_s, if_pos y, if_pos y]
    exact ⟨g', rfl, f, z⟩
  · obtain ⟨g', e, f, z⟩ := x_nextG ht n16 x
    rw [if_pos (by rw [n32_ltl (by omega) (by omega)]; omega), if_pos kk10, rf10_0 rg, if_pos (show 8 < 999999 by omega), if_pos kk8, e, kb_s, if_neg y, if_neg y]
    exact ⟨g', rfl, f, z⟩
theorem x_emitS {h g : KH} {n cv c : Nat} {L : Bool} {r : PR} {v : Int32} (n16 : n ≤ 1600) (hv : (-100 : Int32) - v = csI c) (x : Gx h g n cv L r) (hl : ∀ s, r = .inr s → s.2.2.length + 1 ≤ s.1) : ∃ g', f_X1_addSign g cv v = some g' ∧ kfp (Wg cv) g g' ∧ Gx h g' n cv L (pbd r fun s => .inr (pem c s)) := by
  obtain ⟨g', e, f, y⟩ := x_emit (c := c) (v := csI c) n16 x fun s q => ⟨rfl, hl s q⟩
  refine ⟨g', ?_, f, y⟩
  unfold f_X1_addSign
  rw [if_pos (cv_k x.2.1.2.2).1, hv, e, kb_s]
theorem x_emitW {h g : KH} {n cv c : Nat} {L : Bool} {r : PR} {v : Int32} (n16 : n ≤ 1600) (hv : (-1 : Int32) - v = csI c) (x : Gx h g n cv L r) (hl : ∀ s, r = .inr s → s.2.2.length + 1 ≤ s.1) : ∃ g', f_X1_addWord g cv v = some g' ∧ kfp (Wg cv) g g' ∧ Gx h g' n cv L (pbd r fun s => .inr (pem c s)) := by
  obtain ⟨g', e, f, y⟩ := x_emit (c := c) (v := csI c) n16 x fun s q => ⟨rfl, hl s q⟩
  refine ⟨g', ?_, f, y⟩
  unfold f_X1_addWord
  rw [if_pos (cv_k x.2.1.2.2).1, hv, e, kb_s]
