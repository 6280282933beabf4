/-! the model's scanner: words, numbers, signs -/
def wdL (j : Nat) : List Nat := ([[107, 105, 110, 100], [108, 111, 118, 101], [119, 105, 116], [116, 114, 117, 101], [102, 97, 108, 115, 101], [116, 101, 115, 116], [104, 97, 114, 109], [109, 97, 114, 107], [121, 105, 101, 108, 100, 115], [102, 105, 114, 115, 116], [112, 114, 105, 99, 101], [104, 101, 97, 114, 100], [116, 114, 117, 116, 104], [110, 117, 109, 98, 101, 114], [109, 101, 114, 105, 116], [115, 117, 114, 101], [111, 114], [97, 110, 100], [110, 111, 116], [97, 108, 108], [109, 105, 110], [109, 97, 120], [108, 97, 115, 116], [111, 102, 116, 101, 110], [116, 111, 116, 97, 108], [109, 111, 115, 116], [108, 101, 97, 115, 116]] : List (List Nat)).getD j []
/-- which word the q-th of the model's second row is -/
def aqN (q : Nat) : Nat := ([9, 22, 23, 24, 25, 26, 18, 17, 16, 19, 20, 21, 1, 2, 6, 11, 12, 13, 14, 15, 8] : List Nat).getD q 0
theorem wdL_nm : ∀ j, j < 27 → nmC j = flN (wvN (fun i => (wdL j).getD i 0) 0 (wdL j).length) (wdL j).length ∧ 1 ≤ (wdL j).length ∧ (wdL j).length ≤ 6 ∧ ∀ i, i < (wdL j).length → isLt ((wdL j).getD i 0) = true := by decide +kernel
theorem wd_k1 : ∀ j, j < 22 → kkind (176 + j) = 22 ∧ klen (176 + j) = (wdL j).length := by decide +kernel
theorem wd_k2 : ∀ q, q < 21 → kkind (218 + q) = 22 ∧ klen (218 + q) = (wdL (aqN q)).length ∧ aqN q < 27 := by decide +kernel
/-- the words as both have them -/
def Rwords (h : KH) : Prop := (∀ j, j < 27 → kI h 9 j = Int32.ofNat (nmC j)) ∧ (∀ j, j < 22 → ∀ i, i < (wdL j).length → kI h (176 + j) i = Int32.ofNat ((wdL j).getD i 0)) ∧ ∀ q, q < 21 → ∀ i, i < (wdL (aqN q)).length → kI h (218 + q) i = Int32.ofNat ((wdL (aqN q)).getD i 0)
theorem Rwords.fp {W : Nat → Nat → Prop} {h h' : KH} (r : Rwords h) (x : kfp W h h') (hd : ∀ l i, l = 9 ∨ (176 ≤ l ∧ l ≤ 197) ∨ (218 ≤ l ∧ l ≤ 238) → ¬ W l i) : Rwords h' :=
  ⟨fun j hj => (x.2.2.1 _ _ (hd _ _ (by omega))).trans (r.1 j hj), fun j hj i hi => (x.2.2.1 _ _ (hd _ _ (by omega))).trans (r.2.1 j hj i hi), fun q hq i hi => (x.2.2.1 _ _ (hd _ _ (by omega))).trans (r.2.2 q hq i hi)⟩
/-- a word's array at a label -/
def Wd (g : KH) (w j : Nat) : Prop := j < 27 ∧ kkind w = 22 ∧ klen w = (wdL j).length ∧ w ≠ 173 ∧ ∀ i, i < (wdL j).length → kI g w i = Int32.ofNat ((wdL j).getD i 0)
theorem Rwords.w1 {g : KH} (r : Rwords g) {j : Nat} (hj : j < 22) : Wd g (176 + j) j := ⟨by omega, (wd_k1 j hj).1, (wd_k1 j hj).2, by omega, r.2.1 j hj⟩
theorem Rwords.w2 {g : KH} (r : Rwords g) {q : Nat} (hq : q < 21) : Wd g (218 + q) (aqN q) := ⟨(wd_k2 q hq).2.2, (wd_k2 q hq).1, (wd_k2 q hq).2.1, by omega, r.2.2 q hq⟩
def dgt (b : Nat → Nat) (s k i : Nat) : Nat := if i < k then b (s + i) - 96 else 0
def V6 (f : Nat → Nat) : Nat := f 0 * 14348907 + f 1 * 531441 + f 2 * 19683 + f 3 * 729 + f 4 * 27 + f 5
theorem fl_V {b : Nat → Nat} {s k : Nat} (h : k ≤ 6) : flN (wvN b s k) k = V6 (dgt b s k) := by
  have e : k = 0 ∨ k = 1 ∨ k = 2 ∨ k = 3 ∨ k = 4 ∨ k = 5 ∨ k = 6 := by omega
  rcases e with rfl | rfl | rfl | rfl | rfl | rfl | rfl <;> simp [flN, wvN, V6, dgt] <;> omega
theorem V6_inj {f g : Nat → Nat} (hf : ∀ i, i < 6 → f i ≤ 26) (hg : ∀ i, i < 6 → g i ≤ 26) (e : V6 f = V6 g) : ∀ i, i < 6 → f i = g i := by
  unfold V6 at e
  have f0 := hf 0 (by omega)
  have f1 := hf 1 (by omega)
  have f2 := hf 2 (by omega)
  have f3 := hf 3 (by omega)
  have f4 := hf 4 (by omega)
  have f5 := hf 5 (by omega)
  have g0 := hg 0 (by omega)
  have g1 := hg 1 (by omega)
  have g2 := hg 2 (by omega)
  have g3 := hg 3 (by omega)
  have g4 := hg 4 (by omega)
  have g5 := hg 5 (by omega)
  have e0 : f 0 = g 0 := by omega
  have e1 : f 1 = g 1 := by omega
  have e2 : f 2 = g 2 := by omega
  have e3 : f 3 = g 3 := by omega
  have e4 : f 4 = g 4 := by omega
  have e5 : f 5 = g 5 := by omega
  intro i hi
  have c : i = 0 ∨ i = 1 ∨ i = 2 ∨ i = 3 ∨ i = 4 ∨ i = 5 := by omega
  rcases c with rfl | rfl | rfl | rfl | rfl | rfl <;> assumption
theorem isLt_b {x : Nat} (h : isLt x = true) : 97 ≤ x ∧ x ≤ 122 := by
  unfold isLt at h
  rw [decide_eq_true_eq] at h
  exact h
/-- words are the same just when their numbers are -/
theorem word_eq {b c : Nat → Nat} {s k m : Nat} (hb : ∀ i, i < k → isLt (b (s + i)) = true) (k1 : 1 ≤ k) (hc : ∀ i, i < m → isLt (c i) = true) (m1 : 1 ≤ m) (m6 : m ≤ 6) : flN (wvN c 0 m) m = flN (wvN b s k) k ↔ k = m ∧ ∀ i, i < m → b (s + i) = c i := by
  have dc : ∀ i, i < 6 → dgt c 0 m i ≤ 26 := fun i _ => by
    unfold dgt
    by_cases y : i < m
    · have := isLt_b (hc i y)
      rw [if_pos y, Nat.zero_add]
      omega
    · rw [if_neg y]
      omega
  have db : ∀ i, i < 6 → dgt b s k i ≤ 26 := fun i _ => by
    unfold dgt
    by_cases y : i < k
    · have := isLt_b (hb i y)
      rw [if_pos y]
      omega
    · rw [if_neg y]
      omega
  constructor
  · intro e
    by_cases k6 : k ≤ 6
    · rw [fl_V m6, fl_V k6] at e
      have v := V6_inj dc db e
      have p1 : ∀ i, i < 6 → (i < m ↔ i < k) := fun i hi => by
        have q := v i hi
        unfold dgt at q
        by_cases y : i < m
        · have a := isLt_b (hc i y)
          rw [if_pos y, Nat.zero_add] at q
          by_cases z : i < k
          · exact ⟨fun _ => z, fun _ => y⟩
          · rw [if_neg z] at q
            omega
        · rw [if_neg y] at q
          by_cases z : i < k
          · have a := isLt_b (hb i z)
            rw [if_pos z] at q
            omega
          · exact ⟨fun u => absurd u y, fun u => absurd u z⟩
      have km : k = m := by
        refine Classical.byContradiction fun z => ?_
        by_cases y : k < m
        · have := (p1 k (by omega)).mp y
          omega
        · have := (p1 m (by omega)).mpr (by omega)
          omega
      refine ⟨km, fun i hi => ?_⟩
      have q := v i (by omega)
      unfold dgt at q
      rw [if_pos hi, if_pos (by omega), Nat.zero_add] at q
      have a := isLt_b (hc i hi)
      have a2 := isLt_b (hb i (by omega))
      omega
    · exfalso
      rw [fl_V m6] at e
      unfold flN at e
      rw [if_neg k6] at e
      unfold V6 dgt at e
      rw [if_pos (show 0 < m by omega)] at e
      have a := isLt_b (hc 0 (by omega))
      rw [Nat.zero_add] at e
      omega
  · intro ⟨e1, e2⟩
    subst e1
    rw [fl_V m6, fl_V m6]
    have : dgt c 0 k = dgt b s k := by
      funext i
      unfold dgt
      by_cases y : i < k
      · rw [if_pos y, if_pos y, Nat.zero_add, e2 i y]
      · rw [if_neg y, if_neg y]
    rw [this]
/-- the model's scanner behind what was passed: at a, blanks alone ahead of it -/
def Ms (h g : KH) (n : Nat) : Prop := kRefs g ∧ kI g 173 3 = Int32.ofNat n ∧ (∀ i, kI g 174 i = kI h 174 i) ∧ Rwords g
def Md (h g : KH) (n a : Nat) (r : PR) : Prop := Ms h g n ∧ (match r with
  | .inl e => 1 ≤ e.1 ∧ e.1 ≤ 5 ∧ kI g 173 5 = Int32.ofNat e.1 ∧ kI g 173 6 = Int32.ofNat e.2
  | .inr s => s.1 ≤ n ∧ kI g 173 5 = 0 ∧ kI g 173 6 = -1 ∧ s.1 ≤ a ∧ a ≤ blE (tyN h) n s.1 ∧ kI g 173 2 = Int32.ofNat a ∧ (s.2.1 = true → kI g 173 4 = Int32.ofNat s.1) ∧ (s.2.1 = false → kI g 173 4 = -1 ∨ ∃ x, x < s.1 ∧ kI g 173 4 = Int32.ofNat x))
def Wmp (l i : Nat) : Prop := l = 173 ∧ (i = 2 ∨ i = 4 ∨ i = 5 ∨ i = 6)
theorem Ms.fp {W : Nat → Nat → Prop} {h g g' : KH} {n : Nat} (m : Ms h g n) (x : kfp W g g') (hd : ∀ l i, l = 9 ∨ (176 ≤ l ∧ l ≤ 197) ∨ (218 ≤ l ∧ l ≤ 238) ∨ l = 174 ∨ (l = 173 ∧ i = 3) → ¬ W l i) : Ms h g' n :=
  ⟨m.1.fp x, (x.2.2.1 _ _ (hd _ _ (by omega))).trans m.2.1, fun i => (x.2.2.1 _ _ (hd _ _ (by omega))).trans (m.2.2.1 i), m.2.2.2.fp x fun l i z => hd l i (by omega)⟩
theorem Md.fp {W : Nat → Nat → Prop} {h g g' : KH} {n a : Nat} {r : PR} (m : Md h g n a r) (x : kfp W g g') (hd : ∀ l i, l = 9 ∨ (176 ≤ l ∧ l ≤ 197) ∨ (218 ≤ l ∧ l ≤ 238) ∨ l = 174 ∨ (l = 173 ∧ 2 ≤ i ∧ i ≤ 6) → ¬ W l i) : Md h g' n a r := by
  obtain ⟨m1, m2⟩ := m
  have I : ∀ i, 2 ≤ i → i ≤ 6 → kI g' 173 i = kI g 173 i := fun i a b => x.2.2.1 _ _ (hd _ _ (by omega))
  refine ⟨m1.fp x fun l i z => hd l i (by omega), ?_⟩
  cases r with
  | inl e =>
    dsimp only at m2 ⊢
    rw [I 5 (by omega) (by omega), I 6 (by omega) (by omega)]
    exact m2
  | inr s =>
    dsimp only at m2 ⊢
    rw [I 5 (by omega) (by omega), I 6 (by omega) (by omega), I 2 (by omega) (by omega), I 4 (by omega) (by omega)]
    exact m2
theorem m_byte {h g : KH} {n : Nat} (ht : Rtape h) (m : Ms h g n) {i : Nat} (hi : i < 1600) : kI g 174 i = Int32.ofNat (tyN h i) ∧ tyN h i < 256 := ⟨(m.2.2.1 i).trans (ht.ty hi).1, (ht.ty hi).2.1⟩
theorem sk_from {c : Nat → Bool} {n p a : Nat} (h1 : p ≤ a) (h2 : a ≤ skN c n n p) (hp : p ≤ n) : skN c n n a = skN c n n p := by
  obtain ⟨⟨x1, x2⟩, x3, x4⟩ := skN_at (c := c) (n := n) n p (by omega)
  obtain ⟨⟨y1, y2⟩, y3, y4⟩ := skN_at (c := c) (n := n) n a (by omega)
  have x2 := x2 hp
  have y2 := y2 (by omega)
  refine Classical.byContradiction fun z => ?_
  by_cases w : skN c n n a < skN c n n p
  · exact y4 (x3 _ (by omega) w)
  · exact x4 (y3 _ h2 (by omega))
theorem bl_from {b : Nat → Nat} {n p a : Nat} (h1 : p ≤ a) (h2 : a ≤ blE b n p) (hp : p ≤ n) : blE b n a = blE b n p := sk_from h1 h2 hp
/-- the byte that stands next -/
def lkI (b : Nat → Nat) (n p : Nat) : Int32 := if n ≤ blE b n p then -1 else Int32.ofNat (b (blE b n p))
theorem m_look0 {h g : KH} {n a : Nat} {s : PS} (ht : Rtape h) (n16 : n ≤ 1600) (m : Md h g n a (.inr s)) : ∃ g', f_X12_look0 g 173 = some (lkI (tyN h) n s.1, g') ∧ kfp Wmp g g' ∧ Md h g' n (blE (tyN h) n s.1) (.inr s) := by
  obtain ⟨m1, m2, m3, m4, m5, m6, m7, m8, m9⟩ := id m
  have rg := m1.1
  obtain ⟨S, hS⟩ : ∃ S, blE (tyN h) n s.1 = S := ⟨_, rfl⟩
  have eS : blE (tyN h) n a = S := by rw [bl_from m5 m6 m2, hS]
  obtain ⟨⟨a1, a2⟩, a3, a4⟩ := skN_at (c := fun i => isBl (tyN h i)) (n := n) n a (by omega)
  have an : a ≤ n := by have := (blE_at (tyN h) m2).2; omega
  have a2 := a2 an
  have a5 : skN (fun i => isBl (tyN h i)) n n a = S := eS
  rw [a5] at a1 a2 a3 a4
  have base : ∀ q k, kfp (fun l i => l = 173 ∧ i = 2) g q → kI q 173 2 = Int32.ofNat k → k ≤ n → f_X12_look0_l0 173 q = if k < n ∧ isBl (tyN h k) = true then some (.inl (ksI q 173 2 (Int32.ofNat (k + 1)))) else some (.inr q) := fun q k f ek hk => by
    have rq := rg.fp f
    have b39 : f_X12_look0_b39 q 173 = some (.inl (ksI q 173 2 (Int32.ofNat (k + 1)))) := by
      unfold f_X12_look0_b39
      rw [if_pos kk173, ek, n32_addl, kl_e]
    unfold f_X12_look0_l0
    rw [if_pos kk173, ek, f.2.2.1 _ _ (by omega), m1.2.1]
    by_cases y : n ≤ k
    · rw [if_pos (by rw [n32_le (by omega) (by omega)]; exact y), if_neg (fun z => by have := z.1; omega)]
    · have tb := m_byte ht m1 (i := k) (by omega)
      rw [if_neg (by rw [n32_le (by omega) (by omega)]; exact y), rf173_0 rq, if_pos (show 174 < 999999 by omega), if_pos kk174, kn174, if_neg (by rw [n32_cl (by omega)]; exact fun z => z.elim (n32_nn (by omega)) (by omega)), n32_cl (show k < 2147483648 by omega), f.2.2.1 _ _ (by omega), tb.1, b39]
      have tl := tb.2
      by_cases c : tyN h k = 10
      · rw [if_pos (by rw [c]; rfl), if_pos ⟨by omega, decide_eq_true (Or.inl c)⟩]
      · rw [if_neg (by rw [n32_eql (by omega) (by omega)]; exact c)]
        by_cases d : tyN h k = 32
        · rw [if_pos (by rw [d]; rfl), if_pos ⟨by omega, decide_eq_true (Or.inr d)⟩]
        · rw [if_neg (by rw [n32_eql (by omega) (by omega)]; exact d), if_neg (fun z => by
            have := z.2
            unfold isBl at this
            rw [decide_eq_true_eq] at this
            omega)]
  obtain ⟨g', e1, f1, i1⟩ := kloop_inv (body := f_X12_look0_l0 173) (fun k q => kfp (fun l i => l = 173 ∧ i = 2) g q ∧ kI q 173 2 = Int32.ofNat (a + k)) (fun q => kfp (fun l i => l = 173 ∧ i = 2) g q ∧ kI q 173 2 = Int32.ofNat S) (S - a) (s0 := g) (by omega) ⟨kfp.rf, m7⟩ (fun k q hk hP => by
      obtain ⟨p1, p2⟩ := hP
      have c := a3 (a + k) (by omega) (by omega)
      refine ⟨ksI q 173 2 (Int32.ofNat (a + k + 1)), ?_, p1.sI _ ⟨rfl, rfl⟩, by rw [kI_sI, if_pos ⟨rfl, rfl⟩]; rfl⟩
      rw [base q (a + k) p1 p2 (by omega), if_pos c]) (fun q hP => by
      obtain ⟨p1, p2⟩ := hP
      have el : a + (S - a) = S := by omega
      rw [el] at p2
      refine ⟨q, ?_, p1, p2⟩
      rw [base q _ p1 p2 a2, if_neg a4])
  have F : kfp Wmp g g' := f1.wide fun l i z => by unfold Wmp; omega
  have I : ∀ i, i ≠ 2 → kI g' 173 i = kI g 173 i := fun i z => f1.2.2.1 _ _ (by omega)
  have m1' : Ms h g' n := m1.fp f1 fun l i z => by omega
  refine ⟨g', ?_, F, m1', m2, (I _ (by omega)).trans m3, (I _ (by omega)).trans m4, (blE_at (tyN h) m2).1, Nat.le_refl _, by rw [hS]; exact i1, fun z => (I _ (by omega)).trans (m8 z), fun z => by rw [I _ (by omega)]; exact m9 z⟩
  unfold f_X12_look0
  rw [e1, kb_s]
  unfold f_X12_look0_b52 lkI
  rw [if_pos kk173, i1, m1'.2.1, hS]
  by_cases y : n ≤ S
  · rw [if_pos (by rw [n32_le (by omega) (by omega)]; exact y), if_pos y]
  · have tb := m_byte ht m1' (i := S) (by omega)
    rw [if_neg (by rw [n32_le (by omega) (by omega)]; exact y), rf173_0 m1'.1, if_pos (show 174 < 999999 by omega), if_pos kk174, kn174, if_neg (by rw [n32_cl (by omega)]; exact fun z => z.elim (n32_nn (by omega)) (by omega)), n32_cl (show S < 2147483648 by omega), tb.1, if_neg y]
theorem m_isLetter (h : KH) {x : Nat} (hx : x < 256) : f_X12_isLetter h (Int32.ofNat x) = some (if isLt x = true then 1 else 0) := x_isLetter h hx
theorem m_isDigit (h : KH) {x : Nat} (hx : x < 256) : f_X12_isDigit h (Int32.ofNat x) = some (if isDg x = true then 1 else 0) := x_isDigit h hx
/-- whether at is where the last word or number ended -/
theorem m_glue {h g : KH} {n : Nat} {s : PS} (n16 : n ≤ 1600) (m : Md h g n (blE (tyN h) n s.1) (.inr s)) : (kI g 173 2 = kI g 173 4) ↔ (s.2.1 = true ∧ blE (tyN h) n s.1 = s.1) := by
  obtain ⟨m1, m2, m3, m4, m5, m6, m7, m8, m9⟩ := m
  have bl := blE_at (tyN h) m2
  rw [m7]
  cases hg : s.2.1 with
  | true =>
    rw [m8 hg, n32_eq (by omega) (by omega)]
    exact ⟨fun z => ⟨rfl, z⟩, fun z => z.2⟩
  | false =>
    rcases m9 hg with y | ⟨x, x1, x2⟩
    · rw [y]
      exact ⟨fun z => absurd z (by rw [n32_eqm (by omega)]; exact fun q => q), fun z => by have := z.1; cases this⟩
    · rw [x2, n32_eq (by omega) (by omega)]
      exact ⟨fun z => by omega, fun z => by have := z.1; cases this⟩
