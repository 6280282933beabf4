/-! what is read is code that is well made, and no longer than what was passed -/
def rtl (L : Bool) : List Nat → List Nat → Option (List Nat)
  | [], st => some st
  | c :: r, st => (rty L c st).bind fun s' => if s'.length ≤ 60 then rtl L r s' else none
theorem rtl_app (L : Bool) : ∀ (d e st : List Nat), rtl L (d ++ e) st = (rtl L d st).bind fun s' => rtl L e s'
  | [], e, st => rfl
  | c :: r, e, st => by
    show (rty L c st).bind (fun s' => if s'.length ≤ 60 then rtl L (r ++ e) s' else none) = _
    rw [rtl]
    cases h : rty L c st with
    | none => rfl
    | some s' =>
      show (if s'.length ≤ 60 then rtl L (r ++ e) s' else none) = (if s'.length ≤ 60 then rtl L r s' else none).bind _
      by_cases y : s'.length ≤ 60
      · rw [if_pos y, if_pos y]
        exact rtl_app L r e s'
      · rw [if_neg y, if_neg y]
        rfl
theorem rtl_1 {L : Bool} {c : Nat} {st s' : List Nat} (h : rty L c st = some s') (l : s'.length ≤ 60) : rtl L [c] st = some s' := by
  rw [rtl, h]
  show (if s'.length ≤ 60 then rtl L [] s' else none) = _
  rw [if_pos l]
  rfl
/-- a reader of code that leaves one value of sort t and needs D places for it -/
def Pg (b : Nat → Nat) (n : Nat) (L : Bool) (t D : Nat) (f : PS → PR) : Prop := ∀ s s', s.1 ≤ n → f s = .inr s' → s.1 < s'.1 ∧ s'.1 ≤ n ∧ ∃ d, s'.2.2 = s.2.2 ++ d ∧ d.length + s.1 ≤ s'.1 ∧ ∀ st : List Nat, st.length + D ≤ 60 → rtl L d st = some (t :: st)
theorem Pg.wide {b : Nat → Nat} {n : Nat} {L : Bool} {t D D' : Nat} {f : PS → PR} (p : Pg b n L t D f) (h : D ≤ D') : Pg b n L t D' f := fun s s' h1 h2 => by
  obtain ⟨a, c, d, e1, e2, e3⟩ := p s s' h1 h2
  exact ⟨a, c, d, e1, e2, fun st hs => e3 st (by omega)⟩
/-- the same for what goes on behind a value that stands -/
def Pt (b : Nat → Nat) (n : Nat) (L : Bool) (t D : Nat) (f : PS → PR) : Prop := ∀ s s', s.1 ≤ n → f s = .inr s' → s.1 ≤ s'.1 ∧ s'.1 ≤ n ∧ ∃ d, s'.2.2 = s.2.2 ++ d ∧ d.length + s.1 ≤ s'.1 ∧ ∀ st : List Nat, st.length + 1 + D ≤ 60 → rtl L d (t :: st) = some (t :: st)
theorem nxt_pos (b : Nat → Nat) {n : Nat} {s : PS} (h : s.1 ≤ n) (z : tkT b n s.1 s.2.1 ≠ 1) : s.1 < (nxt b n s).1 ∧ (nxt b n s).1 ≤ n := by
  have := tkE_at b h s.2.1
  exact ⟨(this.2.2 z).1, this.2.1⟩
theorem pbd_inr {r : PR} {f : PS → PR} {s' : PS} (h : pbd r f = .inr s') : ∃ s, r = .inr s ∧ f s = .inr s' := by
  cases r with
  | inl e => cases h
  | inr s => exact ⟨s, rfl, h⟩
theorem lpB_g {b : Nat → Nat} {n : Nat} {L : Bool} {t D : Nat} {op : PS → Nat} {it : PS → PR} (hi : Pg b n L t D it) (ho : ∀ s, op s ≠ 0 → tkT b n s.1 s.2.1 ≠ 1 ∧ ∀ st : List Nat, rty L (op s) (t :: t :: st) = some (t :: st)) : ∀ f, Pt b n L t D (lpB b n op it f)
  | 0, s, s', h, e => by
    rw [lpB] at e
    cases e
    exact ⟨Nat.le_refl _, h, [], by rw [List.append_nil], Nat.le_of_eq (Nat.zero_add _), fun st _ => rfl⟩
  | f + 1, s, s', h, e => by
    rw [lpB] at e
    by_cases y : op s = 0
    · rw [if_pos y] at e
      cases e
      exact ⟨Nat.le_refl _, h, [], by rw [List.append_nil], Nat.le_of_eq (Nat.zero_add _), fun st _ => rfl⟩
    · rw [if_neg y] at e
      obtain ⟨s2, e1, e2⟩ := pbd_inr e
      obtain ⟨o1, o2⟩ := ho s y
      obtain ⟨a1, a2⟩ := nxt_pos b h o1
      obtain ⟨b1, b2, d, b3, b4, b5⟩ := hi _ _ a2 e1
      obtain ⟨c1, c2, d', c3, c4, c5⟩ := lpB_g hi ho f (pem (op s) s2) s' b2 e2
      refine ⟨by have : s2.1 ≤ s'.1 := c1; omega, c2, d ++ [op s] ++ d', ?_, ?_, fun st hs => ?_⟩
      · rw [c3]
        show s2.2.2 ++ [op s] ++ d' = _
        rw [b3]
        show s.2.2 ++ d ++ [op s] ++ d' = _
        simp only [List.append_assoc]
      · have c4' : d'.length + s2.1 ≤ s'.1 := c4
        simp only [List.length_append, List.length_cons, List.length_nil]
        omega
      · rw [rtl_app, rtl_app, b5 (t :: st) (by simp only [List.length_cons]; omega)]
        show ((rtl L [op s] (t :: t :: st)).bind fun s' => rtl L d' s') = _
        rw [rtl_1 (o2 st) (by simp only [List.length_cons]; omega)]
        exact c5 st hs
theorem chain_g {b : Nat → Nat} {n : Nat} {L : Bool} {t D : Nat} {f g : PS → PR} (hf : Pg b n L t D f) (hg : Pt b n L t D g) : Pg b n L t (D + 1) fun s => pbd (f s) g := fun s s' h e => by
  obtain ⟨s2, e1, e2⟩ := pbd_inr e
  obtain ⟨b1, b2, d, b3, b4, b5⟩ := hf _ _ h e1
  obtain ⟨c1, c2, d', c3, c4, c5⟩ := hg _ _ b2 e2
  refine ⟨by omega, c2, d ++ d', ?_, ?_, fun st hs => ?_⟩
  · rw [c3, b3, List.append_assoc]
  · rw [List.length_append]
    omega
  · rw [rtl_app, b5 st (by omega)]
    exact c5 st (by omega)
theorem wS_g {b : Nat → Nat} {n c : Nat} {s s' : PS} (h : s.1 ≤ n) (e : wS b n c s = .inr s') : s.1 < s'.1 ∧ s'.1 ≤ n ∧ s'.2.2 = s.2.2 := by
  unfold wS at e
  by_cases y : tkT b n s.1 s.2.1 = 4 ∧ tkV b n s.1 = c
  · rw [if_pos y] at e
    cases e
    obtain ⟨a, d⟩ := nxt_pos b h (by rw [y.1]; omega)
    exact ⟨a, d, rfl⟩
  · rw [if_neg y] at e
    cases e
theorem wI_t {b : Nat → Nat} {n : Nat} {s : PS} (h : wI b n s ≠ 27) : tkT b n s.1 s.2.1 = 2 := by
  unfold wI wIx at h
  by_cases y : tkT b n s.1 s.2.1 = 2
  · exact y
  · rw [if_neg y] at h
    exact absurd rfl h
theorem prd_g {b : Nat → Nat} {n : Nat} {L : Bool} {D : Nat} {pt : PS → PR} (h : Pg b n L 0 D pt) : Pg b n L 0 (D + 1) (prd b n pt) :=
  chain_g h (lpB_g h (fun s y => by
    unfold opP at y ⊢
    by_cases a : tkT b n s.1 s.2.1 = 4 ∧ tkV b n s.1 = 42
    · rw [if_pos a]
      exact ⟨by rw [a.1]; omega, fun st => rfl⟩
    · rw [if_neg a] at y ⊢
      by_cases c : tkT b n s.1 s.2.1 = 4 ∧ tkV b n s.1 = 47
      · rw [if_pos c]
        exact ⟨by rw [c.1]; omega, fun st => rfl⟩
      · rw [if_neg c] at y
        exact absurd rfl y) 1600)
theorem smm_g {b : Nat → Nat} {n : Nat} {L : Bool} {D : Nat} {pt : PS → PR} (h : Pg b n L 0 D pt) : Pg b n L 0 (D + 2) (smm b n pt) :=
  chain_g (prd_g h) (lpB_g (prd_g h) (fun s y => by
    unfold opA at y ⊢
    by_cases a : tkT b n s.1 s.2.1 = 4 ∧ tkV b n s.1 = 43
    · rw [if_pos a]
      exact ⟨by rw [a.1]; omega, fun st => rfl⟩
    · rw [if_neg a] at y ⊢
      by_cases c : tkT b n s.1 s.2.1 = 4 ∧ tkV b n s.1 = 45
      · rw [if_pos c]
        exact ⟨by rw [c.1]; omega, fun st => rfl⟩
      · rw [if_neg c] at y
        exact absurd rfl y) 1600)
theorem pair_g {b : Nat → Nat} {n : Nat} {L : Bool} {D c : Nat} {pt : PS → PR} (h : Pg b n L 0 D pt) (hc : c = 5 ∨ c = 6) {s s' : PS} (hs : s.1 ≤ n) (t : tkT b n s.1 s.2.1 ≠ 1) (e : pair b n (some pt) c s = .inr s') :
    s.1 < s'.1 ∧ s'.1 ≤ n ∧ ∃ d, s'.2.2 = s.2.2 ++ d ∧ d.length + s.1 ≤ s'.1 ∧ ∀ st : List Nat, st.length + (D + 3) ≤ 60 → rtl L d st = some (0 :: st) := by
  unfold pair at e
  obtain ⟨a1, a2⟩ := nxt_pos b hs t
  by_cases y : tkT b n (nxt b n s).1 (nxt b n s).2.1 = 4 ∧ tkV b n (nxt b n s).1 = 40
  · rw [if_pos y] at e
    obtain ⟨a3, a4⟩ := nxt_pos b a2 (by rw [y.1]; omega)
    obtain ⟨s2, e2, e⟩ := pbd_inr e
    obtain ⟨s3, e3, e⟩ := pbd_inr e
    obtain ⟨s4, e4, e⟩ := pbd_inr e
    obtain ⟨s5, e5, e⟩ := pbd_inr e
    cases e
    obtain ⟨b1, b2, d, b3, b4, b5⟩ := smm_g h _ _ a4 e2
    obtain ⟨c1, c2, c3⟩ := wS_g b2 e3
    obtain ⟨d1, d2, d', d3, d4, d5⟩ := smm_g h _ _ c2 e4
    obtain ⟨f1, f2, f3⟩ := wS_g d2 e5
    refine ⟨by show s.1 < s5.1; omega, f2, d ++ d' ++ [c], ?_, ?_, fun st hst => ?_⟩
    · show s5.2.2 ++ [c] = _
      rw [f3, d3, c3, b3]
      show s.2.2 ++ d ++ d' ++ [c] = _
      simp only [List.append_assoc]
    · show _ ≤ s5.1
      simp only [List.length_append, List.length_cons, List.length_nil]
      omega
    · rw [rtl_app, rtl_app, b5 st (by omega)]
      show ((rtl L d' (0 :: st)).bind fun s' => rtl L [c] s') = _
      rw [d5 (0 :: st) (by simp only [List.length_cons]; omega)]
      show rtl L [c] (0 :: 0 :: st) = _
      rcases hc with rfl | rfl
      · exact rtl_1 rfl (by simp only [List.length_cons]; omega)
      · exact rtl_1 rfl (by simp only [List.length_cons]; omega)
  · rw [if_neg y] at e
    cases e
theorem vcN_rty {L : Bool} {j : Nat} (h : vcN L j ≠ 0) (st : List Nat) : rty L (vcN L j) st = some (0 :: st) := by
  unfold vcN at h ⊢
  cases L with
  | true =>
    repeat' split at h
    all_goals first
      | exact absurd rfl h
      | (simp_all; done)
      | (simp_all [rty]; done)
  | false =>
    repeat' split at h
    all_goals first
      | exact absurd rfl h
      | (simp_all; done)
      | (simp_all [rty]; done)
theorem wNum_g {b : Nat → Nat} {n lo hi v : Nat} {s s' : PS} (h : s.1 ≤ n) (e : wNum b n lo hi s = .inr (v, s')) : v = tkV b n s.1 ∧ lo ≤ v ∧ v ≤ hi ∧ s' = nxt b n s ∧ tkT b n s.1 s.2.1 = 3 := by
  unfold wNum at e
  by_cases y : tkT b n s.1 s.2.1 ≠ 3
  · rw [if_pos y] at e
    cases e
  · rw [if_neg y] at e
    by_cases z : 4 < tkZ b n s.1
    · rw [if_pos z] at e
      cases e
    · rw [if_neg z] at e
      by_cases w : tkV b n s.1 < lo ∨ hi < tkV b n s.1
      · rw [if_pos w] at e
        cases e
      · rw [if_neg w] at e
        cases e
        exact ⟨rfl, by omega, by omega, rfl, by omega⟩
theorem prt_g {b : Nat → Nat} {n : Nat} {L : Bool} {D : Nat} {sub : Option (PS → PR)} (h : ∀ pt, sub = some pt → Pg b n L 0 D pt) : Pg b n L 0 (D + 3) (prt b n L sub) := fun s s' hs e => by
  unfold prt at e
  have one : ∀ (c : Nat) (q : PS), (∀ st : List Nat, rty L c st = some (0 :: st)) → q = nxt b n s → tkT b n s.1 s.2.1 ≠ 1 → s' = pem c q → s.1 < s'.1 ∧ s'.1 ≤ n ∧ ∃ d, s'.2.2 = s.2.2 ++ d ∧ d.length + s.1 ≤ s'.1 ∧ ∀ st : List Nat, st.length + (D + 3) ≤ 60 → rtl L d st = some (0 :: st) := fun c q r eq t es => by
    obtain ⟨a1, a2⟩ := nxt_pos b hs t
    rw [es, eq]
    exact ⟨a1, a2, [c], rfl, by show 1 + s.1 ≤ _; exact (by omega : 1 + s.1 ≤ (nxt b n s).1), fun st hst => rtl_1 (r st) (by simp only [List.length_cons]; omega)⟩
  by_cases y3 : tkT b n s.1 s.2.1 = 3
  · rw [if_pos y3] at e
    cases hw : wNum b n 0 9999 s with
    | inl x => rw [hw] at e; cases e
    | inr v =>
      rw [hw] at e
      cases e
      obtain ⟨w1, w2, w3, w4, w5⟩ := wNum_g (v := v.1) (s' := v.2) hs hw
      exact one (1000 + v.1) v.2 (fun st => by
        unfold rty
        rw [if_pos (by omega), if_pos (by omega)]) w4 (by rw [y3]; omega) rfl
  · rw [if_neg y3] at e
    by_cases y4 : tkT b n s.1 s.2.1 = 4 ∧ tkV b n s.1 = 40
    · rw [if_pos y4] at e
      cases hsub : sub with
      | none => rw [hsub] at e; cases e
      | some pt =>
        rw [hsub] at e
        obtain ⟨a1, a2⟩ := nxt_pos b hs (by rw [y4.1]; omega)
        obtain ⟨s2, e2, e⟩ := pbd_inr e
        obtain ⟨b1, b2, d, b3, b4, b5⟩ := smm_g (h pt hsub) _ _ a2 e2
        obtain ⟨c1, c2, c3⟩ := wS_g b2 e
        exact ⟨by omega, c2, d, by rw [c3, b3]; rfl, by omega, fun st hst => b5 st (by omega)⟩
    · rw [if_neg y4] at e
      have two : ∀ c, c = 5 ∨ c = 6 → wI b n s ≠ 27 → pair b n sub c s = .inr s' → s.1 < s'.1 ∧ s'.1 ≤ n ∧ ∃ d, s'.2.2 = s.2.2 ++ d ∧ d.length + s.1 ≤ s'.1 ∧ ∀ st : List Nat, st.length + (D + 3) ≤ 60 → rtl L d st = some (0 :: st) := fun c hc w e => by
        have t := wI_t w
        cases hsub : sub with
        | none =>
          rw [hsub] at e
          unfold pair at e
          split at e <;> cases e
        | some pt =>
          rw [hsub] at e
          exact pair_g (h pt hsub) hc hs (by rw [t]; omega) e
      by_cases w20 : wI b n s = 20
      · rw [if_pos w20] at e
        exact two 5 (Or.inl rfl) (by omega) e
      · rw [if_neg w20] at e
        by_cases w21 : wI b n s = 21
        · rw [if_pos w21] at e
          exact two 6 (Or.inr rfl) (by omega) e
        · rw [if_neg w21] at e
          by_cases w8 : wI b n s = 8 ∧ L = false
          · rw [if_pos w8] at e
            have t := wI_t (show wI b n s ≠ 27 by omega)
            cases hsub : sub with
            | none => rw [hsub] at e; cases e
            | some pt =>
              rw [hsub] at e
              obtain ⟨a1, a2⟩ := nxt_pos b hs (by rw [t]; omega)
              obtain ⟨s2, e2, e⟩ := pbd_inr e
              cases e
              obtain ⟨b1, b2, d, b3, b4, b5⟩ := (h pt hsub) _ _ a2 e2
              refine ⟨by show s.1 < s2.1; omega, b2, d ++ [60], ?_, ?_, fun st hst => ?_⟩
              · show s2.2.2 ++ [60] = _
                rw [b3, List.append_assoc]
                rfl
              · show _ ≤ s2.1
                simp only [List.length_append, List.length_cons, List.length_nil]
                omega
              · rw [rtl_app, b5 st (by omega)]
                show rtl L [60] (0 :: st) = _
                refine rtl_1 ?_ (by simp only [List.length_cons]; omega)
                rw [w8.2]
                rfl
          · rw [if_neg w8] at e
            by_cases v0 : vcN L (wI b n s) = 0
            · rw [if_pos v0] at e
              cases e
            · rw [if_neg v0] at e
              cases e
              refine one _ _ (vcN_rty v0) rfl ?_ rfl
              have w : wI b n s ≠ 27 := fun z => by
                rw [z] at v0
                refine v0 ?_
                unfold vcN
                cases L <;> rfl
              rw [wI_t w]
              omega
theorem lvP_g (b : Nat → Nat) (n : Nat) (L : Bool) : ∀ k, Pg b n L 0 (3 * k + 3) (lvP b n L k)
  | 0 => prt_g (D := 0) fun pt h => by cases h
  | k + 1 => by
    have h := lvP_g b n L k
    refine (prt_g (D := 3 * k + 3) fun pt e => ?_).wide (by omega)
    cases e
    exact h
theorem both_g {b : Nat → Nat} {n : Nat} {L : Bool} {D : Nat} {fc : PS → PR} (h : Pg b n L 1 D fc) : Pg b n L 1 (D + 1) (both b n fc) :=
  chain_g h (lpB_g h (fun s y => by
    unfold opN at y ⊢
    by_cases a : wI b n s = 17
    · rw [if_pos a]
      exact ⟨by rw [wI_t (show wI b n s ≠ 27 by omega)]; omega, fun st => rfl⟩
    · rw [if_neg a] at y
      exact absurd rfl y) 1600)
theorem tst_g {b : Nat → Nat} {n : Nat} {L : Bool} {D : Nat} {fc : PS → PR} (h : Pg b n L 1 D fc) : Pg b n L 1 (D + 2) (tst b n fc) :=
  chain_g (both_g h) (lpB_g (both_g h) (fun s y => by
    unfold opO at y ⊢
    by_cases a : wI b n s = 16
    · rw [if_pos a]
      exact ⟨by rw [wI_t (show wI b n s ≠ 27 by omega)]; omega, fun st => rfl⟩
    · rw [if_neg a] at y
      exact absurd rfl y) 1600)
theorem fct_g {b : Nat → Nat} {n : Nat} {L : Bool} {D E : Nat} {sub : Option (PS → PR)} {sm : PS → PR} (h : ∀ fc, sub = some fc → Pg b n L 1 D fc) (hm : Pg b n L 0 E sm) (de : E + 1 ≤ D + 2) : Pg b n L 1 (D + 2) (fct b n sub sm) := fun s s' hs e => by
  unfold fct at e
  by_cases w18 : wI b n s = 18
  · rw [if_pos w18] at e
    have t := wI_t (show wI b n s ≠ 27 by omega)
    cases hsub : sub with
    | none => rw [hsub] at e; cases e
    | some fc =>
      rw [hsub] at e
      obtain ⟨a1, a2⟩ := nxt_pos b hs (by rw [t]; omega)
      obtain ⟨s2, e2, e⟩ := pbd_inr e
      cases e
      obtain ⟨b1, b2, d, b3, b4, b5⟩ := (h fc hsub) _ _ a2 e2
      refine ⟨by show s.1 < s2.1; omega, b2, d ++ [12], ?_, ?_, fun st hst => ?_⟩
      · show s2.2.2 ++ [12] = _
        rw [b3, List.append_assoc]
        rfl
      · show _ ≤ s2.1
        simp only [List.length_append, List.length_cons, List.length_nil]
        omega
      · rw [rtl_app, b5 st (by omega)]
        show rtl L [12] (1 :: st) = _
        exact rtl_1 rfl (by simp only [List.length_cons]; omega)
  · rw [if_neg w18] at e
    by_cases y4 : tkT b n s.1 s.2.1 = 4 ∧ tkV b n s.1 = 91
    · rw [if_pos y4] at e
      cases hsub : sub with
      | none => rw [hsub] at e; cases e
      | some fc =>
        rw [hsub] at e
        obtain ⟨a1, a2⟩ := nxt_pos b hs (by rw [y4.1]; omega)
        obtain ⟨s2, e2, e⟩ := pbd_inr e
        obtain ⟨b1, b2, d, b3, b4, b5⟩ := tst_g (h fc hsub) _ _ a2 e2
        obtain ⟨c1, c2, c3⟩ := wS_g b2 e
        exact ⟨by omega, c2, d, by rw [c3, b3]; rfl, by omega, fun st hst => b5 st (by omega)⟩
    · rw [if_neg y4] at e
      by_cases w19 : wI b n s = 19
      · rw [if_pos w19] at e
        cases e
        obtain ⟨a1, a2⟩ := nxt_pos b hs (by rw [wI_t (show wI b n s ≠ 27 by omega)]; omega)
        exact ⟨a1, a2, [13], rfl, by show 1 + s.1 ≤ _; exact (by omega : 1 + s.1 ≤ (nxt b n s).1), fun st hst => rtl_1 rfl (by simp only [List.length_cons]; omega)⟩
      · rw [if_neg w19] at e
        obtain ⟨s1, e1, e⟩ := pbd_inr e
        obtain ⟨b1, b2, d, b3, b4, b5⟩ := hm _ _ hs e1
        by_cases o : opC b n s1 = 0
        · rw [if_pos o] at e
          cases e
        · rw [if_neg o] at e
          obtain ⟨s2, e2, e⟩ := pbd_inr e
          cases e
          have oc : tkT b n s1.1 s1.2.1 = 4 ∧ (opC b n s1 = 7 ∨ opC b n s1 = 8 ∨ opC b n s1 = 9) := by
            unfold opC at o ⊢
            by_cases a : tkT b n s1.1 s1.2.1 = 4 ∧ tkV b n s1.1 = 60
            · rw [if_pos a]; exact ⟨a.1, Or.inl rfl⟩
            · rw [if_neg a] at o ⊢
              by_cases a2 : tkT b n s1.1 s1.2.1 = 4 ∧ tkV b n s1.1 = 62
              · rw [if_pos a2]; exact ⟨a2.1, Or.inr (Or.inl rfl)⟩
              · rw [if_neg a2] at o ⊢
                by_cases a3 : tkT b n s1.1 s1.2.1 = 4 ∧ tkV b n s1.1 = 61
                · rw [if_pos a3]; exact ⟨a3.1, Or.inr (Or.inr rfl)⟩
                · rw [if_neg a3] at o
                  exact absurd rfl o
          obtain ⟨a1, a2⟩ := nxt_pos b b2 (by rw [oc.1]; omega)
          obtain ⟨c1, c2, d', c3, c4, c5⟩ := hm _ _ a2 e2
          refine ⟨by show s.1 < s2.1; omega, c2, d ++ d' ++ [opC b n s1], ?_, ?_, fun st hst => ?_⟩
          · show s2.2.2 ++ [opC b n s1] = _
            rw [c3]
            show s1.2.2 ++ d' ++ _ = _
            rw [b3]
            simp only [List.append_assoc]
          · show _ ≤ s2.1
            simp only [List.length_append, List.length_cons, List.length_nil]
            omega
          · rw [rtl_app, rtl_app, b5 st (by omega)]
            show ((rtl L d' (0 :: st)).bind fun s' => rtl L [opC b n s1] s') = _
            rw [c5 (0 :: st) (by simp only [List.length_cons]; omega)]
            show rtl L [opC b n s1] (0 :: 0 :: st) = _
            rcases oc.2 with z | z | z
            · rw [z]; exact rtl_1 rfl (by simp only [List.length_cons]; omega)
            · rw [z]; exact rtl_1 rfl (by simp only [List.length_cons]; omega)
            · rw [z]; exact rtl_1 rfl (by simp only [List.length_cons]; omega)
theorem lvF_g (b : Nat → Nat) (n : Nat) (L : Bool) : ∀ k, Pg b n L 1 (5 * k + 7) (lvF b n L k)
  | 0 => (fct_g (D := 4) (E := 5) (fun fc h => by cases h) (smm_g (lvP_g b n L 0)) (by omega)).wide (by omega)
  | k + 1 => by
    have h := lvF_g b n L k
    refine (fct_g (D := 5 * k + 7) (E := 3 * (k + 1) + 3 + 2) (fun fc e => ?_) (smm_g (lvP_g b n L (k + 1))) (by omega)).wide (by omega)
    cases e
    exact h
