/-! the class reads parts, facts and tests, so many opened -/
theorem one_add (k : Nat) (hk : k ≤ 6) (k0 : k ≠ 0) : Int32.ofNat (6 - k) + (1 : Int32) = Int32.ofNat (6 - (k - 1)) := by
  rw [n32_addl, show 6 - k + 1 = 6 - (k - 1) by omega]
theorem x_part {h : KH} {n cv k N D : Nat} {L : Bool} {sub : Option (PS → PR)} (ht : Rtape h) (n16 : n ≤ 1600) (hk : k ≤ 6) (h0 : k = 0 → sub = none) (hs : k ≠ 0 → ∃ pt, sub = some pt ∧ XQ h n cv L (f_X4_rec (N + 1)) 3 (Int32.ofNat (6 - (k - 1))) 0 (smm (tyN h) n pt) ∧ XQ h n cv L (f_X4_rec N) 3 (Int32.ofNat (6 - (k - 1))) 0 (smm (tyN h) n pt) ∧ XQ h n cv L (f_X4_rec (N + 1)) 5 (Int32.ofNat (6 - (k - 1))) 0 pt ∧ Pg (tyN h) n L 0 D pt) : XQ h n cv L (f_X4_rec (N + 1 + 1)) 5 (Int32.ofNat (6 - k)) 0 (prt (tyN h) n L sub) := fun g r x => by
  have rg := x.kR
  have ck := cv_k x.2.1.2.2
  have c9 : cv < 999999 := by omega
  have gc : kR g 10 1 = cv := x.2.1.1
  rw [rc_5]
  unfold fb_X4_readPart
  rw [if_pos kk10, rf10_0 rg, if_pos (show 8 < 999999 by omega), if_pos kk8]
  -- a value's word, or what fits nowhere
  have b140 : ∀ w, w ≤ 27 → (r = .inl (0, 0) → True) → (∀ s, r = .inr s → wI (tyN h) n s = w) → (∀ e, r = .inl e → w = 27) → ∃ g', f_X4_readPart_b140 (f_X4_rec (N + 1)) g 10 (if w = 27 then (-1 : Int32) else Int32.ofNat w) = some g' ∧ kfp (Wg cv) g g' ∧ Gx h g' n cv L (pbd r fun s => if vcN L w = 0 then pft (tyN h) n 1 s else .inr (pem (vcN L w) (nxt (tyN h) n s))) := fun w w27 _ hw he => by
    unfold f_X4_readPart_b140
    rw [if_pos kk10, x_isValue x w27, kb_s]
    by_cases v : vcN L w = 0
    · obtain ⟨g', e, f, y⟩ := x_stopG (k := 1) ht n16 x
      have e' : f_X7_stop g 8 (1 : Int32) (kI g 8 4) = some g' := e
      rw [if_pos v, if_pos rfl, rf10_0 rg, if_pos (show 8 < 999999 by omega), if_pos kk8, e', kb_s]
      refine ⟨g', rfl, f, ?_⟩
      cases r with
      | inl e => exact y
      | inr s =>
        rw [pbd_r, if_pos v]
        exact y
    · cases r with
      | inl e =>
        exfalso
        rw [he e rfl] at v
        refine v ?_
        unfold vcN
        cases L <;> rfl
      | inr s =>
        have es := hw s rfl
        have w26 : w < 27 := by
          refine Classical.byContradiction fun z => v ?_
          rw [show w = 27 by omega]
          unfold vcN
          cases L <;> rfl
        obtain ⟨g1, e1, f1, x1⟩ := x_nextG ht n16 x
        obtain ⟨l1, l2⟩ := x.len
        have tw := wI_t (b := tyN h) (n := n) (s := s) (by omega)
        obtain ⟨a1, a2⟩ := nxt_pos (tyN h) l2 (by rw [tw]; omega)
        obtain ⟨g2, e2, f2, x2⟩ := x_emitW (c := vcN L w) n16 (vcN_cs L w w26 v) x1 fun s' q => by
          cases q
          show s.2.2.length + 1 ≤ _
          omega
        rw [if_neg v, if_neg (by decide), rf10_0 rg, if_pos (show 8 < 999999 by omega), if_pos kk8, e1, kb_s, x1.2.1.1, if_pos c9, if_pos ck.1, if_neg (show ¬ w = 27 by omega), e2, kb_s]
        refine ⟨g2, rfl, f1.tr f2, ?_⟩
        rw [pbd_r, if_neg v]
        exact x2
  cases r with
  | inl e =>
    obtain ⟨g', k1, k2, k3⟩ := b140 27 (by omega) (fun _ => trivial) (fun s q => by cases q) (fun _ _ => rfl)
    have k1' : f_X4_readPart_b140 (f_X4_rec (N + 1)) g 10 (-1 : Int32) = some g' := k1
    rw [x_wordHere_l x.1, kb_s, x.1.2.1, if_neg (by decide), x_isAtSign_l x.1, kb_s, if_pos rfl, if_neg (by decide), if_neg (by decide), if_neg (by decide), k1']
    exact ⟨g', rfl, k2, k3⟩
  | inr s =>
    obtain ⟨l1, l2⟩ := x.len
    have tb := tk_b ht n16 l2 s.2.1
    have c3 := x.1.2.2.1.2.1
    obtain ⟨w, hw⟩ : ∃ w, wI (tyN h) n s = w := ⟨_, rfl⟩
    have w27 : w ≤ 27 := by rw [← hw]; exact wI_le _ _ _
    rw [x_wordHere ht n16 x.1, kb_s, c3, pbd_r]
    unfold prt
    rw [hw]
    by_cases y3 : tkT (tyN h) n s.1 s.2.1 = 3
    · obtain ⟨v, g1, e1, f1, x1, ev⟩ := x_takeNumber (lo := 0) (hi := 9999) ht n16 (by omega) (by omega) x.1
      have e1' : f_X7_takeNumber g 8 (0 : Int32) (9999 : Int32) = some (v, g1) := e1
      rw [if_pos (by rw [y3]; rfl), if_pos y3, gc, if_pos c9, e1', kb_s]
      dsimp only
      have x1' : Gx h g1 n cv L (nbd (wNum (tyN h) n 0 9999 s)) := x.mv n16 f1 x1 fun s' q => by
        cases hn : wNum (tyN h) n 0 9999 s with
        | inl e => rw [hn] at q; cases q
        | inr u =>
          rw [hn] at q
          cases q
          obtain ⟨-, -, -, u4, -⟩ := wNum_g (v := u.1) (s' := u.2) l2 hn
          refine ⟨s, rfl, by rw [u4]; rfl, ?_⟩
          rw [u4]
          exact (tkE_at (tyN h) l2 s.2.1).1
      cases hn : wNum (tyN h) n 0 9999 s with
      | inl e =>
        rw [hn] at x1'
        obtain ⟨g2, e2, f2, x2⟩ := x_emit (c := 0) (v := v) n16 x1' fun s' q => by cases q
        rw [if_pos ck.1, e2, kb_s]
        exact ⟨g2, rfl, (Wg.of8 f1).tr f2, x2⟩
      | inr u =>
        rw [hn] at x1'
        obtain ⟨u1, u2, u3, u4, u5⟩ := wNum_g (v := u.1) (s' := u.2) l2 hn
        obtain ⟨a1, a2⟩ := nxt_pos (tyN h) l2 (by rw [y3]; omega)
        have vv := ev u.1 u.2 hn
        obtain ⟨g2, e2, f2, x2⟩ := x_emit (c := 1000 + u.1) (v := v) n16 x1' fun s' q => by
          cases q
          refine ⟨?_, ?_⟩
          · rw [vv]
            unfold csI
            rw [if_pos (by omega), show 1000 + u.1 - 1000 = u.1 by omega]
          · rw [u4]
            show s.2.2.length + 1 ≤ _
            omega
        rw [if_pos ck.1, e2, kb_s]
        exact ⟨g2, rfl, (Wg.of8 f1).tr f2, x2⟩
    · have es : f_X7_isAtSign g 8 (40 : Int32) = some (if tkT (tyN h) n s.1 s.2.1 = 4 ∧ tkV (tyN h) n s.1 = 40 then 1 else 0) := x_isAtSign (c := 40) ht n16 (by omega) x.1
      rw [if_neg (by rw [n32_eql (by omega) (by omega)]; exact y3), if_neg y3, es, kb_s, if10]
      by_cases y4 : tkT (tyN h) n s.1 s.2.1 = 4 ∧ tkV (tyN h) n s.1 = 40
      · rw [if_pos y4, if_pos y4]
        obtain ⟨g2, e2, f2, x2⟩ := x_opens ht n16 hk x
        rw [e2, kb_s]
        dsimp only
        by_cases z : k = 0
        · rw [if_pos z] at x2
          rw [if_pos z, if_pos rfl, h0 z]
          exact ⟨g2, rfl, f2, x2⟩
        · rw [if_neg z] at x2
          obtain ⟨pt, ept, hX, -, -, -⟩ := hs z
          rw [if_neg z, if_neg (by decide), ept]
          dsimp only
          obtain ⟨g3, e3, f3, x3⟩ := hX g2 _ x2
          obtain ⟨g4, e4, f4, x4⟩ := x_takeSignG (c := 41) ht n16 (by omega) x3
          have e4' : f_X7_takeSign g3 8 (41 : Int32) = some g4 := e4
          rw [one_add k hk z, e3, kb_s, rf10_0 x3.kR, if_pos (show 8 < 999999 by omega), if_pos kk8, e4', kb_s]
          exact ⟨g4, rfl, (f2.tr f3).tr f4, x4⟩
      · rw [if_neg y4, if_neg y4]
        have lit : ∀ j, j < 27 → (((if w = 27 then (-1 : Int32) else Int32.ofNat w) = Int32.ofNat j) ↔ w = j) := fun j hj => wI_lit w27 hj
        have i20 : ((if w = 27 then (-1 : Int32) else Int32.ofNat w) = (20 : Int32)) ↔ w = 20 := lit 20 (by omega)
        have i21 : ((if w = 27 then (-1 : Int32) else Int32.ofNat w) = (21 : Int32)) ↔ w = 21 := lit 21 (by omega)
        have i8 : ((if w = 27 then (-1 : Int32) else Int32.ofNat w) = (8 : Int32)) ↔ w = 8 := lit 8 (by omega)
        have two : ∀ j c, w = j → j < 27 → (-1 : Int32) - Int32.ofNat j = csI c → ∃ g', f_X4_readPart_b91 (f_X4_rec (N + 1)) g 10 (Int32.ofNat (6 - k)) (if w = 27 then (-1 : Int32) else Int32.ofNat w) = some g' ∧ kfp (Wg cv) g g' ∧ Gx h g' n cv L (pair (tyN h) n sub c s) := fun j c ej hj ec => by
          have tw := wI_t (b := tyN h) (n := n) (s := s) (by omega)
          obtain ⟨g', e1, f1, x1⟩ := x_pairG (N := N) (D := D + 2) ht n16 hk h0 (fun z => by
            obtain ⟨pt, ept, -, hX, -, hPg⟩ := hs z
            exact ⟨pt, ept, hX, smm_g hPg⟩) ec x (by rw [tw]; omega)
          refine ⟨g', ?_, f1, x1⟩
          unfold f_X4_readPart_b91
          rw [if_pos kk10, if_neg (show ¬ w = 27 by omega), ej, e1, kb_s]
        by_cases w20 : w = 20
        · rw [if_pos (i20.mpr w20), if_pos w20]
          exact two 20 5 w20 (by omega) rfl
        · rw [if_neg (fun z => w20 (i20.mp z)), if_neg w20]
          by_cases w21 : w = 21
          · rw [if_pos (i21.mpr w21), if_pos w21]
            exact two 21 6 w21 (by omega) rfl
          · rw [if_neg (fun z => w21 (i21.mp z)), if_neg w21]
            obtain ⟨g', k1, k2, k3⟩ := b140 w w27 (fun _ => trivial) (fun s' q => by cases q; exact hw) (fun e q => by cases q)
            rw [pbd_r] at k3
            by_cases w8 : w = 8
            · rw [if_pos (i8.mpr w8), x.2.1.2.1]
              cases L with
              | true =>
                rw [if_pos rfl, if_pos rfl, k1, if_neg (fun z => by have := z.2; cases this)]
                exact ⟨g', rfl, k2, k3⟩
              | false =>
                have ff : ¬ ((false : Bool) = true) := by decide
                rw [if_neg ff, if_neg (by decide), if_pos ⟨w8, rfl⟩]
                obtain ⟨g2, e2, f2, x2⟩ := x_opens ht n16 hk x
                rw [e2, kb_s]
                dsimp only
                by_cases z : k = 0
                · rw [if_pos z] at x2
                  rw [if_pos z, if_pos rfl, h0 z]
                  exact ⟨g2, rfl, f2, x2⟩
                · rw [if_neg z] at x2
                  obtain ⟨pt, ept, -, -, hX, hPg⟩ := hs z
                  have tw := wI_t (b := tyN h) (n := n) (s := s) (by omega)
                  rw [if_neg z, if_neg (by decide), ept]
                  dsimp only
                  obtain ⟨g3, e3, f3, x3⟩ := hX g2 _ x2
                  rw [pbd_r] at x3
                  obtain ⟨g4, e4, f4, x4⟩ := x_emitW (c := 60) (v := 8) n16 rfl x3 fun s' q => pg_room hPg l2 l1 (by rw [tw]; omega) q
                  rw [one_add k hk z, e3, kb_s, x3.2.1.1, if_pos c9, if_pos ck.1, e4, kb_s]
                  exact ⟨g4, rfl, (f2.tr f3).tr f4, x4⟩
            · rw [if_neg (fun z => w8 (i8.mp z)), k1, if_neg (fun z => w8 z.1)]
              exact ⟨g', rfl, k2, k3⟩
/-- all that reads parts and sums, so many opened -/
theorem x_lvP {h : KH} {n cv : Nat} {L : Bool} (ht : Rtape h) (n16 : n ≤ 1600) : ∀ k, k ≤ 6 → ∀ N, 4 * k + 4 ≤ N → XQ h n cv L (f_X4_rec N) 5 (Int32.ofNat (6 - k)) 0 (lvP (tyN h) n L k) ∧ XQ h n cv L (f_X4_rec N) 3 (Int32.ofNat (6 - k)) 0 (smm (tyN h) n (lvP (tyN h) n L k))
  | 0, hk, N, hN => by
    have P : ∀ M, 2 ≤ M → XQ h n cv L (f_X4_rec M) 5 (Int32.ofNat (6 - 0)) 0 (lvP (tyN h) n L 0) := fun M hM => by
      obtain ⟨M', rfl⟩ : ∃ M', M = M' + 1 + 1 := ⟨M - 2, by omega⟩
      exact x_part (N := M') (D := 0) ht n16 hk (fun _ => rfl) (fun z => absurd rfl z)
    obtain ⟨N', rfl⟩ : ∃ N', N = N' + 1 + 1 := ⟨N - 2, by omega⟩
    exact ⟨P _ (by omega), x_sum ht n16 (x_product ht n16 (P N' (by omega)) (lvP_g _ _ _ 0)) (prd_g (lvP_g _ _ _ 0))⟩
  | k + 1, hk, N, hN => by
    have P : ∀ M, 4 * k + 6 ≤ M → XQ h n cv L (f_X4_rec M) 5 (Int32.ofNat (6 - (k + 1))) 0 (lvP (tyN h) n L (k + 1)) := fun M hM => by
      obtain ⟨M', rfl⟩ : ∃ M', M = M' + 1 + 1 := ⟨M - 2, by omega⟩
      exact x_part (N := M') (D := 3 * k + 3) (sub := some (lvP (tyN h) n L k)) ht n16 hk (fun z => absurd z (by omega)) (fun _ => ⟨_, rfl, (x_lvP ht n16 k (by omega) (M' + 1) (by omega)).2, (x_lvP ht n16 k (by omega) M' (by omega)).2, (x_lvP ht n16 k (by omega) (M' + 1) (by omega)).1, lvP_g _ _ _ k⟩)
    obtain ⟨N', rfl⟩ : ∃ N', N = N' + 1 + 1 := ⟨N - 2, by omega⟩
    exact ⟨P _ (by omega), x_sum ht n16 (x_product ht n16 (P N' (by omega)) (lvP_g _ _ _ (k + 1))) (prd_g (lvP_g _ _ _ (k + 1)))⟩
/-- loops over one word -/
theorem x_words {h : KH} {n cv o D N tag c1 j : Nat} {L : Bool} {it : PS → PR} {op : PS → Nat} (ht : Rtape h) (n16 : n ≤ 1600) (hI : XQ h n cv L (f_X4_rec N) tag (Int32.ofNat o) 0 it) (pg : Pg (tyN h) n L 1 D it) (hj : j < 27) (hop : ∀ s, op s = if wI (tyN h) n s = j then c1 else 0) (k1 : (-1 : Int32) - Int32.ofNat j = csI c1) (z1 : c1 ≠ 0)
    {body : Int32 × KH → Option ((Int32 × KH) ⊕ KH)}
    (hb : ∀ g k, kRefs g → body (Int32.ofNat k, g) = if (1600 : Int32) ≤ Int32.ofNat k then some (.inr g) else kb (f_X7_isAt g 8 (Int32.ofNat j)) fun r5 => if r5 = 0 then some (.inr g) else kb (f_X7_next g 8) fun r9 => kb (f_X4_rec N tag r9 10 (Int32.ofNat o) 0) fun r13 => if (kR r13 10 1) < 999999 then if kkind (kR r13 10 1) = 1 then kb (f_X1_addWord r13 (kR r13 10 1) (Int32.ofNat j)) fun r19 => kl (Int32.ofNat k + (1 : Int32)) fun x23 => some (.inl (x23, r19)) else none else none)
    (hb0 : ∀ g, body (Int32.ofNat 1600, g) = some (.inr g))
    {g : KH} {r : PR} (x : Gx h g n cv L r) : ∃ g', kloop body KF ((0 : Int32), g) = some g' ∧ kfp (Wg cv) g g' ∧ Gx h g' n cv L (pbd r (lpB (tyN h) n op it 1600)) := by
  refine lpX body (fun k q r' hk y hy => ?_) (fun k q s hk y hy => ?_) hb0 x
  · rw [hb q k y.kR, if_neg (by rw [n32_ler (by omega) (by omega)]; omega)]
    cases r' with
    | inl e => rw [x_isAt_l y.1, kb_s, if_pos rfl]
    | inr s =>
      have o0 := hy s rfl
      rw [hop] at o0
      by_cases a : wI (tyN h) n s = j
      · rw [if_pos a] at o0
        exact absurd o0 z1
      · rw [x_isAt ht n16 hj y.1, kb_s, if10, if_neg a]
  · rw [hop] at hy ⊢
    by_cases a : wI (tyN h) n s = j
    · obtain ⟨q1, e1, f1, y1⟩ := x_nextG ht n16 y
      obtain ⟨q2, e2, f2, y2⟩ := hI q1 _ y1
      rw [pbd_r] at y2
      obtain ⟨l1, l2⟩ := y.len
      have tw := wI_t (b := tyN h) (n := n) (s := s) (by omega)
      obtain ⟨q3, e3, f3, y3⟩ := x_emitW n16 k1 y2 fun s' es => pg_room pg l2 l1 (by rw [tw]; omega) es
      have ck := cv_k y.2.1.2.2
      rw [hb q k y.kR, if_neg (by rw [n32_ler (by omega) (by omega)]; omega), x_isAt ht n16 hj y.1, kb_s, if10, if_pos a, e1, kb_s, e2, kb_s, y2.2.1.1, if_pos (show cv < 999999 by omega), if_pos ck.1, e3, kb_s, n32_addl, kl_e, if_pos a]
      exact ⟨q3, rfl, (f1.tr f2).tr f3, y3⟩
    · rw [if_neg a] at hy
      exact absurd rfl hy
theorem x_both {h : KH} {n cv o D N : Nat} {L : Bool} {fc : PS → PR} (ht : Rtape h) (n16 : n ≤ 1600) (hI : XQ h n cv L (f_X4_rec N) 2 (Int32.ofNat o) 0 fc) (pg : Pg (tyN h) n L 1 D fc) : XQ h n cv L (f_X4_rec (N + 1)) 1 (Int32.ofNat o) 0 (both (tyN h) n fc) := fun g r x => by
  obtain ⟨g1, e1, f1, x1⟩ := hI g r x
  obtain ⟨g2, e2, f2, x2⟩ := x_words (c1 := 10) (j := 17) (op := opN (tyN h) n) (body := f_X4_readBoth_l7 (f_X4_rec N) 10 (Int32.ofNat o)) ht n16 hI pg (by omega) (fun s => rfl) rfl (by omega) (fun g k rg => by
    unfold f_X4_readBoth_l7
    dsimp only
    rw [if_pos kk10, rf10_0 rg, if_pos (show 8 < 999999 by omega), if_pos kk8]
    rfl) (fun g => by
    unfold f_X4_readBoth_l7
    dsimp only
    rw [if_pos (by decide)]) x1
  refine ⟨g2, ?_, f1.tr f2, ?_⟩
  · rw [rc_1]
    unfold fb_X4_readBoth
    rw [if_pos kk10, e1, kb_s, e2, kb_s]
  · rw [pbd_a] at x2
    exact x2
theorem x_test {h : KH} {n cv o D N : Nat} {L : Bool} {fc : PS → PR} (ht : Rtape h) (n16 : n ≤ 1600) (hI : XQ h n cv L (f_X4_rec N) 1 (Int32.ofNat o) 0 (both (tyN h) n fc)) (pg : Pg (tyN h) n L 1 D (both (tyN h) n fc)) : XQ h n cv L (f_X4_rec (N + 1)) 0 (Int32.ofNat o) 0 (tst (tyN h) n fc) := fun g r x => by
  obtain ⟨g1, e1, f1, x1⟩ := hI g r x
  obtain ⟨g2, e2, f2, x2⟩ := x_words (c1 := 11) (j := 16) (op := opO (tyN h) n) (body := f_X4_readTest_l7 (f_X4_rec N) 10 (Int32.ofNat o)) ht n16 hI pg (by omega) (fun s => rfl) rfl (by omega) (fun g k rg => by
    unfold f_X4_readTest_l7
    dsimp only
    rw [if_pos kk10, rf10_0 rg, if_pos (show 8 < 999999 by omega), if_pos kk8]
    rfl) (fun g => by
    unfold f_X4_readTest_l7
    dsimp only
    rw [if_pos (by decide)]) x1
  refine ⟨g2, ?_, f1.tr f2, ?_⟩
  · rw [rc_0]
    unfold fb_X4_readTest
    rw [if_pos kk10, e1, kb_s, e2, kb_s]
  · rw [pbd_a] at x2
    exact x2
