/-! the class reads parts, products and sums -/
theorem wI_lit {w j : Nat} (hw : w ≤ 27) (hj : j < 27) : ((if w = 27 then (-1 : Int32) else Int32.ofNat w) = Int32.ofNat j) ↔ w = j := by
  by_cases y : w = 27
  · rw [if_pos y]
    exact ⟨fun z => absurd z.symm (by rw [n32_eqm (by omega)]; exact fun q => q), fun z => by omega⟩
  · rw [if_neg y, n32_eq (by omega) (by omega)]
theorem x_isValue {h g : KH} {n cv : Nat} {L : Bool} {r : PR} (x : Gx h g n cv L r) {w : Nat} (hw : w ≤ 27) : f_X4_isValue g 10 (if w = 27 then (-1 : Int32) else Int32.ofNat w) = some (if vcN L w = 0 then 0 else 1) := by
  obtain ⟨-, ⟨-, x3, -⟩, -⟩ := x
  have e : ∀ j, j < 27 → (((if w = 27 then (-1 : Int32) else Int32.ofNat w) = Int32.ofNat j) ↔ w = j) := fun j hj => wI_lit hw hj
  have i6 : ((if w = 27 then (-1 : Int32) else Int32.ofNat w) = (6 : Int32)) ↔ w = 6 := e 6 (by omega)
  have i11 : ((if w = 27 then (-1 : Int32) else Int32.ofNat w) = (11 : Int32)) ↔ w = 11 := e 11 (by omega)
  have i1 : ((if w = 27 then (-1 : Int32) else Int32.ofNat w) = (1 : Int32)) ↔ w = 1 := e 1 (by omega)
  have i2 : ((if w = 27 then (-1 : Int32) else Int32.ofNat w) = (2 : Int32)) ↔ w = 2 := e 2 (by omega)
  have i12 : ((if w = 27 then (-1 : Int32) else Int32.ofNat w) = (12 : Int32)) ↔ w = 12 := e 12 (by omega)
  have i13 : ((if w = 27 then (-1 : Int32) else Int32.ofNat w) = (13 : Int32)) ↔ w = 13 := e 13 (by omega)
  have i14 : ((if w = 27 then (-1 : Int32) else Int32.ofNat w) = (14 : Int32)) ↔ w = 14 := e 14 (by omega)
  have i15 : ((if w = 27 then (-1 : Int32) else Int32.ofNat w) = (15 : Int32)) ↔ w = 15 := e 15 (by omega)
  unfold f_X4_isValue f_X4_isValue_b61 f_X4_isValue_b39 vcN
  rw [ifP i6, ifP i11, ifP i1, ifP i2, ifP i12, ifP i13, ifP i14, ifP i15, if_pos kk10, x3]
  by_cases a6 : w = 6
  · rw [if_pos a6, if_pos a6, if_neg (by omega)]
  · rw [if_neg a6, if_neg a6]
    by_cases a11 : w = 11
    · rw [if_pos a11, if_pos a11, if_neg (by omega)]
    · rw [if_neg a11, if_neg a11]
      cases L with
      | true =>
        rw [if_pos rfl, if_pos rfl, if_pos rfl]
        by_cases b1 : w = 1
        · rw [if_pos b1, if_pos b1, if_neg (by omega)]
        · rw [if_neg b1, if_neg b1]
          by_cases b2 : w = 2
          · rw [if_pos b2, if_pos b2, if_neg (by omega)]
          · rw [if_neg b2, if_neg b2]
            by_cases b3 : w = 12
            · rw [if_pos b3, if_pos b3, if_neg (by omega)]
            · rw [if_neg b3, if_neg b3, if_pos rfl]
      | false =>
        have ff : ¬ ((false : Bool) = true) := by decide
        have f10 : ¬ ((1 : Int32) = 0) := by decide
        rw [if_neg ff, if_neg f10, if_neg ff]
        by_cases b1 : w = 13
        · rw [if_pos b1, if_pos b1, if_neg (by omega)]
        · rw [if_neg b1, if_neg b1]
          by_cases b2 : w = 14
          · rw [if_pos b2, if_pos b2, if_neg (by omega)]
          · rw [if_neg b2, if_neg b2]
            by_cases b3 : w = 15
            · rw [if_pos b3, if_pos b3, if_neg (by omega)]
            · rw [if_neg b3, if_neg b3, if_pos rfl]
theorem vcN_cs : ∀ L j, j < 27 → vcN L j ≠ 0 → (-1 : Int32) - Int32.ofNat j = csI (vcN L j) := by decide +kernel
theorem rc_5 (N : Nat) (h : KH) (v0 : Nat) (v1 v2 : Int32) : f_X4_rec (N + 1) 5 h v0 v1 v2 = fb_X4_readPart (f_X4_rec N) h v0 v1 := rfl
theorem rc_4 (N : Nat) (h : KH) (v0 : Nat) (v1 v2 : Int32) : f_X4_rec (N + 1) 4 h v0 v1 v2 = fb_X4_readProduct (f_X4_rec N) h v0 v1 := rfl
theorem rc_3 (N : Nat) (h : KH) (v0 : Nat) (v1 v2 : Int32) : f_X4_rec (N + 1) 3 h v0 v1 v2 = fb_X4_readSum (f_X4_rec N) h v0 v1 := rfl
theorem rc_2 (N : Nat) (h : KH) (v0 : Nat) (v1 v2 : Int32) : f_X4_rec (N + 1) 2 h v0 v1 v2 = fb_X4_readFact (f_X4_rec N) h v0 v1 := rfl
theorem rc_1 (N : Nat) (h : KH) (v0 : Nat) (v1 v2 : Int32) : f_X4_rec (N + 1) 1 h v0 v1 v2 = fb_X4_readBoth (f_X4_rec N) h v0 v1 := rfl
theorem rc_0 (N : Nat) (h : KH) (v0 : Nat) (v1 v2 : Int32) : f_X4_rec (N + 1) 0 h v0 v1 v2 = fb_X4_readTest (f_X4_rec N) h v0 v1 := rfl
theorem rc_6 (N : Nat) (h : KH) (v0 : Nat) (v1 v2 : Int32) : f_X4_rec (N + 1) 6 h v0 v1 v2 = fb_X4_readPair (f_X4_rec N) h v0 v1 v2 := rfl
/-- loops over two signs -/
theorem x_signs {h : KH} {n cv o D : Nat} {L : Bool} {N tag c1 c2 : Nat} {it : PS → PR} {op : PS → Nat} (ht : Rtape h) (n16 : n ≤ 1600) (hI : XQ h n cv L (f_X4_rec N) tag (Int32.ofNat o) 0 it) (pg : Pg (tyN h) n L 0 D it) {s1 s2 : Nat} (hs1 : s1 < 256) (hs2 : s2 < 256)
    (hop : ∀ s, op s = if tkT (tyN h) n s.1 s.2.1 = 4 ∧ tkV (tyN h) n s.1 = s1 then c1 else if tkT (tyN h) n s.1 s.2.1 = 4 ∧ tkV (tyN h) n s.1 = s2 then c2 else 0) (k1 : (-100 : Int32) - Int32.ofNat s1 = csI c1) (k2 : (-100 : Int32) - Int32.ofNat s2 = csI c2) (z1 : c1 ≠ 0) (z2 : c2 ≠ 0)
    {body : Int32 × KH → Option ((Int32 × KH) ⊕ KH)} {b38 : KH → Int32 → Option ((Int32 × KH) ⊕ KH)}
    (hb : ∀ g k, kRefs g → body (Int32.ofNat k, g) = if (1600 : Int32) ≤ Int32.ofNat k then some (.inr g) else kb (f_X7_isAtSign g 8 (Int32.ofNat s1)) fun r5 => if r5 = 0 then kb (f_X7_isAtSign g 8 (Int32.ofNat s2)) fun r9 => if r9 = 0 then some (.inr g) else b38 g (Int32.ofNat k) else b38 g (Int32.ofNat k))
    (hb0 : ∀ g, body (Int32.ofNat 1600, g) = some (.inr g))
    (h38 : ∀ g k g1 g2 g3, kRefs g → kRefs g2 → kR g2 10 1 = cv → kkind cv = 1 → cv < 999999 → f_X7_next g 8 = some g1 → f_X4_rec N tag g1 10 (Int32.ofNat o) 0 = some g2 → f_X1_addSign g2 cv (kI g 8 6) = some g3 → b38 g (Int32.ofNat k) = some (.inl (Int32.ofNat (k + 1), g3)))
    {g : KH} {r : PR} (x : Gx h g n cv L r) : ∃ g', kloop body KF ((0 : Int32), g) = some g' ∧ kfp (Wg cv) g g' ∧ Gx h g' n cv L (pbd r (lpB (tyN h) n op it 1600)) := by
  refine lpX body (fun k q r' hk y hy => ?_) (fun k q s hk y hy => ?_) hb0 x
  · rw [hb q k y.kR, if_neg (by rw [n32_ler (by omega) (by omega)]; omega)]
    cases r' with
    | inl e => rw [x_isAtSign_l y.1, kb_s, if_pos rfl, x_isAtSign_l y.1, kb_s, if_pos rfl]
    | inr s =>
      have o0 := hy s rfl
      rw [hop] at o0
      by_cases a : tkT (tyN h) n s.1 s.2.1 = 4 ∧ tkV (tyN h) n s.1 = s1
      · rw [if_pos a] at o0
        exact absurd o0 z1
      · rw [if_neg a] at o0
        by_cases c : tkT (tyN h) n s.1 s.2.1 = 4 ∧ tkV (tyN h) n s.1 = s2
        · rw [if_pos c] at o0
          exact absurd o0 z2
        · rw [x_isAtSign ht n16 hs1 y.1, kb_s, if10, if_neg a, x_isAtSign ht n16 hs2 y.1, kb_s, if10, if_neg c]
  · have go : ∀ sg c, tkT (tyN h) n s.1 s.2.1 = 4 ∧ tkV (tyN h) n s.1 = sg → (-100 : Int32) - Int32.ofNat sg = csI c → ∃ g', b38 q (Int32.ofNat k) = some (.inl (Int32.ofNat (k + 1), g')) ∧ kfp (Wg cv) q g' ∧ Gx h g' n cv L (pbd (it (nxt (tyN h) n s)) fun s2 => .inr (pem c s2)) := fun sg c a e => by
      obtain ⟨q1, e1, f1, y1⟩ := x_nextG ht n16 y
      obtain ⟨q2, e2, f2, y2⟩ := hI q1 _ y1
      rw [pbd_r] at y2
      obtain ⟨l1, l2⟩ := y.len
      obtain ⟨q3, e3, f3, y3⟩ := x_emitS n16 e y2 fun s' es => pg_room pg l2 l1 (by rw [a.1]; omega) es
      have ev : kI q 8 6 = Int32.ofNat sg := by rw [y.1.2.2.1.2.2.2.2, a.2]
      rw [← ev] at e3
      exact ⟨q3, h38 q k q1 q2 q3 y.kR y2.kR y2.2.1.1 (cv_k y.2.1.2.2).1 (by have := (cv_k y.2.1.2.2).2.2.2; omega) e1 e2 e3, (f1.tr f2).tr f3, y3⟩
    rw [hb q k y.kR, if_neg (by rw [n32_ler (by omega) (by omega)]; omega), x_isAtSign ht n16 hs1 y.1, kb_s, if10]
    rw [hop] at hy ⊢
    by_cases a : tkT (tyN h) n s.1 s.2.1 = 4 ∧ tkV (tyN h) n s.1 = s1
    · rw [if_pos a, if_pos a]
      exact go s1 c1 a k1
    · rw [if_neg a] at hy
      rw [if_neg a, if_neg a, x_isAtSign ht n16 hs2 y.1, kb_s, if10]
      by_cases c : tkT (tyN h) n s.1 s.2.1 = 4 ∧ tkV (tyN h) n s.1 = s2
      · rw [if_pos c, if_pos c]
        exact go s2 c2 c k2
      · rw [if_neg c] at hy
        exact absurd rfl hy
theorem x_product {h : KH} {n cv o D N : Nat} {L : Bool} {pt : PS → PR} (ht : Rtape h) (n16 : n ≤ 1600) (hI : XQ h n cv L (f_X4_rec N) 5 (Int32.ofNat o) 0 pt) (pg : Pg (tyN h) n L 0 D pt) : XQ h n cv L (f_X4_rec (N + 1)) 4 (Int32.ofNat o) 0 (prd (tyN h) n pt) := fun g r x => by
  obtain ⟨g1, e1, f1, x1⟩ := hI g r x
  obtain ⟨g2, e2, f2, x2⟩ := x_signs (c1 := 3) (c2 := 4) (s1 := 42) (s2 := 47) (op := opP (tyN h) n) (body := f_X4_readProduct_l7 (f_X4_rec N) 10 (Int32.ofNat o)) (b38 := fun g k => f_X4_readProduct_b38 (f_X4_rec N) g 10 (Int32.ofNat o) k) ht n16 hI pg (by omega) (by omega) (fun s => rfl) rfl rfl (by omega) (by omega) (fun g k rg => by
    unfold f_X4_readProduct_l7
    dsimp only
    rw [if_pos kk10, rf10_0 rg, if_pos (show 8 < 999999 by omega), if_pos kk8]
    rfl) (fun g => by
    unfold f_X4_readProduct_l7
    dsimp only
    rw [if_pos (by decide)]) (fun g k q1 q2 q3 rg r2 c1 c2 c3 a1 a2 a3 => by
    unfold f_X4_readProduct_b38
    rw [if_pos kk10, rf10_0 rg, if_pos (show 8 < 999999 by omega), if_pos kk8, kl_e, a1, kb_s, a2, kb_s, c1, if_pos c3, if_pos c2, a3, kb_s, n32_addl, kl_e]) x1
  refine ⟨g2, ?_, f1.tr f2, ?_⟩
  · rw [rc_4]
    unfold fb_X4_readProduct
    rw [if_pos kk10, e1, kb_s, e2, kb_s]
  · rw [pbd_a] at x2
    exact x2
theorem x_sum {h : KH} {n cv o D N : Nat} {L : Bool} {pt : PS → PR} (ht : Rtape h) (n16 : n ≤ 1600) (hI : XQ h n cv L (f_X4_rec N) 4 (Int32.ofNat o) 0 (prd (tyN h) n pt)) (pg : Pg (tyN h) n L 0 D (prd (tyN h) n pt)) : XQ h n cv L (f_X4_rec (N + 1)) 3 (Int32.ofNat o) 0 (smm (tyN h) n pt) := fun g r x => by
  obtain ⟨g1, e1, f1, x1⟩ := hI g r x
  obtain ⟨g2, e2, f2, x2⟩ := x_signs (c1 := 1) (c2 := 2) (s1 := 43) (s2 := 45) (op := opA (tyN h) n) (body := f_X4_readSum_l7 (f_X4_rec N) 10 (Int32.ofNat o)) (b38 := fun g k => f_X4_readSum_b38 (f_X4_rec N) g 10 (Int32.ofNat o) k) ht n16 hI pg (by omega) (by omega) (fun s => rfl) rfl rfl (by omega) (by omega) (fun g k rg => by
    unfold f_X4_readSum_l7
    dsimp only
    rw [if_pos kk10, rf10_0 rg, if_pos (show 8 < 999999 by omega), if_pos kk8]
    rfl) (fun g => by
    unfold f_X4_readSum_l7
    dsimp only
    rw [if_pos (by decide)]) (fun g k q1 q2 q3 rg r2 c1 c2 c3 a1 a2 a3 => by
    unfold f_X4_readSum_b38
    rw [if_pos kk10, rf10_0 rg, if_pos (show 8 < 999999 by omega), if_pos kk8, kl_e, a1, kb_s, a2, kb_s, c1, if_pos c3, if_pos c2, a3, kb_s, n32_addl, kl_e]) x1
  refine ⟨g2, ?_, f1.tr f2, ?_⟩
  · rw [rc_3]
    unfold fb_X4_readSum
    rw [if_pos kk10, e1, kb_s, e2, kb_s]
  · rw [pbd_a] at x2
    exact x2
theorem x_pairG {h : KH} {n cv k N j c D : Nat} {L : Bool} {sub : Option (PS → PR)} (ht : Rtape h) (n16 : n ≤ 1600) (hk : k ≤ 6) (h0 : k = 0 → sub = none) (hs : k ≠ 0 → ∃ pt, sub = some pt ∧ XQ h n cv L (f_X4_rec N) 3 (Int32.ofNat (6 - (k - 1))) 0 (smm (tyN h) n pt) ∧ Pg (tyN h) n L 0 D (smm (tyN h) n pt)) (hc : (-1 : Int32) - Int32.ofNat j = csI c) {g : KH} {s : PS} (x : Gx h g n cv L (.inr s)) (hw : tkT (tyN h) n s.1 s.2.1 ≠ 1) :
    ∃ g', f_X4_rec (N + 1) 6 g 10 (Int32.ofNat j) (Int32.ofNat (6 - k)) = some g' ∧ kfp (Wg cv) g g' ∧ Gx h g' n cv L (pair (tyN h) n sub c s) := by
  have rg := x.kR
  obtain ⟨l1, l2⟩ := x.len
  obtain ⟨g1, e1, f1, x1⟩ := x_nextG ht n16 x
  have r1 := x1.kR
  obtain ⟨a1, a2⟩ := nxt_pos (tyN h) l2 hw
  rw [rc_6]
  unfold fb_X4_readPair pair
  have es : f_X7_isAtSign g1 8 (40 : Int32) = some (if tkT (tyN h) n (nxt (tyN h) n s).1 (nxt (tyN h) n s).2.1 = 4 ∧ tkV (tyN h) n (nxt (tyN h) n s).1 = 40 then 1 else 0) := x_isAtSign (c := 40) ht n16 (by omega) x1.1
  rw [if_pos kk10, rf10_0 rg, if_pos (show 8 < 999999 by omega), if_pos kk8, e1, kb_s, rf10_0 r1, if_pos (show 8 < 999999 by omega), if_pos kk8, es, kb_s, if10]
  by_cases y : tkT (tyN h) n (nxt (tyN h) n s).1 (nxt (tyN h) n s).2.1 = 4 ∧ tkV (tyN h) n (nxt (tyN h) n s).1 = 40
  · obtain ⟨g2, e2, f2, x2⟩ := x_opens ht n16 hk x1
    rw [if_pos y, if_pos y, e2, kb_s]
    dsimp only
    by_cases z : k = 0
    · rw [if_pos z] at x2
      rw [if_pos z, if_pos rfl, h0 z]
      exact ⟨g2, rfl, f1.tr f2, x2⟩
    · rw [if_neg z] at x2
      obtain ⟨pt, ept, hX, hPg⟩ := hs z
      rw [if_neg z, if_neg (by decide), ept]
      dsimp only
      obtain ⟨g3, e3, f3, x3⟩ := hX g2 _ x2
      have e3' : f_X4_rec N 3 g2 10 (Int32.ofNat (6 - k) + (1 : Int32)) 0 = some g3 := by rw [n32_addl, show 6 - k + 1 = 6 - (k - 1) by omega]; exact e3
      obtain ⟨g4, e4, f4, x4⟩ := x_takeSignG (c := 44) ht n16 (by omega) x3
      have e4' : f_X7_takeSign g3 8 (44 : Int32) = some g4 := e4
      obtain ⟨g5, e5, f5, x5⟩ := hX g4 _ x4
      have e5' : f_X4_rec N 3 g4 10 (Int32.ofNat (6 - k) + (1 : Int32)) 0 = some g5 := by rw [n32_addl, show 6 - k + 1 = 6 - (k - 1) by omega]; exact e5
      obtain ⟨g6, e6, f6, x6⟩ := x_takeSignG (c := 41) ht n16 (by omega) x5
      have e6' : f_X7_takeSign g5 8 (41 : Int32) = some g6 := e6
      rw [pbd_r, pbd_a, pbd_a] at x6
      obtain ⟨g7, e7, f7, x7⟩ := x_emitW n16 hc x6 (fun s' q => by
        obtain ⟨s3, q3, q⟩ := pbd_inr q
        obtain ⟨s4, q4, q⟩ := pbd_inr q
        obtain ⟨s5, q5, q6⟩ := pbd_inr q
        obtain ⟨b1, b2⟩ := nxt_pos (tyN h) a2 (by rw [y.1]; omega)
        obtain ⟨c1, c2, d, c3, c4, -⟩ := hPg _ _ b2 q3
        obtain ⟨d1, d2, d3⟩ := wS_g c2 q4
        obtain ⟨m1, m2, d', m3, m4, -⟩ := hPg _ _ d2 q5
        obtain ⟨w1, w2, w3⟩ := wS_g m2 q6
        rw [w3, m3, d3, c3, List.length_append, List.length_append]
        have : (nxt (tyN h) n (nxt (tyN h) n s)).2.2.length = s.2.2.length := rfl
        omega)
      refine ⟨g7, ?_, (((((f1.tr f2).tr f3).tr f4).tr f5).tr f6).tr f7, ?_⟩
      · rw [e3', kb_s, rf10_0 x3.kR, if_pos (show 8 < 999999 by omega), if_pos kk8, e4', kb_s, e5', kb_s, rf10_0 x5.kR, if_pos (show 8 < 999999 by omega), if_pos kk8, e6', kb_s, x6.2.1.1, if_pos (show cv < 999999 by have := (cv_k x.2.1.2.2).2.2.2; omega), if_pos (cv_k x.2.1.2.2).1, e7, kb_s]
      · rw [pbd_a] at x7
        refine Eq.mp (congrArg (fun z => Gx h g7 n cv L z) ?_) x7
        congr 1
        funext s2
        rw [pbd_a]
        congr 1
        funext s3
        rw [pbd_a]
  · obtain ⟨g2, e2, f2, x2⟩ := x_stopG (k := 1) ht n16 x1
    have e2' : f_X7_stop g1 8 (1 : Int32) (kI g1 8 4) = some g2 := e2
    rw [if_neg y, if_neg y, e2', kb_s]
    exact ⟨g2, rfl, f1.tr f2, x2⟩
