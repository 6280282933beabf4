/-! the class reads facts -/
theorem x_fact {h : KH} {n cv k N D E : Nat} {L : Bool} {sub : Option (PS → PR)} {sm : PS → PR} (ht : Rtape h) (n16 : n ≤ 1600) (hk : k ≤ 6) (h0 : k = 0 → sub = none) (hs : k ≠ 0 → ∃ fc, sub = some fc ∧ XQ h n cv L (f_X4_rec N) 0 (Int32.ofNat (6 - (k - 1))) 0 (tst (tyN h) n fc) ∧ XQ h n cv L (f_X4_rec N) 2 (Int32.ofNat (6 - (k - 1))) 0 fc ∧ Pg (tyN h) n L 1 D fc) (hm : XQ h n cv L (f_X4_rec N) 3 (Int32.ofNat (6 - k)) 0 sm) (pm : Pg (tyN h) n L 0 E sm) : XQ h n cv L (f_X4_rec (N + 1)) 2 (Int32.ofNat (6 - k)) 0 (fct (tyN h) n sub sm) := fun g r x => by
  have rg := x.kR
  have ck := cv_k x.2.1.2.2
  have c9 : cv < 999999 := by omega
  rw [rc_2]
  unfold fb_X4_readFact
  rw [if_pos kk10, rf10_0 rg, if_pos (show 8 < 999999 by omega), if_pos kk8]
  cases r with
  | inl e =>
    obtain ⟨g1, e1, f1, x1⟩ := hm g _ x
    have x1' : Gx h g1 n cv L (.inl e) := x1
    rw [x_isAt_l x.1, kb_s, if_pos rfl, x_isAtSign_l x.1, kb_s, if_pos rfl, x_isAt_l x.1, kb_s, if_pos rfl, e1, kb_s, rf10_0 x1'.kR, if_pos (show 8 < 999999 by omega), if_pos kk8, kl_e, x_isAtSign_l x1'.1, kb_s, if_pos rfl, x_isAtSign_l x1'.1, kb_s, if_pos rfl, x_isAtSign_l x1'.1, kb_s, if_pos rfl, x_stop_l x1'.1, kb_s]
    exact ⟨g1, rfl, f1, x1'⟩
  | inr s =>
    obtain ⟨l1, l2⟩ := x.len
    have a18 : f_X7_isAt g 8 (18 : Int32) = some (if wI (tyN h) n s = 18 then 1 else 0) := x_isAt (j := 18) ht n16 (by omega) x.1
    have a91 : f_X7_isAtSign g 8 (91 : Int32) = some (if tkT (tyN h) n s.1 s.2.1 = 4 ∧ tkV (tyN h) n s.1 = 91 then 1 else 0) := x_isAtSign (c := 91) ht n16 (by omega) x.1
    have a19 : f_X7_isAt g 8 (19 : Int32) = some (if wI (tyN h) n s = 19 then 1 else 0) := x_isAt (j := 19) ht n16 (by omega) x.1
    rw [pbd_r, a18, kb_s, if10]
    unfold fct
    by_cases w18 : wI (tyN h) n s = 18
    · rw [if_pos w18, if_pos w18]
      have tw := wI_t (b := tyN h) (n := n) (s := s) (by omega)
      obtain ⟨g2, e2, f2, x2⟩ := x_opens ht n16 hk x
      rw [e2, kb_s]
      dsimp only
      by_cases z : k = 0
      · rw [if_pos z] at x2
        rw [if_pos z, if_pos rfl, h0 z]
        exact ⟨g2, rfl, f2, x2⟩
      · rw [if_neg z] at x2
        obtain ⟨fc, efc, -, hX, hPg⟩ := hs z
        rw [if_neg z, if_neg (by decide), efc]
        dsimp only
        obtain ⟨g3, e3, f3, x3⟩ := hX g2 _ x2
        rw [pbd_r] at x3
        obtain ⟨g4, e4, f4, x4⟩ := x_emitW (c := 12) (v := 18) n16 rfl x3 fun s' q => pg_room hPg l2 l1 (by rw [tw]; omega) q
        rw [one_add k hk z, e3, kb_s, x3.2.1.1, if_pos c9, if_pos ck.1, e4, kb_s]
        exact ⟨g4, rfl, (f2.tr f3).tr f4, x4⟩
    · rw [if_neg w18, if_neg w18, a91, kb_s, if10]
      by_cases y4 : tkT (tyN h) n s.1 s.2.1 = 4 ∧ tkV (tyN h) n s.1 = 91
      · rw [if_pos y4, if_pos y4]
        obtain ⟨g2, e2, f2, x2⟩ := x_opens ht n16 hk x
        rw [e2, kb_s]
        dsimp only
        by_cases z : k = 0
        · rw [if_pos z] at x2
          rw [if_pos z, if_pos rfl, h0 z]
          exact ⟨g2, rfl, f2, x2⟩
        · rw [if_neg z] at x2
          obtain ⟨fc, efc, hX, -, -⟩ := hs z
          rw [if_neg z, if_neg (by decide), efc]
          dsimp only
          obtain ⟨g3, e3, f3, x3⟩ := hX g2 _ x2
          obtain ⟨g4, e4, f4, x4⟩ := x_takeSignG (c := 93) ht n16 (by omega) x3
          have e4' : f_X7_takeSign g3 8 (93 : Int32) = some g4 := e4
          rw [one_add k hk z, e3, kb_s, rf10_0 x3.kR, if_pos (show 8 < 999999 by omega), if_pos kk8, e4', kb_s]
          exact ⟨g4, rfl, (f2.tr f3).tr f4, x4⟩
      · rw [if_neg y4, if_neg y4, a19, kb_s, if10]
        by_cases w19 : wI (tyN h) n s = 19
        · have tw := wI_t (b := tyN h) (n := n) (s := s) (by omega)
          obtain ⟨a1, a2⟩ := nxt_pos (tyN h) l2 (by rw [tw]; omega)
          obtain ⟨g1, e1, f1, x1⟩ := x_nextG ht n16 x
          obtain ⟨g2, e2, f2, x2⟩ := x_emit (c := 13) (v := (1 : Int32)) n16 x1 fun s' q => by
            cases q
            refine ⟨rfl, ?_⟩
            show s.2.2.length + 1 ≤ _
            omega
          rw [if_pos w19, if_pos w19, e1, kb_s, x1.2.1.1, if_pos c9, if_pos ck.1, e2, kb_s]
          exact ⟨g2, rfl, f1.tr f2, x2⟩
        · rw [if_neg w19, if_neg w19]
          obtain ⟨g1, e1, f1, x1⟩ := hm g _ x
          rw [pbd_r] at x1
          rw [e1, kb_s, rf10_0 x1.kR, if_pos (show 8 < 999999 by omega), if_pos kk8, kl_e]
          cases hs1 : sm s with
          | inl e =>
            rw [hs1] at x1
            rw [x_isAtSign_l x1.1, kb_s, if_pos rfl, x_isAtSign_l x1.1, kb_s, if_pos rfl, x_isAtSign_l x1.1, kb_s, if_pos rfl, x_stop_l x1.1, kb_s]
            exact ⟨g1, rfl, f1, x1⟩
          | inr s1 =>
            rw [hs1] at x1
            rw [pbd_r]
            obtain ⟨m1, m2⟩ := x1.len
            have sg : ∀ c, c < 256 → f_X7_isAtSign g1 8 (Int32.ofNat c) = some (if tkT (tyN h) n s1.1 s1.2.1 = 4 ∧ tkV (tyN h) n s1.1 = c then 1 else 0) := fun c hc => x_isAtSign ht n16 hc x1.1
            have s60 : f_X7_isAtSign g1 8 (60 : Int32) = some (if tkT (tyN h) n s1.1 s1.2.1 = 4 ∧ tkV (tyN h) n s1.1 = 60 then 1 else 0) := sg 60 (by omega)
            have s62 : f_X7_isAtSign g1 8 (62 : Int32) = some (if tkT (tyN h) n s1.1 s1.2.1 = 4 ∧ tkV (tyN h) n s1.1 = 62 then 1 else 0) := sg 62 (by omega)
            have s61 : f_X7_isAtSign g1 8 (61 : Int32) = some (if tkT (tyN h) n s1.1 s1.2.1 = 4 ∧ tkV (tyN h) n s1.1 = 61 then 1 else 0) := sg 61 (by omega)
            have go : ∀ sn c, tkT (tyN h) n s1.1 s1.2.1 = 4 ∧ tkV (tyN h) n s1.1 = sn → (-100 : Int32) - Int32.ofNat sn = csI c → ∃ g', f_X4_readFact_b157 (f_X4_rec N) g1 10 (Int32.ofNat (6 - k)) (kI g1 8 6) = some g' ∧ kfp (Wg cv) g1 g' ∧ Gx h g' n cv L (pbd (sm (nxt (tyN h) n s1)) fun s2 => .inr (pem c s2)) := fun sn c a ec => by
              obtain ⟨q1, e1, f1, y1⟩ := x_nextG ht n16 x1
              obtain ⟨q2, e2, f2, y2⟩ := hm q1 _ y1
              rw [pbd_r] at y2
              obtain ⟨q3, e3, f3, y3⟩ := x_emitS n16 ec y2 fun s' es => pg_room pm m2 m1 (by rw [a.1]; omega) es
              have ev : kI g1 8 6 = Int32.ofNat sn := by rw [x1.1.2.2.1.2.2.2.2, a.2]
              refine ⟨q3, ?_, (f1.tr f2).tr f3, y3⟩
              unfold f_X4_readFact_b157
              rw [if_pos kk10, rf10_0 x1.kR, if_pos (show 8 < 999999 by omega), if_pos kk8, e1, kb_s, e2, kb_s, y2.2.1.1, if_pos c9, if_pos ck.1, ev, e3, kb_s]
            rw [s60, kb_s, if10]
            by_cases a : tkT (tyN h) n s1.1 s1.2.1 = 4 ∧ tkV (tyN h) n s1.1 = 60
            · obtain ⟨g', b1, b2, b3⟩ := go 60 7 a rfl
              have o : opC (tyN h) n s1 = 7 := by unfold opC; rw [if_pos a]
              rw [if_pos a, b1, o, if_neg (by omega)]
              exact ⟨g', rfl, f1.tr b2, b3⟩
            · rw [if_neg a, s62, kb_s, if10]
              by_cases a2 : tkT (tyN h) n s1.1 s1.2.1 = 4 ∧ tkV (tyN h) n s1.1 = 62
              · obtain ⟨g', b1, b2, b3⟩ := go 62 8 a2 rfl
                have o : opC (tyN h) n s1 = 8 := by unfold opC; rw [if_neg a, if_pos a2]
                rw [if_pos a2, b1, o, if_neg (by omega)]
                exact ⟨g', rfl, f1.tr b2, b3⟩
              · rw [if_neg a2, s61, kb_s, if10]
                by_cases a3 : tkT (tyN h) n s1.1 s1.2.1 = 4 ∧ tkV (tyN h) n s1.1 = 61
                · obtain ⟨g', b1, b2, b3⟩ := go 61 9 a3 rfl
                  have o : opC (tyN h) n s1 = 9 := by unfold opC; rw [if_neg a, if_neg a2, if_pos a3]
                  rw [if_pos a3, b1, o, if_neg (by omega)]
                  exact ⟨g', rfl, f1.tr b2, b3⟩
                · have o : opC (tyN h) n s1 = 0 := by unfold opC; rw [if_neg a, if_neg a2, if_neg a3]
                  obtain ⟨g', e, f, y⟩ := x_stopG (k := 1) ht n16 x1
                  have e' : f_X7_stop g1 8 (1 : Int32) (kI g1 8 4) = some g' := e
                  rw [if_neg a3, e', kb_s, o, if_pos rfl]
                  exact ⟨g', rfl, f1.tr f, y⟩
theorem x_lvF {h : KH} {n cv : Nat} {L : Bool} (ht : Rtape h) (n16 : n ≤ 1600) : ∀ k, k ≤ 6 → ∀ N, 8 * k + 8 ≤ N → XQ h n cv L (f_X4_rec N) 2 (Int32.ofNat (6 - k)) 0 (lvF (tyN h) n L k) ∧ XQ h n cv L (f_X4_rec N) 0 (Int32.ofNat (6 - k)) 0 (tst (tyN h) n (lvF (tyN h) n L k))
  | 0, hk, N, hN => by
    have P : ∀ M, 5 ≤ M → XQ h n cv L (f_X4_rec M) 2 (Int32.ofNat (6 - 0)) 0 (lvF (tyN h) n L 0) := fun M hM => by
      obtain ⟨M', rfl⟩ : ∃ M', M = M' + 1 := ⟨M - 1, by omega⟩
      exact x_fact (N := M') (D := 0) ht n16 hk (fun _ => rfl) (fun z => absurd rfl z) (x_lvP ht n16 0 hk M' (by omega)).2 (smm_g (lvP_g _ _ _ 0))
    obtain ⟨N', rfl⟩ : ∃ N', N = N' + 1 + 1 := ⟨N - 2, by omega⟩
    exact ⟨P _ (by omega), x_test ht n16 (x_both ht n16 (P N' (by omega)) (lvF_g _ _ _ 0)) (both_g (lvF_g _ _ _ 0))⟩
  | k + 1, hk, N, hN => by
    have P : ∀ M, 8 * k + 9 ≤ M → XQ h n cv L (f_X4_rec M) 2 (Int32.ofNat (6 - (k + 1))) 0 (lvF (tyN h) n L (k + 1)) := fun M hM => by
      obtain ⟨M', rfl⟩ : ∃ M', M = M' + 1 := ⟨M - 1, by omega⟩
      exact x_fact (N := M') (D := 5 * k + 7) (sub := some (lvF (tyN h) n L k)) ht n16 hk (fun z => absurd z (by omega)) (fun _ => ⟨_, rfl, (x_lvF ht n16 k (by omega) M' (by omega)).2, (x_lvF ht n16 k (by omega) M' (by omega)).1, lvF_g _ _ _ k⟩) (x_lvP ht n16 (k + 1) hk M' (by omega)).2 (smm_g (lvP_g _ _ _ (k + 1)))
    obtain ⟨N', rfl⟩ : ∃ N', N = N' + 1 + 1 := ⟨N - 2, by omega⟩
    exact ⟨P _ (by omega), x_test ht n16 (x_both ht n16 (P N' (by omega)) (lvF_g _ _ _ (k + 1))) (both_g (lvF_g _ _ _ (k + 1)))⟩
/-- a TEST, a SUM, as the class reads it -/
theorem x_readTest {h g : KH} {n cv : Nat} {L : Bool} {r : PR} (ht : Rtape h) (n16 : n ≤ 1600) (x : Gx h g n cv L r) : ∃ g', f_X4_readTest g 10 (0 : Int32) = some g' ∧ kfp (Wg cv) g g' ∧ Gx h g' n cv L (pbd r (tst (tyN h) n (lvF (tyN h) n L 6))) := (x_lvF ht n16 6 (by omega) 200 (by omega)).2 g r x
theorem x_readSum {h g : KH} {n cv : Nat} {L : Bool} {r : PR} (ht : Rtape h) (n16 : n ≤ 1600) (x : Gx h g n cv L r) : ∃ g', f_X4_readSum g 10 (0 : Int32) = some g' ∧ kfp (Wg cv) g g' ∧ Gx h g' n cv L (pbd r (smm (tyN h) n (lvP (tyN h) n L 6))) := (x_lvP ht n16 6 (by omega) 200 (by omega)).2 g r x
