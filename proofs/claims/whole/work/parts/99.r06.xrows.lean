/-! the class reads a row -/
def Xs (h g : KH) (n c : Nat) (r : (Nat × Nat) ⊕ (CTy × PS)) : Prop := match r with
  | .inl e => Rx h g n (.inl e) ∧ Cn g c
  | .inr p => Rx h g n (.inr p.2) ∧ Cx g c p.1 ∧ wfC p.1
/-- a number behind its word, written into the row at L -/
theorem x_num {h g : KH} {n j lo hi L k : Nat} {r : PR} (ht : Rtape h) (n16 : n ≤ 1600) (hj : j < 27) (hhi : hi < 10000) (hlo : lo < 10000) (hL : L ≠ 8 ∧ L ≠ 1 ∧ L ≠ 2 ∧ L ≠ 9) (x : Rx h g n r) : ∃ v g1 g2, f_X3_takeBehind g 11 (Int32.ofNat j) (Int32.ofNat lo) (Int32.ofNat hi) = some (v, g1) ∧ g2 = ksI g1 L k v ∧ kfp (fun l i => l = 8 ∨ (l = L ∧ i = k)) g g2 ∧ Rx h g2 n (tPR r (tBh (tyN h) n j lo hi)) ∧ ∀ s w s', r = .inr s → tBh (tyN h) n j lo hi s = .inr (w, s') → kI g2 L k = Int32.ofNat w := by
  obtain ⟨v, g1, e1, f1, x1, v1⟩ := x_takeBehind ht n16 hj hhi hlo x
  have f2 : kfp (fun l i => l = L ∧ i = k) g1 (ksI g1 L k v) := kfp.rf.sI _ ⟨rfl, rfl⟩
  exact ⟨v, g1, _, e1, rfl, (f1.wide fun l i z => Or.inl z).tr (f2.wide fun l i z => Or.inr z), x1.fp f2 fun l i z w => by omega, fun s w s' hs hw => by rw [kI_sI, if_pos ⟨rfl, rfl⟩]; exact v1 s w s' hs hw⟩
theorem sel_add {C : CTy} {t : Nat} (ht : t < 3) (r : Row) (s : Nat) (hs : s < 3) : sel (addR C t r) s = if s = t then sel C s ++ [r] else sel C s := by
  unfold sel addR
  have e : (t = 0 ∨ t = 1 ∨ t = 2) ∧ (s = 0 ∨ s = 1 ∨ s = 2) := by omega
  rcases e with ⟨rfl | rfl | rfl, rfl | rfl | rfl⟩ <;> rfl
theorem getD_snoc {l : List Row} {r : Row} {k : Nat} (hk : k < l.length + 1) : (l ++ [r]).getD k (0, 0, []) = if k = l.length then r else l.getD k (0, 0, []) := by
  by_cases y : k = l.length
  · rw [if_pos y, y, List.getD_eq_getElem?_getD, List.getElem?_append_right (Nat.le_refl _), Nat.sub_self]
    rfl
  · rw [if_neg y, List.getD_eq_getElem?_getD, List.getD_eq_getElem?_getD, List.getElem?_append_left (by omega)]
/-- a row more -/
theorem Cx.add {g g' : KH} {c t : Nat} {C : CTy} {r : Row} (hc : ctc c) (ht : t < 3) (x : Cx g c C) (wf : wfC C) (hl : (sel C t).length < if t = 2 then 5 else 6) (nm : nmo r.1 r.2.1) (I : ∀ l i, (l = c ∧ 3 ≤ i ∧ i ≤ 8 ∧ i ≠ 3 + t) ∨ (c + 2 ≤ l ∧ l ≤ c + 20 ∧ l ≠ c + (2 + 7 * t) + (sel C t).length) ∨ (l = c + 21 ∧ i = 2) ∨ l = c + 22 → kI g' l i = kI g l i) (hr : rwX g' (c + (2 + 7 * t) + (sel C t).length) r) (hn : kI g' c (3 + t) = Int32.ofNat ((sel C t).length + 1)) : Cx g' c (addR C t r) ∧ wfC (addR C t r) := by
  obtain ⟨x1, x2, ⟨x3, x4⟩, x5⟩ := x
  have e2 : (addR C t r).2 = C.2 := rfl
  refine ⟨⟨fun s hs => ?_, fun s hs k hk => ?_, ⟨?_, ?_⟩, ?_⟩, fun s hs => ?_, fun s hs r' hr' => ?_⟩
  · rw [sel_add ht r s hs]
    by_cases y : s = t
    · subst y
      rw [if_pos rfl, hn, List.length_append]
      rfl
    · rw [if_neg y]
      exact (I _ _ (by omega)).trans (x1 s hs)
  · have l6 := wf.1 s hs
    rw [sel_add ht r s hs] at hk ⊢
    by_cases y : s = t
    · subst y
      rw [if_pos rfl] at hk ⊢
      rw [List.length_append] at hk
      have hk' : k < (sel C s).length + 1 := hk
      rw [getD_snoc hk']
      by_cases z : k = (sel C s).length
      · rw [if_pos z, z]
        exact hr
      · rw [if_neg z]
        have lb : c + 2 ≤ c + (2 + 7 * s) + k ∧ c + (2 + 7 * s) + k ≤ c + 20 := by
          split at l6 <;> omega
        obtain ⟨a, b⟩ := x2 s hs k (by omega)
        exact ⟨(I _ _ (by omega)).trans a, fun j hj => (I _ _ (by omega)).trans (b j hj)⟩
    · rw [if_neg y] at hk ⊢
      have lb : c + 2 ≤ c + (2 + 7 * s) + k ∧ c + (2 + 7 * s) + k ≤ c + 20 ∧ c + (2 + 7 * s) + k ≠ c + (2 + 7 * t) + (sel C t).length := by
        split at l6 <;> split at hl <;> omega
      obtain ⟨a, b⟩ := x2 s hs k hk
      exact ⟨(I _ _ (by omega)).trans a, fun j hj => (I _ _ (by omega)).trans (b j hj)⟩
  · exact (I _ _ (by omega)).trans x3
  · exact (I _ _ (by omega)).trans x4
  · rw [e2]
    cases hC : C.2.2 with
    | none =>
      rw [hC] at x5
      exact (I _ _ (by omega)).trans x5
    | some d =>
      rw [hC] at x5
      exact ⟨(I _ _ (by omega)).trans x5.1, (I _ _ (by omega)).trans x5.2.1, fun i hi => (I _ _ (by omega)).trans (x5.2.2 i hi)⟩
  · rw [sel_add ht r s hs]
    by_cases y : s = t
    · subst y
      rw [if_pos rfl, List.length_append]
      show (sel C s).length + 1 ≤ _
      omega
    · rw [if_neg y]
      exact wf.1 s hs
  · rw [sel_add ht r s hs] at hr'
    by_cases y : s = t
    · subst y
      rw [if_pos rfl] at hr'
      rcases List.mem_append.mp hr' with z | z
      · exact wf.2 s hs r' z
      · have : r' = r := by simpa using z
        rw [this]
        exact nm
    · rw [if_neg y] at hr'
      exact wf.2 s hs r' hr'
/-- a count more, behind a fault -/
theorem Cn.add {g g' : KH} {c t m : Nat} (x : Cn g c) (ht : t < 3) (hm : m + 1 ≤ if t = 2 then 5 else 6) (I : ∀ i, 3 ≤ i → i ≤ 5 → i ≠ 3 + t → kI g' c i = kI g c i) (hn : kI g' c (3 + t) = Int32.ofNat (m + 1)) : Cn g' c := fun s hs => by
  by_cases y : s = t
  · subst y
    exact cn_of hn hm (by split <;> omega)
  · exact (x s hs).same (I _ (by omega) (by omega) (by omega))
theorem x_readTrial {h g : KH} {n c : Nat} {C : CTy} {s : PS} (ht : Rtape h) (n16 : n ≤ 1600) (hc : ctc c) (x : Xs h g n c (.inr (C, s))) : ∃ g', f_X3_readTrial g 11 c = some g' ∧ kfp (fun l i => l = 8 ∨ (l = c ∧ i = 4) ∨ (c + 9 ≤ l ∧ l ≤ c + 14)) g g' ∧ Xs h g' n c (rowS (tyN h) n C 1 6 spT s) := by
  have x1 : Rx h g n (.inr s) := x.1
  have cx : Cx g c C := x.2.1
  have wf : wfC C := x.2.2
  have rg := x1.1.1
  have l6 := wf.1 1 (by omega)
  rw [if_neg (by omega)] at l6
  have c4 : kI g c 4 = Int32.ofNat (sel C 1).length := cx.1 1 (by omega)
  have cc : c + 25 < 100 ∧ 12 ≤ c := by rcases hc with rfl | rfl <;> omega
  unfold f_X3_readTrial rowS
  rw [if_pos (ct_kk hc), c4]
  by_cases y : 6 ≤ (sel C 1).length
  · rw [if_neg (by rw [n32_ltl (by omega) (by omega)]; omega), if_pos kk11, rf11_0 rg, if_pos (show 8 < 999999 by omega), if_pos kk8, if_pos y]
    obtain ⟨q, e, f, xq⟩ := x_stopH (k := 5) ht n16 x1
    have e' : f_X7_stop g 8 (5 : Int32) (kI g 8 4) = some q := e
    rw [e', kb_s]
    exact ⟨q, rfl, f.wide fun l i z => Or.inl z, xq, (cx.fp f (fun l i z w => by omega) wf).n wf⟩
  · obtain ⟨k, hk⟩ : ∃ k, (sel C 1).length = k := ⟨_, rfl⟩
    rw [hk] at y c4 l6
    obtain ⟨L, hL⟩ : ∃ L, c + 9 + k = L := ⟨_, rfl⟩
    have hLk : kkind L = 20 ∧ klen L = 2 := by rw [← hL]; exact ct_test hc (by omega)
    have rL : kR g (c + 8) k = L := by rw [← hL]; exact ct_rt rg hc (by omega)
    obtain ⟨g1, e1, f1, x2⟩ := x_next ht n16 x1
    have cx1 := cx.fp f1 (fun l i z w => by omega) wf
    obtain ⟨v, g2, e2, f2, n1, n2⟩ := x_takeNewName ht n16 hc wf x2 cx1
    have R0 : ∃ r0, Rx h g2 n r0 ∧ (∀ e, nwN (tyN h) n C (nxt (tyN h) n s) = .inl e → r0 = .inl e) ∧ ∀ w, nwN (tyN h) n C (nxt (tyN h) n s) = .inr w → r0 = .inr w.2.2 := by
      cases hw : nwN (tyN h) n C (nxt (tyN h) n s) with
      | inl e => exact ⟨.inl e, n1 e hw, (fun e' he => by cases he; rfl), (fun w he => nomatch he)⟩
      | inr w => exact ⟨.inr w.2.2, (n2 w hw).2, (fun e' he => nomatch he), (fun w' he => by cases he; rfl)⟩
    obtain ⟨r0, xr0, ra, rb⟩ := R0
    obtain ⟨g3, eg3⟩ : ∃ g3, g3 = ksI g2 L 0 v := ⟨_, rfl⟩
    have f3 : kfp (fun l i => l = L ∧ i = 0) g2 g3 := by rw [eg3]; exact kfp.rf.sI _ ⟨rfl, rfl⟩
    have x3 : Rx h g3 n r0 := xr0.fp f3 fun l i z w => by omega
    obtain ⟨v4, g4, g5, e4, eg5, f5, x5, w5⟩ := x_num (j := 6) (lo := 0) (hi := 99) (L := L) (k := 1) ht n16 (by omega) (by omega) (by omega) (by omega) x3
    have e4' : f_X3_takeBehind g3 11 (6 : Int32) (0 : Int32) (99 : Int32) = some (v4, g4) := e4
    have F5 : kfp (fun l i => l = 8 ∨ l = L) g g5 := (((f1.wide fun l i z => Or.inl z).tr (f2.wide fun l i z => Or.inl z)).tr (f3.wide fun l i z => Or.inr z.1)).tr (f5.wide fun l i z => by omega)
    have c5 : kI g5 c 4 = Int32.ofNat k := (F5.2.2.1 _ _ (by omega)).trans c4
    obtain ⟨g6, eg6⟩ : ∃ g6, g6 = ksI g5 c 4 (Int32.ofNat (k + 1)) := ⟨_, rfl⟩
    have f6 : kfp (fun l i => l = c ∧ i = 4) g5 g6 := by rw [eg6]; exact kfp.rf.sI _ ⟨rfl, rfl⟩
    have F6 : kfp (fun l i => l = 8 ∨ l = L ∨ (l = c ∧ i = 4)) g g6 := (F5.wide fun l i z => by omega).tr (f6.wide fun l i z => by omega)
    have x6 := x5.fp f6 fun l i z w => by omega
    rw [if_pos (by rw [n32_ltl (by omega) (by omega)]; omega), (ct_r rg hc).2.1, if_pos (show c + 8 < 999999 by omega), if_pos (ct_kt hc).2.1, (ct_kt hc).2.2.2.2.1, if_neg (by rw [hk, n32_cl (by omega)]; exact fun z => z.elim (n32_nn (by omega)) (by omega)), hk, n32_cl (show k < 2147483648 by omega), rL, if_pos (show L < 999999 by omega), kl_e, if_pos kk11, rf11_0 rg, if_pos (show 8 < 999999 by omega), if_pos kk8, e1, kb_s, e2, kb_s, if_pos hLk.1, hLk.2, if_neg (show ¬ 2 ≤ 0 by omega), kl_e, ← eg3, e4', kb_s, if_neg (show ¬ 2 ≤ 1 by omega), kl_e, ← eg5, c5, n32_addl, kl_e, if_neg y]
    refine ⟨g6, by rw [eg6], F6.wide fun l i z => by omega, ?_⟩
    have cn6 : Cn g6 c := (cx.n wf).add (t := 1) (m := k) (by omega) (by rw [if_neg (by omega)]; omega) (fun i a b d => F6.2.2.1 _ _ (by omega)) (by rw [eg6, kI_sI, if_pos ⟨rfl, rfl⟩])
    unfold rwS
    cases hw : nwN (tyN h) n C (nxt (tyN h) n s) with
    | inl e =>
      have er := ra e hw
      subst er
      exact ⟨x6, cn6⟩
    | inr w =>
      have er := rb w hw
      subst er
      obtain ⟨ve, -⟩ := n2 w hw
      have wn : wNm (tyN h) n (nxt (tyN h) n s) = .inr w := by
        unfold nwN at hw
        cases hq : wNm (tyN h) n (nxt (tyN h) n s) with
        | inl e => rw [hq] at hw; exact nomatch hw
        | inr w' =>
          rw [hq] at hw
          dsimp only at hw
          by_cases z : kno C w'.1
          · rw [if_pos z] at hw
            exact nomatch hw
          · rw [if_neg z] at hw
            exact hw
      have nm := (wNm_ok wn).1
      unfold spT rdN rdN
      dsimp only
      cases t1 : tBh (tyN h) n 6 0 99 w.2.2 with
      | inl e =>
        have e0 : tPR (.inr w.2.2) (tBh (tyN h) n 6 0 99) = .inl e := by
          unfold tPR
          rw [pbd_r, t1]
          rfl
        rw [e0] at x6
        exact ⟨x6, cn6⟩
      | inr p =>
        have e0 : tPR (.inr w.2.2) (tBh (tyN h) n 6 0 99) = .inr p.2 := by
          unfold tPR
          rw [pbd_r, t1]
          rfl
        rw [e0] at x6
        have wv := w5 _ p.1 p.2 rfl t1
        have ad := cx.add (g' := g6) (t := 1) (r := (w.1, w.2.1, [p.1])) hc (by omega) wf (by rw [hk, if_neg (by omega)]; omega) nm (fun l i z => F6.2.2.1 _ _ (by rw [hk] at z; omega)) ⟨?_, fun j hj => ?_⟩ (by rw [hk, eg6, kI_sI, if_pos ⟨rfl, rfl⟩])
        · exact ⟨x6, ad.1, ad.2⟩
        · rw [hk, show c + (2 + 7 * 1) + k = L by omega, f6.2.2.1 _ _ (by omega), f5.2.2.1 _ _ (by omega), eg3, kI_sI, if_pos ⟨rfl, rfl⟩]
          exact ve
        · have j0 : j = 0 := by
            have hj' : j < 1 := hj
            omega
          subst j0
          rw [hk, show c + (2 + 7 * 1) + k = L by omega, f6.2.2.1 _ _ (by omega)]
          exact wv
