/-! answers of all tests together; the class takes them -/
theorem rtf_take {L : Bool} (d : List Nat) : ∀ n, n ≤ d.length → rtf L (fun i => d.getD i 0) 0 n [] = rtl L (d.take n) []
  | 0, _ => rfl
  | n + 1, hn => by
    have e : d.take (n + 1) = d.take n ++ [d.getD n 0] := by
      rw [List.take_succ]
      congr 1
      rw [List.getElem?_eq_getElem (by omega), List.getD_eq_getElem?_getD, List.getElem?_eq_getElem (by omega)]
      rfl
    rw [e, rtl_app, ← rtf_take d n (by omega)]
    show (rtf L (fun i => d.getD i 0) 0 n []).bind (fun s => (rty L (d.getD (0 + n) 0) s).bind fun s' => if s'.length ≤ 60 then some s' else none) = _
    rw [Nat.zero_add]
    rfl
theorem rtf_rtl {L : Bool} {d s : List Nat} (h : rtl L d [] = some s) : rtf L (fun i => d.getD i 0) 0 d.length [] = some s := by
  rw [rtf_take d d.length (Nat.le_refl _), List.take_length]
  exact h
theorem qst_ty {b : Nat → Nat} {n : Nat} {s : PS} (h : qst b n = .inr s) : ∃ ty, rtf false (fun i => s.2.2.getD i 0) 0 s.2.2.length [] = some [ty] ∧ ((wI b n s00 = 9 ∨ wI b n s00 = 22 ∨ wI b n s00 = 23) → ty = 1) ∧ isQ (wI b n s00) ∧ (ty = 0 ∨ ty = 1) := by
  obtain ⟨s1, h1, h2⟩ := pbd_inr h
  have e : s1 = s := by
    unfold qEd at h2
    split at h2
    · cases h2
      rfl
    · exact nomatch h2
  subst e
  have te := tkE_at b (n := n) (p := 0) (Nat.zero_le _) false
  unfold qbd at h1
  by_cases t : wI b n s00 = 9 ∨ wI b n s00 = 22 ∨ wI b n s00 = 23
  · rw [if_pos t] at h1
    obtain ⟨-, -, d, e1, -, e2⟩ := tst_g (lvF_g b n false 6) (nxt b n s00) s1 te.2.1 h1
    have e3 : s1.2.2 = d := e1
    rw [e3]
    exact ⟨1, rtf_rtl (e2 [] (by decide)), fun _ => rfl, by unfold isQ; omega, Or.inr rfl⟩
  · rw [if_neg t] at h1
    by_cases t2 : wI b n s00 = 24 ∨ wI b n s00 = 25 ∨ wI b n s00 = 26
    · rw [if_pos t2] at h1
      obtain ⟨-, -, d, e1, -, e2⟩ := smm_g (lvP_g b n false 6) (nxt b n s00) s1 te.2.1 h1
      have e3 : s1.2.2 = d := e1
      rw [e3]
      exact ⟨0, rtf_rtl (e2 [] (by decide)), fun z => absurd z t, by unfold isQ; omega, Or.inl rfl⟩
    · rw [if_neg t2] at h1
      exact nomatch h1
def aqZ (w : Nat) (x : Nat → Int) : Nat → Int
  | 0 => if w = 9 ∨ w = 22 then -1 else 0
  | t + 1 => if w = 9 then (if x t ≠ 0 ∧ aqZ w x t = -1 then (t : Int) else aqZ w x t) else if w = 22 then (if x t ≠ 0 then (t : Int) else aqZ w x t) else if w = 23 ∨ w = 24 then aqZ w x t + x t else if w = 25 then (if t = 0 ∨ aqZ w x t < x t then x t else aqZ w x t) else (if t = 0 ∨ x t < aqZ w x t then x t else aqZ w x t)
theorem aqZ_b (w : Nat) (x : Nat → Int) (T : Nat) (hT : T ≤ 6) (hx : ∀ t, t < T → -1000000 ≤ x t ∧ x t ≤ 1000000) : ∀ t, t ≤ T → -1000000 * (t + 1 : Int) ≤ aqZ w x t ∧ aqZ w x t ≤ 1000000 * (t + 1 : Int)
  | 0, _ => by
    rw [aqZ]
    split <;> omega
  | t + 1, ht => by
    have a := aqZ_b w x T hT hx t (by omega)
    have b := hx t (by omega)
    rw [aqZ]
    repeat' split
    all_goals omega
noncomputable def xqZ (h : KH) (d : List Nat) (t : Nat) : Int := match rev (pvQ h t) (yvQ h t) (fun i => d.getD i 0) d.length with
  | [v] => v
  | _ => 0
theorem xqZ_eq {h : KH} {d : List Nat} {t : Nat} {v : Int} (e : rev (pvQ h t) (yvQ h t) (fun i => d.getD i 0) d.length = [v]) : xqZ h d t = v := by
  unfold xqZ
  rw [e]
theorem xqZ_b {h : KH} {c t ty : Nat} {d : List Nat} (rc : RC h c) (rs : RS h) (rr : Rrule h c) (ht : t < kN h 198 4) (hd : rtf false (fun i => d.getD i 0) 0 d.length [] = some [ty]) (h01 : ty = 0 ∨ ty = 1) : (-1000000 ≤ xqZ h d t ∧ xqZ h d t ≤ 1000000) ∧ (ty = 1 → xqZ h d t = 0 ∨ xqZ h d t = 1) ∧ rev (pvQ h t) (yvQ h t) (fun i => d.getD i 0) d.length = [xqZ h d t] := by
  have ok := rev_ok (pvQ_b rc rs ht) (yvQ_b rc rr rs ht) d.length hd
  match e : rev (pvQ h t) (yvQ h t) (fun i => d.getD i 0) d.length, ok with
  | [v], ok =>
    rw [xqZ_eq e]
    have ov : vo ty v := ok.1
    unfold vo at ov
    rcases h01 with rfl | rfl
    · rw [if_neg (by decide)] at ov
      exact ⟨ov, fun z => absurd z (by decide), rfl⟩
    · rw [if_pos rfl] at ov
      exact ⟨by rcases ov with z | z <;> omega, fun _ => ov, rfl⟩
theorem x_take {g : KH} {n t w : Nat} {pv : Nat → Int} {yv : Int → Int} {d : List Nat} {ty : Nat} {x : Nat → Int} (rg : kRefs g) (hp : ∀ k, pal false k → -1000000 ≤ pv k ∧ pv k ≤ 1000000) (hy : ∀ n, -1000000 ≤ yv n ∧ yv n ≤ 1000000) (en : n = d.length) (n16 : n ≤ 1600) (e2 : kI g 4 2 = Int32.ofNat n) (ec : ∀ i, i < n → kI g 5 i = csI (d.getD i 0)) (vx : Vx g 7 false pv yv) (ht : rtf false (fun i => d.getD i 0) 0 n [] = some [ty]) (hx : ∀ v, rev pv yv (fun i => d.getD i 0) n = [v] → x t = v)
    (iw : isQ w) (kw : kI g 3 2 = Int32.ofNat w) (ka : (kL g 3 3).toInt = aqZ w x t) (kn : kI g 3 4 = if t = 0 then 1 else 0) (t6 : t < 6) (ab : -100000000 ≤ aqZ w x t ∧ aqZ w x t ≤ 100000000) (xb : -1000000 ≤ x t ∧ x t ≤ 1000000) : ∃ g', f_X6_take g 3 (Int32.ofNat t) = some g' ∧ kfp (fun l i => l = 6 ∨ (l = 3 ∧ (i = 3 ∨ i = 4))) g g' ∧ (kL g' 3 3).toInt = aqZ w x (t + 1) ∧ kI g' 3 4 = 0 := by
  have cd : Cd g 4 5 6 := ⟨⟨kk4, rf4_0 rg, rf4_1 rg⟩, ⟨kk5, kn5, by omega⟩, ⟨kk6, kn6, by omega⟩, by omega, by omega⟩
  obtain ⟨z, g1, v, e1, f1, er, ez, -⟩ := x_resultFor hp hy cd e2 n16 ec vx (by omega) ht
  have xv := hx v er
  rw [← xv] at ez
  have K : ∀ i, kI g1 3 i = kI g 3 i := fun i => f1.2.2.1 _ _ (by omega)
  have L3 : kL g1 3 3 = kL g 3 3 := f1.2.2.2 _ _ (by omega)
  have z0 : z = 0 ↔ x t = 0 := by rw [← Int32.toInt_inj, ez]; exact Iff.rfl
  have z64 : z.toInt64.toInt = x t := by rw [Int32.toInt_toInt64, ez]
  -- the answer written
  have wr : ∀ (a : Int64), a.toInt = aqZ w x (t + 1) → ∃ g', f_X6_take_b161 (ksL g1 3 3 a) 3 = some g' ∧ kfp (fun l i => l = 6 ∨ (l = 3 ∧ (i = 3 ∨ i = 4))) g g' ∧ (kL g' 3 3).toInt = aqZ w x (t + 1) ∧ kI g' 3 4 = 0 := fun a ha => by
    unfold f_X6_take_b161
    rw [if_pos kk3, kl_e]
    exact ⟨_, rfl, ((f1.wide fun l i z => Or.inl z).sL _ (Or.inr ⟨rfl, Or.inl rfl⟩)).sI _ (Or.inr ⟨rfl, Or.inr rfl⟩), by rw [kL_sI, kL_sL, if_pos ⟨rfl, rfl⟩]; exact ha, by rw [kI_sI, if_pos ⟨rfl, rfl⟩]⟩
  have no : aqZ w x t = aqZ w x (t + 1) → ∃ g', f_X6_take_b161 g1 3 = some g' ∧ kfp (fun l i => l = 6 ∨ (l = 3 ∧ (i = 3 ∨ i = 4))) g g' ∧ (kL g' 3 3).toInt = aqZ w x (t + 1) ∧ kI g' 3 4 = 0 := fun ha => by
    unfold f_X6_take_b161
    rw [if_pos kk3, kl_e]
    exact ⟨_, rfl, (f1.wide fun l i z => Or.inl z).sI _ (Or.inr ⟨rfl, Or.inr rfl⟩), by rw [kL_sI, L3, ka]; exact ha, by rw [kI_sI, if_pos ⟨rfl, rfl⟩]⟩
  have w27 : w < 27 := by unfold isQ at iw; omega
  have wq : ∀ k, k < 27 → (kI g1 3 2 = Int32.ofNat k ↔ w = k) := fun k hk => by rw [K, kw, n32_eq (by omega) (by omega)]
  unfold f_X6_take
  rw [if_pos kk3, rf3_0 rg, if_pos (show 4 < 999999 by omega), rf3_1 rg, if_pos (show 7 < 999999 by omega), if_pos kk4, e1, kb_s]
  dsimp only
  unfold isQ at iw
  by_cases y9 : w = 9
  · rw [if_pos (show kI g1 3 2 = (9 : Int32) from (wq 9 (by omega)).mpr y9)]
    have ea : aqZ w x (t + 1) = if x t ≠ 0 ∧ aqZ w x t = -1 then (t : Int) else aqZ w x t := by rw [aqZ, if_pos y9]
    have b36 : x t = 0 ∨ ¬ aqZ w x t = -1 → ∃ g', f_X6_take_b36 g1 3 (Int32.ofNat t) z = some g' ∧ kfp (fun l i => l = 6 ∨ (l = 3 ∧ (i = 3 ∨ i = 4))) g g' ∧ (kL g' 3 3).toInt = aqZ w x (t + 1) ∧ kI g' 3 4 = 0 := fun hn => by
      unfold f_X6_take_b36 f_X6_take_b58
      rw [if_pos kk3, if_neg (show ¬ kI g1 3 2 = (22 : Int32) from fun q => by have := (wq 22 (by omega)).mp q; omega), if_pos kk3, if_neg (show ¬ kI g1 3 2 = (23 : Int32) from fun q => by have := (wq 23 (by omega)).mp q; omega), if_neg (show ¬ kI g1 3 2 = (24 : Int32) from fun q => by have := (wq 24 (by omega)).mp q; omega), if_neg (show ¬ kI g1 3 2 = (25 : Int32) from fun q => by have := (wq 25 (by omega)).mp q; omega), if_neg (show ¬ kI g1 3 2 = (26 : Int32) from fun q => by have := (wq 26 (by omega)).mp q; omega)]
      exact no (by rw [ea, if_neg (by rcases hn with q | q; exact fun u => u.1 q; exact fun u => q u.2)])
    by_cases x0 : x t = 0
    · rw [if_pos (z0.mpr x0)]
      exact b36 (Or.inl x0)
    · rw [if_neg (fun q => x0 (z0.mp q))]
      have c1 : lg_cmp (kL g1 3 3) (-1 : Int64) = 0 ↔ aqZ w x t = -1 := lgi_eq (by rw [L3, ka]) rfl
      by_cases m1 : aqZ w x t = -1
      · rw [if_pos (c1.mpr m1)]
        unfold f_X6_take_b49
        rw [if_pos kk3, kl_e]
        exact wr _ (by rw [ea, if_pos ⟨x0, m1⟩, n32_toI64 (by omega), n64_toInt (by omega)])
      · rw [if_neg (fun q => m1 (c1.mp q))]
        exact b36 (Or.inr m1)
  · rw [if_neg (show ¬ kI g1 3 2 = (9 : Int32) from fun q => y9 ((wq 9 (by omega)).mp q))]
    unfold f_X6_take_b36
    rw [if_pos kk3]
    by_cases y22 : w = 22
    · have ea : aqZ w x (t + 1) = if x t ≠ 0 then (t : Int) else aqZ w x t := by rw [aqZ, if_neg y9, if_pos y22]
      rw [if_pos (show kI g1 3 2 = (22 : Int32) from (wq 22 (by omega)).mpr y22)]
      by_cases x0 : x t = 0
      · rw [if_pos (z0.mpr x0)]
        unfold f_X6_take_b58
        rw [if_pos kk3, if_neg (show ¬ kI g1 3 2 = (23 : Int32) from fun q => by have := (wq 23 (by omega)).mp q; omega), if_neg (show ¬ kI g1 3 2 = (24 : Int32) from fun q => by have := (wq 24 (by omega)).mp q; omega), if_neg (show ¬ kI g1 3 2 = (25 : Int32) from fun q => by have := (wq 25 (by omega)).mp q; omega), if_neg (show ¬ kI g1 3 2 = (26 : Int32) from fun q => by have := (wq 26 (by omega)).mp q; omega)]
        exact no (by rw [ea, if_neg (fun u => u x0)])
      · rw [if_neg (fun q => x0 (z0.mp q))]
        unfold f_X6_take_b49
        rw [if_pos kk3, kl_e]
        exact wr _ (by rw [ea, if_pos x0, n32_toI64 (by omega), n64_toInt (by omega)])
    · rw [if_neg (show ¬ kI g1 3 2 = (22 : Int32) from fun q => y22 ((wq 22 (by omega)).mp q))]
      unfold f_X6_take_b58
      rw [if_pos kk3]
      have b76 : (w = 23 ∨ w = 24) → ∃ g', f_X6_take_b76 g1 3 z = some g' ∧ kfp (fun l i => l = 6 ∨ (l = 3 ∧ (i = 3 ∨ i = 4))) g g' ∧ (kL g' 3 3).toInt = aqZ w x (t + 1) ∧ kI g' 3 4 = 0 := fun hw => by
        unfold f_X6_take_b76
        rw [if_pos kk3, kl_e]
        refine wr _ ?_
        rw [aqZ, if_neg y9, if_neg y22, if_pos hw, Int64.toInt_add, L3, ka, z64, Int.bmod_eq_of_le (by omega) (by omega)]
      by_cases y23 : w = 23
      · rw [if_pos (show kI g1 3 2 = (23 : Int32) from (wq 23 (by omega)).mpr y23)]
        exact b76 (Or.inl y23)
      · rw [if_neg (show ¬ kI g1 3 2 = (23 : Int32) from fun q => y23 ((wq 23 (by omega)).mp q))]
        by_cases y24 : w = 24
        · rw [if_pos (show kI g1 3 2 = (24 : Int32) from (wq 24 (by omega)).mpr y24)]
          exact b76 (Or.inr y24)
        · rw [if_neg (show ¬ kI g1 3 2 = (24 : Int32) from fun q => y24 ((wq 24 (by omega)).mp q))]
          have k4 : kI g1 3 4 = 0 ↔ t ≠ 0 := by
            rw [K, kn]
            by_cases q : t = 0
            · rw [if_pos q]
              exact ⟨fun u => absurd u (by decide), fun u => absurd q u⟩
            · rw [if_neg q]
              exact ⟨fun _ => q, fun _ => rfl⟩
          by_cases y25 : w = 25
          · have ea : aqZ w x (t + 1) = if t = 0 ∨ aqZ w x t < x t then x t else aqZ w x t := by rw [aqZ, if_neg y9, if_neg y22, if_neg (by omega), if_pos y25]
            rw [if_pos (show kI g1 3 2 = (25 : Int32) from (wq 25 (by omega)).mpr y25)]
            by_cases q : t = 0
            · rw [if_neg (fun u => k4.mp u q)]
              unfold f_X6_take_b121
              rw [if_pos kk3, kl_e]
              exact wr _ (by rw [ea, if_pos (Or.inl q), z64])
            · rw [if_pos (k4.mpr q)]
              have mx : ∃ a, f_J9_max_f86c9 g1 (kL g1 3 3) z.toInt64 = some a ∧ a.toInt = aqZ w x (t + 1) := by
                have c1 := lgc_lt (kL g1 3 3) z.toInt64
                rw [L3, ka, z64] at c1
                unfold f_J9_max_f86c9
                rw [ea, L3]
                by_cases u : aqZ w x t < x t
                · rw [if_pos (c1.mpr u), if_pos (Or.inr u)]
                  exact ⟨_, rfl, z64⟩
                · rw [if_neg (fun q => u (c1.mp q)), if_neg (fun q' => q'.elim q u)]
                  exact ⟨_, rfl, ka⟩
              obtain ⟨a, ma, mb⟩ := mx
              unfold f_X6_take_b121
              rw [ma, kb_s, if_pos kk3, kl_e]
              exact wr a mb
          · have y26 : w = 26 := by
              rcases iw with u | u | u | u | u | u
              · exact absurd u y9
              · exact absurd u y22
              · exact absurd u y23
              · exact absurd u y24
              · exact absurd u y25
              · exact u
            have ea : aqZ w x (t + 1) = if t = 0 ∨ x t < aqZ w x t then x t else aqZ w x t := by rw [aqZ, if_neg y9, if_neg y22, if_neg (by omega), if_neg y25]
            rw [if_neg (show ¬ kI g1 3 2 = (25 : Int32) from fun q => y25 ((wq 25 (by omega)).mp q)), if_pos (show kI g1 3 2 = (26 : Int32) from (wq 26 (by omega)).mpr y26)]
            by_cases q : t = 0
            · rw [if_neg (fun u => k4.mp u q)]
              unfold f_X6_take_b158
              rw [if_pos kk3, kl_e]
              exact wr _ (by rw [ea, if_pos (Or.inl q), z64])
            · rw [if_pos (k4.mpr q)]
              have mx : ∃ a, f_J9_min_f86c9 g1 (kL g1 3 3) z.toInt64 = some a ∧ a.toInt = aqZ w x (t + 1) := by
                have c1 := lgc_gt (kL g1 3 3) z.toInt64
                rw [L3, ka, z64] at c1
                unfold f_J9_min_f86c9
                rw [ea, L3]
                by_cases u : x t < aqZ w x t
                · rw [if_pos (c1.mpr u), if_pos (Or.inr u)]
                  exact ⟨_, rfl, z64⟩
                · rw [if_neg (fun q => u (c1.mp q)), if_neg (fun q' => q'.elim q u)]
                  exact ⟨_, rfl, ka⟩
              obtain ⟨a, ma, mb⟩ := mx
              unfold f_X6_take_b158
              rw [ma, kb_s, if_pos kk3, kl_e]
              exact wr a mb
