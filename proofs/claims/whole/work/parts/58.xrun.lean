/-! the class's run of a Code -/
theorem x_body {g : KH} {v sl kl vl i n k m : Nat} (cd : Cd g v sl kl) (hn : kI g v 2 = Int32.ofNat n) (n16 : n ≤ 1600) (hi : i < n) {s z one other : Int32} (hs : kI g sl i = s) (hk : f_X1_needOf g s = some (Int32.ofNat k)) (k2 : k ≤ 2) (m60 : m + k ≤ 62)
    (h1 : one = if 0 < k then kI g kl m else 0) (h2 : other = if 1 < k then kI g kl (m + 1) else 0) (hr : f_X1_resultOf g s one other vl = some z) :
    f_X1_resultFor_l4 v vl (Int32.ofNat (m + k), Int32.ofNat i, g) = some (.inl (Int32.ofNat (m + 1), Int32.ofNat (i + 1), ksI g kl m z)) := by
  obtain ⟨⟨a1, a2, a3⟩, ⟨b1, b2, b3⟩, ⟨c1, c2, c3⟩, d1, d2⟩ := cd
  have e87 : f_X1_resultFor_b87 g v vl (Int32.ofNat m) (Int32.ofNat i) s one other = some (.inl (Int32.ofNat (m + 1), Int32.ofNat (i + 1), ksI g kl m z)) := by
    unfold f_X1_resultFor_b87
    rw [if_pos a1, a3, if_pos c3, hr, kb_s, if_pos c1, c2, if_neg (by rw [n32_cl (by omega)]; exact fun z => z.elim (n32_nn (by omega)) (by omega)), n32_cl (by omega), kl_e, kl_e, kl_e, n32_addl, n32_addl]
  have e67 : f_X1_resultFor_b67 g v vl (Int32.ofNat m) (Int32.ofNat i) s (Int32.ofNat k) one = some (.inl (Int32.ofNat (m + 1), Int32.ofNat (i + 1), ksI g kl m z)) := by
    unfold f_X1_resultFor_b67
    by_cases q : 1 < k
    · rw [if_pos q] at h2
      rw [if_neg (by rw [n32_lel (by omega) (by omega)]; omega), if_pos a1, a3, if_pos c3, if_pos c1, c2, n32_addl, if_neg (by rw [n32_cl (by omega)]; exact fun z => z.elim (n32_nn (by omega)) (by omega)), n32_cl (by omega), ← h2, e87]
    · rw [if_neg q] at h2
      rw [if_pos (by rw [n32_lel (by omega) (by omega)]; omega), ← h2, e87]
  unfold f_X1_resultFor_l4
  dsimp only
  rw [if_pos a1, hn, if_neg (by rw [n32_le (by omega) (by omega)]; omega), a2, if_pos b3, if_pos b1, b2, if_neg (by rw [n32_cl (by omega)]; exact fun z => z.elim (n32_nn (by omega)) (by omega)), n32_cl (by omega), hs, kl_e, hk, kb_s, if_neg (by rw [n32_lt (by omega) (by omega)]; omega), a3, if_pos c3, if_pos c1, c2, n32_sub (by omega), show m + k - k = m by omega, if_pos (by rw [n32_lt (by omega) (by omega)]; omega), kl_e]
  by_cases q : 0 < k
  · rw [if_pos q] at h1
    rw [if_neg (by rw [show (0 : Int32) = Int32.ofNat 0 from rfl, n32_le (by omega) (by omega)]; omega), if_neg (by rw [n32_cl (by omega)]; exact fun z => z.elim (n32_nn (by omega)) (by omega)), n32_cl (by omega), ← h1, e67]
  · rw [if_neg q] at h1
    rw [if_pos (by rw [show (0 : Int32) = Int32.ofNat 0 from rfl, n32_le (by omega) (by omega)]; omega), ← h1, e67]
/-- the values of a Code -/
def Vx (h : KH) (vl : Nat) (L : Bool) (pv : Nat → Int) (yv : Int → Int) : Prop := (kkind vl = 20 ∧ klen vl = 33) ∧ (∀ k, pal L k → (kI h vl (pwN k)).toInt = pv k) ∧ (L = false → (∀ n : Nat, n < 6 → yv n = (kI h vl (27 + n)).toInt) ∧ ∀ n : Int, ¬ (0 ≤ n ∧ n < 6) → yv n = 0)
theorem Vx.same {h h' : KH} {vl : Nat} {L : Bool} {pv : Nat → Int} {yv : Int → Int} (x : Vx h vl L pv yv) (e : ∀ i, kI h' vl i = kI h vl i) : Vx h' vl L pv yv := by
  refine ⟨x.1, fun k hk => by rw [e]; exact x.2.1 k hk, fun hL => ⟨fun n hn => by rw [e]; exact (x.2.2 hL).1 n hn, (x.2.2 hL).2⟩⟩
theorem x_step {g : KH} {v sl kl vl i n c : Nat} {L : Bool} {pv : Nat → Int} {yv : Int → Int} (cd : Cd g v sl kl) (hn : kI g v 2 = Int32.ofNat n) (n16 : n ≤ 1600) (hi : i < n) (hs : kI g sl i = csI c) (hv : Vx g vl L pv yv) {ts ts' : List Nat} {vs : List Int} (ht : rty L c ts = some ts') (l60 : ts'.length ≤ 60) (ok : vok ts vs) (hp : Pl g kl vs) :
    ∃ z m, f_X1_resultFor_l4 v vl (Int32.ofNat vs.length, Int32.ofNat i, g) = some (.inl (Int32.ofNat (rstep pv yv c vs).length, Int32.ofNat (i + 1), ksI g kl m z)) ∧ Pl (ksI g kl m z) kl (rstep pv yv c vs) := by
  have len := vok_len ts vs ok
  rcases rty_cases ht with ⟨h1, h2, rfl⟩ | ⟨rfl, h2, r, rfl, rfl⟩ | ⟨h1, h2, h3, rfl⟩ | ⟨rfl, rfl⟩ | ⟨rfl, r, rfl, rfl⟩ | ⟨h1, h2, r, rfl, rfl⟩ | ⟨h1, h2, r, rfl, rfl⟩ | ⟨h1, r, rfl, rfl⟩
  · have ec : csI c = Int32.ofNat (c - 1000) := if_pos h1
    have er : rstep pv yv c vs = ((c - 1000 : Nat) : Int) :: vs := if_pos h1
    rw [ec] at hs
    rw [er]
    simp only [List.length_cons] at l60
    have b := x_body (k := 0) (m := vs.length) cd hn n16 hi hs (x_needn g (by omega)) (by omega) (by omega) rfl rfl (x_resn g (by omega) _ _ vl)
    exact ⟨_, _, b, by rw [kI_sI, if_pos ⟨rfl, rfl⟩, n32_toInt (by omega)], hp.set (Or.inr (Nat.le_refl _))⟩
  · match vs, ok, hp with
    | a :: vs, ok, hp =>
      have ha : -1000000 ≤ a ∧ a ≤ 1000000 := ok.1
      simp only [List.length_cons] at l60 len
      have hz : ∃ z, f_X1_resultOf g (csI 60) (kI g kl vs.length) 0 vl = some z ∧ z.toInt = yv a := by
        rw [x_res60]
        obtain ⟨y1, y2⟩ := hv.2.2 h2
        have z0 : (0 : Int32).toInt = 0 := rfl
        have z6 : (6 : Int32).toInt = 6 := rfl
        by_cases p0 : a < 0
        · rw [if_pos ((i32_lt hp.1 z0).mpr p0)]
          exact ⟨0, rfl, by rw [y2 a (by omega)]; rfl⟩
        · rw [if_neg (fun q => p0 ((i32_lt hp.1 z0).mp q))]
          by_cases p6 : 6 ≤ a
          · rw [if_pos ((i32_le z6 hp.1).mpr p6)]
            exact ⟨0, rfl, by rw [y2 a (by omega)]; rfl⟩
          · rw [if_neg (fun q => p6 ((i32_le z6 hp.1).mp q))]
            have ea : a = ((a.toNat : Nat) : Int) := by omega
            have e1 : kI g kl vs.length = Int32.ofNat a.toNat := i32_of (by rw [hp.1]; exact ea) (by omega)
            rw [e1, n32_addr, x_valueAt g hv.1.1 hv.1.2 (by omega), kb_s]
            exact ⟨_, rfl, by rw [ea, y1 a.toNat (by omega)]; rfl⟩
      obtain ⟨z, z1, z2⟩ := hz
      have b := x_body (k := 1) (m := vs.length) cd hn n16 hi hs (x_need60 g) (by omega) (by omega) rfl rfl z1
      exact ⟨_, _, b, by rw [kI_sI, if_pos ⟨rfl, rfl⟩]; exact z2, hp.2.set (Or.inr (Nat.le_refl _))⟩
  · have er : rstep pv yv c vs = pv (c - 40) :: vs := by
      unfold rstep
      rw [if_neg (by omega), if_neg (by omega), if_pos h1]
    rw [er]
    simp only [List.length_cons] at l60
    have hk : f_X1_needOf g (csI c) = some (Int32.ofNat 0) := by
      have e : c = 40 ∨ c = 41 ∨ c = 42 ∨ c = 43 ∨ c = 44 ∨ c = 45 ∨ c = 46 ∨ c = 47 := by omega
      rcases e with rfl | rfl | rfl | rfl | rfl | rfl | rfl | rfl
      · exact x_need0_40 g
      · exact x_need0_41 g
      · exact x_need0_42 g
      · exact x_need0_43 g
      · exact x_need0_44 g
      · exact x_need0_45 g
      · exact x_need0_46 g
      · exact x_need0_47 g
    have hpal : pal L (c - 40) := by
      unfold pal
      rcases h3 with h3 | h3
      · exact Or.inl ⟨h3.1, by omega⟩
      · exact Or.inr ⟨h3.1, by omega, by omega⟩
    have b := x_body (k := 0) (m := vs.length) cd hn n16 hi hs hk (by omega) (by omega) rfl rfl (x_resp g ⟨h1, h2⟩ _ _ hv.1.1 hv.1.2)
    exact ⟨_, _, b, by rw [kI_sI, if_pos ⟨rfl, rfl⟩]; exact hv.2.1 _ hpal, hp.set (Or.inr (Nat.le_refl _))⟩
  · simp only [List.length_cons] at l60
    have b := x_body (k := 0) (m := vs.length) cd hn n16 hi hs (x_need13 g) (by omega) (by omega) rfl rfl (x_res13 g _ _ vl)
    exact ⟨_, _, b, by rw [kI_sI, if_pos ⟨rfl, rfl⟩]; rfl, hp.set (Or.inr (Nat.le_refl _))⟩
  · match vs, ok, hp with
    | a :: vs, ok, hp =>
      have ha : a = 0 ∨ a = 1 := ok.1
      simp only [List.length_cons] at l60 len
      have b := x_body (k := 1) (m := vs.length) cd hn n16 hi hs (x_need1 g) (by omega) (by omega) rfl rfl (x_res12 g _ _ vl)
      refine ⟨_, _, b, ?_, hp.2.set (Or.inr (Nat.le_refl _))⟩
      rw [kI_sI, if_pos ⟨rfl, rfl⟩, if_pos (show 0 < 1 by omega)]
      rcases i32_01 hp.1 ha with ⟨e1, rfl⟩ | ⟨e1, rfl⟩
      · rw [e1]; decide
      · rw [e1]; decide
  · match vs, ok, hp with
    | y :: x :: vs, ok, hp =>
      have hy : -1000000 ≤ y ∧ y ≤ 1000000 := ok.1
      have hx : -1000000 ≤ x ∧ x ≤ 1000000 := ok.2.1
      simp only [List.length_cons] at l60 len
      obtain ⟨z, z1, z2⟩ := x_bin g (c := c) (by omega) hp.2.1 hp.1 hx hy vl
      have hk : f_X1_needOf g (csI c) = some (Int32.ofNat 2) := by
        have e : c = 1 ∨ c = 2 ∨ c = 3 ∨ c = 4 ∨ c = 5 ∨ c = 6 := by omega
        rcases e with rfl | rfl | rfl | rfl | rfl | rfl
        · exact x_need2_1 g
        · exact x_need2_2 g
        · exact x_need2_3 g
        · exact x_need2_4 g
        · exact x_need2_5 g
        · exact x_need2_6 g
      have er : rstep pv yv c (y :: x :: vs) = rjoin c x y :: vs := by
        unfold rstep
        rw [if_neg (by omega), if_neg (by omega), if_neg (by omega), if_neg (by omega), if_neg (by omega)]
      rw [er]
      have b := x_body (k := 2) (m := vs.length) cd hn n16 hi hs hk (by omega) (by omega) rfl rfl z1
      exact ⟨_, _, b, by rw [kI_sI, if_pos ⟨rfl, rfl⟩]; exact z2, hp.2.2.set (Or.inr (Nat.le_refl _))⟩
  · match vs, ok, hp with
    | y :: x :: vs, ok, hp =>
      have hy : -1000000 ≤ y ∧ y ≤ 1000000 := ok.1
      have hx : -1000000 ≤ x ∧ x ≤ 1000000 := ok.2.1
      simp only [List.length_cons] at l60 len
      obtain ⟨z, z1, z2⟩ := x_bin g (c := c) (by omega) hp.2.1 hp.1 hx hy vl
      have hk : f_X1_needOf g (csI c) = some (Int32.ofNat 2) := by
        have e : c = 7 ∨ c = 8 ∨ c = 9 := by omega
        rcases e with rfl | rfl | rfl
        · exact x_need2_7 g
        · exact x_need2_8 g
        · exact x_need2_9 g
      have er : rstep pv yv c (y :: x :: vs) = rjoin c x y :: vs := by
        unfold rstep
        rw [if_neg (by omega), if_neg (by omega), if_neg (by omega), if_neg (by omega), if_neg (by omega)]
      rw [er]
      have b := x_body (k := 2) (m := vs.length) cd hn n16 hi hs hk (by omega) (by omega) rfl rfl z1
      exact ⟨_, _, b, by rw [kI_sI, if_pos ⟨rfl, rfl⟩]; exact z2, hp.2.2.set (Or.inr (Nat.le_refl _))⟩
  · match vs, ok, hp with
    | y :: x :: vs, ok, hp =>
      have hy : y = 0 ∨ y = 1 := ok.1
      have hx : x = 0 ∨ x = 1 := ok.2.1
      simp only [List.length_cons] at l60 len
      obtain ⟨z, z1, z2⟩ := x_bin2 g h1 hp.2.1 hp.1 hx hy vl
      have hk : f_X1_needOf g (csI c) = some (Int32.ofNat 2) := by
        rcases h1 with rfl | rfl
        · exact x_need2_10 g
        · exact x_need2_11 g
      have er : rstep pv yv c (y :: x :: vs) = rjoin c x y :: vs := by
        unfold rstep
        rw [if_neg (by omega), if_neg (by omega), if_neg (by omega), if_neg (by omega), if_neg (by omega)]
      rw [er]
      have b := x_body (k := 2) (m := vs.length) cd hn n16 hi hs hk (by omega) (by omega) rfl rfl z1
      exact ⟨_, _, b, by rw [kI_sI, if_pos ⟨rfl, rfl⟩]; exact z2, hp.2.2.set (Or.inr (Nat.le_refl _))⟩
theorem x_resultFor {h : KH} {v sl kl vl n ty : Nat} {L : Bool} {pv : Nat → Int} {yv : Int → Int} {cdN : Nat → Nat} (hp : ∀ k, pal L k → -1000000 ≤ pv k ∧ pv k ≤ 1000000) (hy : ∀ n, -1000000 ≤ yv n ∧ yv n ≤ 1000000)
    (cd : Cd h v sl kl) (hn : kI h v 2 = Int32.ofNat n) (n16 : n ≤ 1600) (hs : ∀ i, i < n → kI h sl i = csI (cdN i)) (hv : Vx h vl L pv yv) (hvl : vl ≠ kl) (ht : rtf L cdN 0 n [] = some [ty]) :
    ∃ z h' x, f_X1_resultFor h v vl = some (z, h') ∧ kfp (fun l _ => l = kl) h h' ∧ rev pv yv cdN n = [x] ∧ z.toInt = x ∧ vo ty x := by
  have okn := rev_ok hp hy n ht
  obtain ⟨x, ex, vx⟩ : ∃ x, rev pv yv cdN n = [x] ∧ vo ty x := by
    match rev pv yv cdN n, okn with
    | [x], okn => exact ⟨x, rfl, okn.1⟩
  obtain ⟨r, e, t, g, er, f, pl⟩ := kloop_inv (body := f_X1_resultFor_l4 v vl) (fun i s => s.1 = Int32.ofNat (rev pv yv cdN i).length ∧ s.2.1 = Int32.ofNat i ∧ kfp (fun l _ => l = kl) h s.2.2 ∧ Pl s.2.2 kl (rev pv yv cdN i))
    (fun r => ∃ t g, r = .inl (t, g) ∧ kfp (fun l _ => l = kl) h g ∧ t = Int32.ofNat 1 ∧ Pl g kl [x]) n (s0 := ((0 : Int32), (0 : Int32), h)) (by omega) ⟨rfl, rfl, kfp.rf, trivial⟩ (fun i s hi hP => by
      obtain ⟨s1, s2, g⟩ := s
      obtain ⟨p1, p2, p3, p4⟩ := hP
      dsimp only at p1 p2 p3 p4
      subst p1 p2
      obtain ⟨ts', e1⟩ := rtf_pre n ht (i + 1) (by omega)
      obtain ⟨ts, e2, e3, e4⟩ := rtf_step e1
      rw [Nat.zero_add] at e3
      obtain ⟨z, m, q1, q2⟩ := x_step (cd.same p3.2.1) ((p3.2.2.1 _ _ cd.2.2.2.1).trans hn) n16 hi ((p3.2.2.1 _ _ cd.2.2.2.2).trans (hs i hi)) (hv.same fun j => p3.2.2.1 _ _ hvl) e3 e4 (rev_ok hp hy i e2) p4
      exact ⟨_, q1, rfl, rfl, p3.sI _ rfl, q2⟩) (fun s hP => by
      obtain ⟨s1, s2, g⟩ := s
      obtain ⟨p1, p2, p3, p4⟩ := hP
      dsimp only at p1 p2 p3 p4
      subst p1 p2
      rw [ex] at p4 ⊢
      refine ⟨_, ?_, _, g, rfl, p3, rfl, p4⟩
      unfold f_X1_resultFor_l4
      dsimp only
      rw [if_pos cd.1.1, (p3.2.2.1 _ _ cd.2.2.2.1).trans hn, if_pos (by rw [n32_le (by omega) (by omega)]; omega)]
      rfl)
  obtain ⟨et, pl⟩ := pl
  refine ⟨kI g kl 0, g, x, ?_, f, ex, pl.1, vx⟩
  obtain ⟨⟨a1, a2, a3⟩, -, ⟨c1, c2, c3⟩, -, -⟩ := cd.same f.2.1
  unfold f_X1_resultFor
  rw [e, kb_s, er, ksum_l]
  dsimp only
  rw [et, if_neg (by decide), if_pos a1, a3, if_pos c3, if_pos c1, c2, if_neg (by decide)]
  rfl
