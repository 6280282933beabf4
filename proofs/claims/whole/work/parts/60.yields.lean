/-! who yields: the rule, on both sides -/
def cdY (h : KH) (i : Nat) : Nat := kN h 206 (1600 + i)
def Rrule (h : KH) (c : Nat) : Prop := (kI h c 8 = 0 ∧ kI h 204 1 = -1) ∨ (kI h c 8 = 1 ∧ kI h 204 1 = 0 ∧ ∃ n, n ≤ 1600 ∧ kI h 205 1 = Int32.ofNat n ∧ kI h (c + 21) 2 = Int32.ofNat n ∧ (∀ i, i < n → cn h 206 (1600 + i) 10999 ∧ kI h (c + 22) i = csI (cdY h i)) ∧ rtf true (cdY h) 0 n [] = some [1])
def pvY (h : KH) (k t tr x p : Nat) : Int := if p = 0 then (kN h 200 (24 + 4 * k) : Int) else if p = 1 then (kN h 200 (25 + 4 * k) : Int) else if p = 2 then (kN h 201 (6 + t) : Int) else if p = 3 then (x : Int) else if p = 4 then (tr : Int) else 0
/-- whether one of a KIND yields at a test, when true or false, HEARD so often -/
def ybN (h : KH) (k t tr x : Nat) : Nat := if kI h 204 1 = -1 then tr else match rev (pvY h k t tr x) (fun _ => 0) (cdY h) (kN h 205 1) with | [v] => v.toNat | _ => 0
def Wlw (l : Nat) : Prop := l = 200 ∨ l = 201 ∨ l = 204 ∨ l = 205 ∨ l = 206
theorem ybN_eq {h h' : KH} (e : ∀ l i, Wlw l → kI h' l i = kI h l i) : ybN h' = ybN h := by
  funext k t tr x
  have n : ∀ l i, Wlw l → kN h' l i = kN h l i := fun l i z => kN_same (e l i z)
  have ep : pvY h' k t tr x = pvY h k t tr x := by
    funext p
    unfold pvY
    rw [n 200 _ (Or.inl rfl), n 200 _ (Or.inl rfl), n 201 _ (Or.inr (Or.inl rfl))]
  have ec : cdY h' = cdY h := by
    funext i
    exact n 206 _ (by unfold Wlw; omega)
  unfold ybN
  rw [e 204 1 (by unfold Wlw; omega), ep, ec, n 205 1 (by unfold Wlw; omega)]
theorem pvY_ok {h : KH} {c : Nat} (rc : RC h c) {k t tr x : Nat} (hk : k < kN h 198 3) (ht : t < kN h 198 4) (htr : tr < 2) (hx : x ≤ 99) : ∀ p, pal true p → -1000000 ≤ pvY h k t tr x p ∧ pvY h k t tr x p ≤ 1000000 := by
  obtain ⟨hr, hc, h5, hm, hkd, htt, -⟩ := id rc
  have a0 := (hkd k hk 0 (by omega)).1.2
  have a1 := (hkd k hk 1 (by omega)).1.2
  have a2 := (htt t ht).1.2
  rw [if_pos (show 0 < 2 by omega), Nat.add_zero] at a0
  rw [if_pos (show 1 < 2 by omega), show 24 + 4 * k + 1 = 25 + 4 * k by omega] at a1
  intro p hp
  have e : p = 0 ∨ p = 1 ∨ p = 2 ∨ p = 3 ∨ p = 4 := by
    rcases hp with hp | hp
    · omega
    · exact absurd hp.1 (by decide)
  unfold pvY
  rcases e with rfl | rfl | rfl | rfl | rfl
  · rw [if_pos rfl]; omega
  · rw [if_neg (by omega), if_pos rfl]; omega
  · rw [if_neg (by omega), if_neg (by omega), if_pos rfl]; omega
  · rw [if_neg (by omega), if_neg (by omega), if_neg (by omega), if_pos rfl]; omega
  · rw [if_neg (by omega), if_neg (by omega), if_neg (by omega), if_neg (by omega), if_pos rfl]; omega
theorem ybN_rev {h : KH} {k t tr x n : Nat} {v : Int} (h4 : kI h 204 1 = 0) (hn : kI h 205 1 = Int32.ofNat n) (n16 : n ≤ 1600) (he : rev (pvY h k t tr x) (fun _ => 0) (cdY h) n = [v]) : ybN h k t tr x = v.toNat := by
  unfold ybN
  rw [if_neg (by rw [h4]; decide), kN_of hn (by omega), he]
theorem ybN_lt {h : KH} {c : Nat} (rc : RC h c) (rr : Rrule h c) {k t tr x : Nat} (hk : k < kN h 198 3) (ht : t < kN h 198 4) (htr : tr < 2) (hx : x ≤ 99) : ybN h k t tr x < 2 := by
  rcases rr with ⟨-, r2⟩ | ⟨-, r2, n, n16, hn, -, -, rt⟩
  · unfold ybN
    rw [if_pos r2]
    exact htr
  · have ok := rev_ok (pvY_ok rc hk ht htr hx) (yv := fun _ => 0) (fun _ => by omega) n rt
    match he : rev (pvY h k t tr x) (fun _ => 0) (cdY h) n, ok with
    | [v], ok =>
      rw [ybN_rev r2 hn n16 he]
      have : v = 0 ∨ v = 1 := ok.1
      omega
def Wy (l i : Nat) : Prop := (l = 173 ∧ (i = 44 ∨ i = 47 ∨ i = 48 ∨ i = 49 ∨ i = 92)) ∨ l = 241
theorem m_part {g : KH} {c : Nat} (rc : RC g c) {k t tr x : Nat} (hk : k < kN g 198 3) (ht : t < kN g 198 4) (k44 : kI g 173 44 = 1) (k47 : kI g 173 47 = Int32.ofNat k) (k48 : kI g 173 48 = Int32.ofNat x) (k49 : kI g 173 49 = Int32.ofNat tr) (htr : tr < 2) (hx : x ≤ 99) {p : Nat} (hp : p < 5) :
    ∃ z, f_X12_qPartOf g 173 (Int32.ofNat p) (Int32.ofNat t) = some z ∧ z.toInt = pvY g k t tr x p := by
  obtain ⟨hr, hc, h5, hm, hkd, htt, -⟩ := id rc
  have n3 := hm.1.1.2
  have n4 := hm.2.1.1.2
  obtain ⟨⟨a0, -⟩, -⟩ := hkd k hk 0 (by omega)
  obtain ⟨⟨a1, -⟩, -⟩ := hkd k hk 1 (by omega)
  obtain ⟨⟨a2, -⟩, -⟩ := htt t ht
  have b0 := (hkd k hk 0 (by omega)).1.2
  have b1 := (hkd k hk 1 (by omega)).1.2
  have b2 := (htt t ht).1.2
  rw [if_pos (show 0 < 2 by omega), Nat.add_zero] at b0
  rw [if_pos (show 1 < 2 by omega), show 24 + 4 * k + 1 = 25 + 4 * k by omega] at b1
  rw [Nat.add_zero] at a0
  rw [show 24 + 4 * k + 1 = 25 + 4 * k by omega] at a1
  have e : p = 0 ∨ p = 1 ∨ p = 2 ∨ p = 3 ∨ p = 4 := by omega
  unfold f_X12_qPartOf pvY
  have d : ∀ i j : Nat, i < 100 → j < 100 → i ≠ j → ¬ (Int32.ofNat i = Int32.ofNat j) := fun i j hi hj hn e => hn ((n32_eq (by omega) (by omega)).mp e)
  rcases e with rfl | rfl | rfl | rfl | rfl
  · rw [if_pos (show Int32.ofNat 0 = (0 : Int32) from rfl), if_pos kk173, rf173_35 hr, if_pos (show 200 < 999999 by omega), if_pos kk200, kn200, k47, n32_mulr, n32_addr, if_neg (by rw [n32_cl (by omega)]; exact fun z => z.elim (n32_nn (by omega)) (by omega)), n32_cl (by omega), a0, n32_toI64 (by omega), if_pos rfl]
    exact ⟨_, rfl, n64_toInt (by omega)⟩
  · rw [if_neg (show ¬ Int32.ofNat 1 = (0 : Int32) from d 1 0 (by omega) (by omega) (by omega)), if_pos (show Int32.ofNat 1 = (1 : Int32) from rfl), if_pos kk173, rf173_35 hr, if_pos (show 200 < 999999 by omega), if_pos kk200, kn200, k47, n32_mulr, n32_addr, if_neg (by rw [n32_cl (by omega)]; exact fun z => z.elim (n32_nn (by omega)) (by omega)), n32_cl (by omega), a1, n32_toI64 (by omega), if_neg (by omega), if_pos rfl]
    exact ⟨_, rfl, n64_toInt (by omega)⟩
  · rw [if_neg (show ¬ Int32.ofNat 2 = (0 : Int32) from d 2 0 (by omega) (by omega) (by omega)), if_neg (show ¬ Int32.ofNat 2 = (1 : Int32) from d 2 1 (by omega) (by omega) (by omega)), if_pos (show Int32.ofNat 2 = (2 : Int32) from rfl), if_pos kk173, rf173_36 hr, if_pos (show 201 < 999999 by omega), if_pos kk201, kn201, n32_addr, if_neg (by rw [n32_cl (by omega)]; exact fun z => z.elim (n32_nn (by omega)) (by omega)), n32_cl (by omega), a2, n32_toI64 (by omega), if_neg (by omega), if_neg (by omega), if_pos rfl]
    exact ⟨_, rfl, n64_toInt (by omega)⟩
  · rw [if_neg (show ¬ Int32.ofNat 3 = (0 : Int32) from d 3 0 (by omega) (by omega) (by omega)), if_neg (show ¬ Int32.ofNat 3 = (1 : Int32) from d 3 1 (by omega) (by omega) (by omega)), if_neg (show ¬ Int32.ofNat 3 = (2 : Int32) from d 3 2 (by omega) (by omega) (by omega)), if_pos (show Int32.ofNat 3 = (3 : Int32) from rfl), if_pos kk173, k44, if_neg (by decide), k48, n32_toI64 (by omega), if_neg (by omega), if_neg (by omega), if_neg (by omega), if_pos rfl]
    exact ⟨_, rfl, n64_toInt (by omega)⟩
  · rw [if_neg (show ¬ Int32.ofNat 4 = (0 : Int32) from d 4 0 (by omega) (by omega) (by omega)), if_neg (show ¬ Int32.ofNat 4 = (1 : Int32) from d 4 1 (by omega) (by omega) (by omega)), if_neg (show ¬ Int32.ofNat 4 = (2 : Int32) from d 4 2 (by omega) (by omega) (by omega)), if_neg (show ¬ Int32.ofNat 4 = (3 : Int32) from d 4 3 (by omega) (by omega) (by omega)), if_pos (show Int32.ofNat 4 = (4 : Int32) from rfl), if_pos kk173, k49, n32_toI64 (by omega), if_neg (by omega), if_neg (by omega), if_neg (by omega), if_neg (by omega), if_pos rfl]
    exact ⟨_, rfl, n64_toInt (by omega)⟩
/-- the model's turn of codes in a law -/
theorem m_ystep {g : KH} (hr : kRefs g) {n i cc t : Nat} (hn : kI g 205 1 = Int32.ofNat n) (n16 : n ≤ 1600) (hi : i < n) (hc : kI g 206 (1600 + i) = Int32.ofNat cc) {pv : Nat → Int} {ts ts' : List Nat} {vs : List Int} (ht : rty true cc ts = some ts') (l60 : ts'.length ≤ 60) (ok : vok ts vs) (hq : Qp g vs)
    (hp : ∀ p, p < 5 → ∃ z, f_X12_qPartOf g 173 (Int32.ofNat p) (Int32.ofNat t) = some z ∧ z.toInt = pv p) :
    ∃ g', f_X12_yieldsAt_l46 173 (Int32.ofNat t) (Int32.ofNat i, g) = some (.inl (Int32.ofNat (i + 1), g')) ∧ kfp Wq g g' ∧ Qp g' (rstep pv (fun _ => 0) cc vs) := by
  have len := vok_len ts vs ok
  have b171 : ∀ g', f_X12_yieldsAt_b171 g' 173 (Int32.ofNat t) (Int32.ofNat i) = some (.inl (Int32.ofNat (i + 1), g')) := fun g' => by
    unfold f_X12_yieldsAt_b171
    rw [kl_e, n32_addl]
  have d : ∀ i j : Nat, i < 100 → j < 100 → i ≠ j → ¬ (Int32.ofNat i = Int32.ofNat j) := fun i j hi hj hn e => hn ((n32_eq (by omega) (by omega)).mp e)
  have cb : cc < 11000 := by
    rcases rty_cases ht with h | h | h | h | h | h | h | h <;> omega
  unfold f_X12_yieldsAt_l46
  dsimp only
  rw [if_pos kk173, rf173_40 hr, if_pos (show 205 < 999999 by omega), if_pos kk205, kn205, if_neg (show ¬ 2 ≤ 1 by omega), hn, if_neg (by rw [n32_le (by omega) (by omega)]; omega), rf173_41 hr, if_pos (show 206 < 999999 by omega), if_pos kk206, kn206, n32_addr, if_neg (by rw [n32_cl (by omega)]; exact fun z => z.elim (n32_nn (by omega)) (by omega)), n32_cl (by omega), hc, kl_e]
  rcases rty_cases ht with ⟨h1, h2, rfl⟩ | ⟨rfl, h2, -⟩ | ⟨h1, h2, h3, rfl⟩ | ⟨rfl, rfl⟩ | ⟨rfl, r, rfl, rfl⟩ | ⟨h1, h2, r, rfl, rfl⟩ | ⟨h1, h2, r, rfl, rfl⟩ | ⟨h1, r, rfl, rfl⟩
  · have er : rstep pv (fun _ => 0) cc vs = ((cc - 1000 : Nat) : Int) :: vs := if_pos h1
    simp only [List.length_cons] at l60
    obtain ⟨g', q1, q2, q3⟩ := m_qPuts hr hq.1 (by omega) rfl hq.2 (x := (Int32.ofNat cc - (1000 : Int32)).toInt64) (v := ((cc - 1000 : Nat) : Int)) (by rw [n32_subl (by omega), n32_toI64 (by omega), n64_toInt (by omega)])
    refine ⟨g', ?_, q2, by rw [er]; exact q3⟩
    rw [if_neg (by rw [n32_ltl (by omega) (by omega)]; omega), q1, kb_s, b171]
  · cases h2
  · have er : rstep pv (fun _ => 0) cc vs = pv (cc - 40) :: vs := by
      unfold rstep
      rw [if_neg (by omega), if_neg (by omega), if_pos h1]
    simp only [List.length_cons] at l60
    have h45 : cc < 45 := by
      rcases h3 with h3 | h3
      · exact h3.2
      · cases h3.1
    obtain ⟨z, z1, z2⟩ := hp (cc - 40) (by omega)
    obtain ⟨g', q1, q2, q3⟩ := m_qPuts hr hq.1 (by omega) rfl hq.2 z2
    refine ⟨g', ?_, q2, by rw [er]; exact q3⟩
    rw [if_pos (by rw [n32_ltl (by omega) (by omega)]; omega), if_neg (by rw [n32_ltl (by omega) (by omega)]; omega), n32_subl (by omega), z1, kb_s, q1, kb_s, b171]
  · simp only [List.length_cons] at l60
    obtain ⟨g', q1, q2, q3⟩ := m_qPuts hr hq.1 (by omega) rfl hq.2 (x := 1) (v := 1) rfl
    refine ⟨g', ?_, q2, q3⟩
    rw [if_pos (by decide), if_pos (by decide), if_pos (show Int32.ofNat 13 = (13 : Int32) from rfl), q1, kb_s, b171]
  · match vs, ok, hq with
    | a :: vs, ok, hq =>
      have ha : a = 0 ∨ a = 1 := ok.1
      obtain ⟨q1, q2, q3⟩ := hq
      simp only [List.length_cons] at l60 len q1 q2
      refine ⟨ksL g 241 vs.length ((1 : Int64) - kL g 241 vs.length), ?_, kfp.rf.sL _ (Or.inr rfl), ?_, ?_, q3.setL (Nat.le_refl _)⟩
      · rw [if_pos (by decide), if_pos (by decide), if_neg (by decide), if_pos (show Int32.ofNat 12 = (12 : Int32) from rfl), rf173_91 hr, if_pos (show 241 < 999999 by omega), if_pos kk241, kn241, q1, n32_subl (by omega), show vs.length + 1 - 1 = vs.length by omega, if_neg (by rw [n32_cl (by omega)]; exact fun z => z.elim (n32_nn (by omega)) (by omega)), n32_cl (by omega), kl_e, b171]
      · exact q1
      · rw [kL_sL, if_pos ⟨rfl, rfl⟩]
        have o1 : (1 : Int64).toInt = 1 := rfl
        rw [Int64.toInt_sub, q2, o1, Int.bmod_eq_of_le (by omega) (by omega)]
  · match vs, ok, hq with
    | y :: x :: vs, ok, hq =>
      simp only [List.length_cons] at l60 len
      obtain ⟨g', q1, q2, q3⟩ := m_qJoins hr (c := cc) (by omega) hq (by omega) (Or.inl ⟨by omega, ok.2.1, ok.1⟩)
      have er : rstep pv (fun _ => 0) cc (y :: x :: vs) = rjoin cc x y :: vs := by
        unfold rstep
        rw [if_neg (by omega), if_neg (by omega), if_neg (by omega), if_neg (by omega), if_neg (by omega)]
      refine ⟨g', ?_, q2, by rw [er]; exact q3⟩
      rw [if_pos (by rw [n32_ltl (by omega) (by omega)]; omega), if_pos (by rw [n32_ltl (by omega) (by omega)]; omega), if_neg (show ¬ Int32.ofNat cc = (13 : Int32) from d cc 13 (by omega) (by omega) (by omega)), if_neg (show ¬ Int32.ofNat cc = (12 : Int32) from d cc 12 (by omega) (by omega) (by omega)), q1, kb_s, b171]
  · match vs, ok, hq with
    | y :: x :: vs, ok, hq =>
      simp only [List.length_cons] at l60 len
      obtain ⟨g', q1, q2, q3⟩ := m_qJoins hr (c := cc) (by omega) hq (by omega) (Or.inl ⟨by omega, ok.2.1, ok.1⟩)
      have er : rstep pv (fun _ => 0) cc (y :: x :: vs) = rjoin cc x y :: vs := by
        unfold rstep
        rw [if_neg (by omega), if_neg (by omega), if_neg (by omega), if_neg (by omega), if_neg (by omega)]
      refine ⟨g', ?_, q2, by rw [er]; exact q3⟩
      rw [if_pos (by rw [n32_ltl (by omega) (by omega)]; omega), if_pos (by rw [n32_ltl (by omega) (by omega)]; omega), if_neg (show ¬ Int32.ofNat cc = (13 : Int32) from d cc 13 (by omega) (by omega) (by omega)), if_neg (show ¬ Int32.ofNat cc = (12 : Int32) from d cc 12 (by omega) (by omega) (by omega)), q1, kb_s, b171]
  · match vs, ok, hq with
    | y :: x :: vs, ok, hq =>
      simp only [List.length_cons] at l60 len
      obtain ⟨g', q1, q2, q3⟩ := m_qJoins hr (c := cc) (by omega) hq (by omega) (Or.inr ⟨by omega, ok.2.1, ok.1⟩)
      have er : rstep pv (fun _ => 0) cc (y :: x :: vs) = rjoin cc x y :: vs := by
        unfold rstep
        rw [if_neg (by omega), if_neg (by omega), if_neg (by omega), if_neg (by omega), if_neg (by omega)]
      refine ⟨g', ?_, q2, by rw [er]; exact q3⟩
      rw [if_pos (by rw [n32_ltl (by omega) (by omega)]; omega), if_pos (by rw [n32_ltl (by omega) (by omega)]; omega), if_neg (show ¬ Int32.ofNat cc = (13 : Int32) from d cc 13 (by omega) (by omega) (by omega)), if_neg (show ¬ Int32.ofNat cc = (12 : Int32) from d cc 12 (by omega) (by omega) (by omega)), q1, kb_s, b171]
