/-! the model: parts ended, brackets looked for, all dropped to them -/
theorem dM_id {w : List Nat} (s : PS) (r : rkN w ≤ 1) : dM w s = (w, s) := by
  cases w with
  | nil => rfl
  | cons x w' =>
    unfold dM
    by_cases y : x = 3 ∨ x = 4
    · rw [rkN_c, if_neg (by omega), if_pos y] at r
      omega
    · simp only [if_neg y]
theorem dA_id {w : List Nat} (s : PS) (r : rkN w = 0) : dA w s = (w, s) := by
  cases w with
  | nil => rfl
  | cons x w' =>
    unfold dA
    by_cases y : x = 1 ∨ x = 2
    · rw [rkN_c, if_neg (by omega), if_neg (by omega), if_pos y] at r
      omega
    · simp only [if_neg y]
/-- all that is pending dropped -/
def dB (w : List Nat) (s : PS) : List Nat × PS := dA (dM w s).1 (dM w s).2
theorem dB_nil (s : PS) : dB [] s = ([], s) := rfl
theorem wf_top {x : Nat} {w : List Nat} (h : wfS (x :: w)) (r : rkN (x :: w) ≤ 2) : ((x = 3 ∨ x = 4) ∧ rkN w ≤ 1) ∨ ((x = 1 ∨ x = 2) ∧ rkN w = 0) ∨ (20 ≤ x ∧ x ≤ 24) := by
  rcases h.2 with y | y | y | y
  · rw [rkN_c, if_pos y] at r
    omega
  · exact Or.inl y
  · exact Or.inr (Or.inl y)
  · exact Or.inr (Or.inr y)
theorem dB_34 {x : Nat} {w : List Nat} {s : PS} (y : x = 3 ∨ x = 4) (r : rkN w ≤ 1) : dB (x :: w) s = dB w (pem x s) := by
  unfold dB
  rw [dM_id (pem x s) r]
  unfold dM
  simp only [if_pos y]
theorem dB_12 {x : Nat} {w : List Nat} {s : PS} (y : x = 1 ∨ x = 2) (r : rkN w = 0) : dB (x :: w) s = dB w (pem x s) := by
  have z : ¬ (x = 3 ∨ x = 4) := by omega
  unfold dB
  rw [dM_id (pem x s) (by omega)]
  have e : dM (x :: w) s = (x :: w, s) := by
    unfold dM
    simp only [if_neg z]
  rw [e, dA_id (w := w) (pem x s) r]
  show dA (x :: w) s = (w, pem x s)
  unfold dA
  simp only [if_pos y]
theorem dB_br {x : Nat} {w : List Nat} {s : PS} (y : 20 ≤ x ∧ x ≤ 24) : dB (x :: w) s = (x :: w, s) := by
  have z : ¬ (x = 3 ∨ x = 4) := by omega
  have u : ¬ (x = 1 ∨ x = 2) := by omega
  unfold dB
  have e : dM (x :: w) s = (x :: w, s) := by
    unfold dM
    simp only [if_neg z]
  rw [e]
  show dA (x :: w) s = (x :: w, s)
  unfold dA
  simp only [if_neg u]
theorem m_qEndsPart {h g : KH} {n : Nat} {L : Bool} {w B : List Nat} {k a : Nat} {s : PS} (n16 : n ≤ 1600) (q : Qd h g n L w B k a 0 s) (wf : wfS w) : ∃ g' w' k' s', f_X12_qEndsPart g 173 = some g' ∧ kfp Wq2 g g' ∧ Qd h g' n L w' B k' a 0 s' ∧ wfS w' ∧ rkN w' ≤ 2 ∧ (dn (tyN h) n L w).1 k s = (dn (tyN h) n L w').1 k' s' ∧ s'.1 = s.1 ∧ s'.2.1 = s.2.1 := by
  have len := q.len
  obtain ⟨g', e, w', k', s', r1, r2, r3, r4, r5, r6, r7⟩ := kloop_KF (body := f_X12_qEndsPart_l0 173) (fun m x => ∃ w1 k1 s1, m = w1.length ∧ kfp Wq2 g x ∧ Qd h x n L w1 B k1 a 0 s1 ∧ wfS w1 ∧ (dn (tyN h) n L w).1 k s = (dn (tyN h) n L w1).1 k1 s1 ∧ s1.1 = s.1 ∧ s1.2.1 = s.2.1) (fun x => ∃ w1 k1 s1, kfp Wq2 g x ∧ Qd h x n L w1 B k1 a 0 s1 ∧ wfS w1 ∧ rkN w1 ≤ 2 ∧ (dn (tyN h) n L w).1 k s = (dn (tyN h) n L w1).1 k1 s1 ∧ s1.1 = s.1 ∧ s1.2.1 = s.2.1) (fun m x hP => by
    obtain ⟨w1, k1, s1, p1, p2, p3, p4, p5, p6, p7⟩ := hP
    have rg := p3.kR
    have l1 := p3.len
    have b0 : kI x 173 5 = 0 := p3.1.2.2.1
    have c88 := p3.2.2.2.1.1
    have c90 := p3.2.2.2.2.2.1
    have c89 := p3.2.2.2.2.1.1
    unfold f_X12_qEndsPart_l0
    rw [if_pos kk173, b0, if_pos rfl, c90]
    cases w1 with
    | nil =>
      rw [c88]
      exact Or.inl ⟨x, by rw [if_pos (by rw [n32_le (by have := l1.1; simp only [List.nil_append] at this; omega) (by have := l1.1; simp only [List.nil_append] at this; omega)]; simp)], [], k1, s1, p2, p3, p4, Nat.zero_le _, p5, p6, p7⟩
    | cons y w2 =>
      obtain ⟨t1, t2, t3, t4⟩ := p3.top n16 (by omega) (T := w2 ++ B) rfl
      have lB : B.length ≤ (w2 ++ B).length := by rw [List.length_append]; omega
      rw [t1, if_neg (by rw [n32_le (by omega) (by omega)]; omega), rf173_87 rg, if_pos (show 240 < 999999 by omega), if_pos kk240, kn240, n32_subl (by omega), show (w2 ++ B).length + 1 - 1 = (w2 ++ B).length by omega, if_neg (by rw [n32_cl (by omega)]; exact fun z => z.elim (n32_nn (by omega)) (by omega)), n32_cl (show (w2 ++ B).length < 2147483648 by omega), t2]
      by_cases z : y = 60
      · subst z
        obtain ⟨x', e', f', q'⟩ := m_qDropsO n16 p3 (by omega) (kI x 173 89 - (1 : Int32)) (Or.inr ⟨by omega, rfl⟩)
        rw [if_pos (by omega)] at q'
        refine Or.inr ⟨w2.length, x', ?_, ?_, w2, k1 + 1, pem 60 s1, rfl, p2.tr f', q', p4.1, ?_, p6, p7⟩
        · rw [p1]
          simp only [List.length_cons]
          omega
        · rw [if_neg (by decide), kl_e, e', kb_s]
        · rw [p5]
          show pPm (tyN h) n L 60 (dn (tyN h) n L w2) k1 s1 = _
          unfold pPm
          rw [if_pos rfl]
      · have y60 : y < 60 := by
          rcases p4.2 with u | u | u | u <;> omega
        refine Or.inl ⟨x, by rw [if_pos (by rw [n32_ltl (by omega) (by omega)]; exact y60)], y :: w2, k1, s1, p2, p3, p4, ?_, p5, p6, p7⟩
        rw [rkN_c, if_neg z]
        split
        · omega
        · split <;> omega) (n := w.length) (by have := len.1; rw [List.length_append] at this; omega) ⟨w, k, s, rfl, kfp.rf, q, wf, rfl, rfl, rfl⟩
  refine ⟨g', w', k', s', ?_, r1, r2, r3, r4, r5, r6, r7⟩
  unfold f_X12_qEndsPart
  rw [e, kb_s]
theorem m_qEndsPart_bad {h g : KH} {n a : Nat} {e : Nat × Nat} (m : Md h g n a (.inl e)) : f_X12_qEndsPart g 173 = some g := by
  have st : f_X12_qEndsPart_l0 173 g = some (.inr g) := by
    unfold f_X12_qEndsPart_l0
    rw [if_pos kk173, if_neg m.bad]
  have lp := kloop_for (body := f_X12_qEndsPart_l0 173) (fun _ => g) 0 g (by omega) (fun k hk => absurd hk (Nat.not_lt_zero _)) st
  have lp' : kloop (f_X12_qEndsPart_l0 173) KF g = some g := lp
  unfold f_X12_qEndsPart
  rw [lp', kb_s]
/-- the bracket that is open last; 0 where none is -/
def brN : List Nat → Nat
  | [] => 0
  | x :: w => if 20 ≤ x ∧ x ≤ 24 then x else brN w
theorem m_qIsBracket (h : KH) {x : Nat} (hx : x < 100) : f_X12_qIsBracket h (Int32.ofNat x) = some (if 20 ≤ x ∧ x ≤ 24 then 1 else 0) := by
  unfold f_X12_qIsBracket
  by_cases a : x < 20
  · rw [if_pos (by rw [n32_ltl (by omega) (by omega)]; exact a), if_neg (by omega)]
  · rw [if_neg (by rw [n32_ltl (by omega) (by omega)]; exact a)]
    by_cases c : 24 < x
    · rw [if_pos (by rw [n32_ltr (by omega) (by omega)]; exact c), if_neg (by omega)]
    · rw [if_neg (by rw [n32_ltr (by omega) (by omega)]; exact c), if_pos (by omega)]
theorem m_qBracket {h g : KH} {n : Nat} {L : Bool} {w B : List Nat} {k a e : Nat} {s : PS} (n16 : n ≤ 1600) (he : e ≤ 2) (q : Qd h g n L w B k a e s) : f_X12_qBracket g 173 = some (if brN w = 0 then -1 else Int32.ofNat (brN w)) := by
  have rg := q.kR
  have len := q.len
  have c88 := q.2.2.2.1.1
  have c90 := q.2.2.2.2.2.1
  have lw : (w ++ B).length = w.length + B.length := List.length_append
  obtain ⟨r, er, hr⟩ := kloop_KF (body := f_X12_qBracket_l7 g 173) (fun m x => ∃ w1 : List Nat, m = w1.length ∧ (w1 ++ B).length ≤ 1602 ∧ x = Int32.ofNat (w1 ++ B).length - (1 : Int32) ∧ Wt g (w1 ++ B) ∧ brN w1 = brN w) (fun r => (brN w = 0 ∧ r < Int32.ofNat B.length) ∨ (∃ i, r = Int32.ofNat i ∧ B.length ≤ i ∧ i ≤ 1602 ∧ kI g 240 i = Int32.ofNat (brN w) ∧ brN w ≠ 0)) (fun m x hP => by
    obtain ⟨w1, p1, p2, p3, p4, p5⟩ := hP
    subst p3
    unfold f_X12_qBracket_l7
    rw [if_pos kk173, c90]
    cases w1 with
    | nil =>
      have lt : Int32.ofNat ([] ++ B).length - (1 : Int32) < Int32.ofNat B.length := by
        simp only [List.nil_append] at p2 ⊢
        rw [i32_lt (n32_pred (by omega)) (n32_toInt (by omega))]
        omega
      exact Or.inl ⟨_, by rw [if_pos lt], Or.inl ⟨p5.symm, lt⟩⟩
    | cons y w2 =>
      have lB : (w2 ++ B).length = w2.length + B.length := List.length_append
      have lc : ((y :: w2) ++ B).length = (w2 ++ B).length + 1 := rfl
      obtain ⟨u1, u2, u3⟩ : kI g 240 (w2 ++ B).length = Int32.ofNat y ∧ y < 100 ∧ Wt g (w2 ++ B) := p4
      rw [lc] at p2 ⊢
      rw [n32_subl (by omega), show (w2 ++ B).length + 1 - 1 = (w2 ++ B).length by omega, if_neg (by rw [n32_lt (by omega) (by omega)]; omega), rf173_87 rg, if_pos (show 240 < 999999 by omega), if_pos kk240, kn240, if_neg (by rw [n32_cl (by omega)]; exact fun z => z.elim (n32_nn (by omega)) (by omega)), n32_cl (show (w2 ++ B).length < 2147483648 by omega), u1, m_qIsBracket g u2, kb_s, if10]
      by_cases z : 20 ≤ y ∧ y ≤ 24
      · have eb : brN w = y := by
          rw [← p5]
          show (if 20 ≤ y ∧ y ≤ 24 then y else brN w2) = y
          rw [if_pos z]
        exact Or.inl ⟨_, by rw [if_pos z], Or.inr ⟨(w2 ++ B).length, rfl, by omega, by omega, by rw [u1, eb], by omega⟩⟩
      · refine Or.inr ⟨w2.length, _, ?_, by rw [if_neg z, kl_e], w2, rfl, by omega, ?_, u3, ?_⟩
        · rw [p1]
          simp only [List.length_cons]
          omega
        · rw [Int32.sub_eq_add_neg]
        · rw [← p5]
          show _ = if 20 ≤ y ∧ y ≤ 24 then y else brN w2
          rw [if_neg z]) (n := w.length) (by omega) ⟨w, rfl, by omega, rfl, q.2.2.2.1.2, rfl⟩
  unfold f_X12_qBracket
  rw [if_pos kk173, c88, kl_e, er, kb_s]
  unfold f_X12_qBracket_b33
  rw [if_pos kk173, c90]
  rcases hr with ⟨h1, h2⟩ | ⟨i, h1, h2, h3, h4, h5⟩
  · rw [if_pos h2, if_pos h1]
  · rw [h1, if_neg (by rw [n32_lt (by omega) (by omega)]; omega), rf173_87 rg, if_pos (show 240 < 999999 by omega), if_pos kk240, kn240, if_neg (by rw [n32_cl (by omega)]; exact fun z => z.elim (n32_nn (by omega)) (by omega)), n32_cl (show i < 2147483648 by omega), h4, if_neg h5]
/-- a loop that drops what is pending -/
theorem m_dropLoop {h g : KH} {n : Nat} {L : Bool} {w B : List Nat} {k a e : Nat} {s : PS} (n16 : n ≤ 1600) (he : e ≤ 1) (body : KH → Option (KH ⊕ KH)) (sel : Nat → Prop) [DecidablePred sel] (hsel : ∀ x, sel x → x < 12)
    (hb : ∀ x w1 s1, Qd h x n L w1 B k a e s1 → wfS w1 → rkN w1 ≤ 2 → body x = (match w1 with | [] => some (.inr x) | y :: _ => if sel y then kb (f_X12_qDrops x 173) (fun r => some (.inl r)) else some (.inr x)))
    (tg : List Nat → PS → List Nat × PS) (t0 : ∀ s1, tg [] s1 = ([], s1)) (t1 : ∀ y w2 s1, wfS (y :: w2) → rkN (y :: w2) ≤ 2 → sel y → tg (y :: w2) s1 = tg w2 (pem y s1)) (t2 : ∀ y w2 s1, wfS (y :: w2) → rkN (y :: w2) ≤ 2 → ¬ sel y → tg (y :: w2) s1 = (y :: w2, s1))
    (q : Qd h g n L w B k a e s) (wf : wfS w) (rk : rkN w ≤ 2) : ∃ g', kloop body KF g = some g' ∧ kfp Wq2 g g' ∧ Qd h g' n L (tg w s).1 B k a e (tg w s).2 := by
  have len := q.len
  exact kloop_KF (body := body) (fun m x => ∃ w1 s1, m = w1.length ∧ kfp Wq2 g x ∧ Qd h x n L w1 B k a e s1 ∧ wfS w1 ∧ rkN w1 ≤ 2 ∧ tg w1 s1 = tg w s) (fun x => kfp Wq2 g x ∧ Qd h x n L (tg w s).1 B k a e (tg w s).2) (fun m x hP => by
    obtain ⟨w1, s1, p1, p2, p3, p4, p5, p6⟩ := hP
    rw [hb x w1 s1 p3 p4 p5]
    cases w1 with
    | nil =>
      refine Or.inl ⟨x, rfl, p2, ?_⟩
      rw [← p6, t0]
      exact p3
    | cons y w2 =>
      dsimp only
      by_cases z : sel y
      · obtain ⟨x', e', f', q'⟩ := m_qDrops n16 p3 he (hsel y z)
        have rk2 : rkN w2 ≤ 2 := by
          have yl := hsel y z
          rcases wf_top p4 p5 with u | u | u <;> omega
        refine Or.inr ⟨w2.length, x', ?_, by rw [if_pos z, e', kb_s], w2, pem y s1, rfl, p2.tr f', q', p4.1, rk2, ?_⟩
        · rw [p1]
          simp only [List.length_cons]
          omega
        · rw [← p6, t1 y w2 s1 p4 p5 z]
      · refine Or.inl ⟨x, by rw [if_neg z], p2, ?_⟩
        rw [← p6, t2 y w2 s1 p4 p5 z]
        exact p3) (n := w.length) (by have := len.1; rw [List.length_append] at this; omega) ⟨w, s, rfl, kfp.rf, q, wf, rk, rfl⟩
theorem m_qDropsToBracket {h g : KH} {n : Nat} {L : Bool} {w B : List Nat} {k a e : Nat} {s : PS} (n16 : n ≤ 1600) (he : e ≤ 1) (q : Qd h g n L w B k a e s) (wf : wfS w) (rk : rkN w ≤ 2) : ∃ g', f_X12_qDropsToBracket g 173 = some g' ∧ kfp Wq2 g g' ∧ Qd h g' n L (dB w s).1 B k a e (dB w s).2 := by
  obtain ⟨g', e', f', q'⟩ := m_dropLoop n16 he (f_X12_qDropsToBracket_l0 173) (fun x => x < 12) (fun x z => z) (fun x w1 s1 p p4 p5 => by
    have rg := p.kR
    have l1 := p.len
    have c88 := p.2.2.2.1.1
    have c90 := p.2.2.2.2.2.1
    unfold f_X12_qDropsToBracket_l0
    rw [if_pos kk173, c90]
    cases w1 with
    | nil =>
      have := l1.1
      simp only [List.nil_append] at this
      rw [c88]
      dsimp only
      rw [if_pos (by rw [n32_le (by simp only [List.nil_append]; omega) (by omega)]; simp)]
    | cons y w2 =>
      obtain ⟨t1, t2, t3, t4⟩ := p.top n16 (by omega) (T := w2 ++ B) rfl
      have lB : B.length ≤ (w2 ++ B).length := by rw [List.length_append]; omega
      dsimp only
      rw [t1, if_neg (by rw [n32_le (by omega) (by omega)]; omega), rf173_87 rg, if_pos (show 240 < 999999 by omega), if_pos kk240, kn240, n32_subl (by omega), show (w2 ++ B).length + 1 - 1 = (w2 ++ B).length by omega, if_neg (by rw [n32_cl (by omega)]; exact fun z => z.elim (n32_nn (by omega)) (by omega)), n32_cl (show (w2 ++ B).length < 2147483648 by omega), t2, m_qIsBracket x t3, kb_s, if10]
      rcases wf_top p4 p5 with u | u | u
      · rw [if_neg (by omega), if_pos (show y < 12 by omega)]
      · rw [if_neg (by omega), if_pos (show y < 12 by omega)]
      · rw [if_pos u, if_neg (show ¬ y < 12 by omega)]) dB dB_nil (fun y w2 s1 p4 p5 z => by
    rcases wf_top p4 p5 with u | u | u
    · exact dB_34 u.1 u.2
    · exact dB_12 u.1 u.2
    · omega) (fun y w2 s1 p4 p5 z => by
    rcases wf_top p4 p5 with u | u | u
    · omega
    · omega
    · exact dB_br u) q wf rk
  refine ⟨g', ?_, f', q'⟩
  unfold f_X12_qDropsToBracket
  rw [e', kb_s]
/-- the TEST that waits below a SUM -/
def okB (B : List Nat) : Prop := ∀ x, B.head? = some x → x = 10 ∨ x = 11 ∨ x = 12 ∨ x = 25
theorem on_B {w B : List Nat} {c : Nat} (hB : okB B) (hc : c < 10) : ((w ++ B).head? = some c) ↔ (w.head? = some c) := by
  cases w with
  | nil =>
    simp only [List.nil_append, List.head?_nil]
    exact ⟨fun z => by have := hB c z; omega, fun z => by cases z⟩
  | cons x w' => exact Iff.rfl
theorem hd_c (x c : Nat) (w : List Nat) : ((x :: w).head? = some c) ↔ x = c := by
  simp
theorem m_dropM {h g : KH} {n : Nat} {L : Bool} {w B : List Nat} {k a e : Nat} {s : PS} (n16 : n ≤ 1600) (he : e ≤ 1) (hB : okB B) (v : Int32) (q : Qd h g n L w B k a e s) (wf : wfS w) (rk : rkN w ≤ 2) : ∃ g', kloop (f_X12_qGoesOn_l162 173 v) KF g = some g' ∧ kfp Wq2 g g' ∧ Qd h g' n L (dM w s).1 B k a e (dM w s).2 :=
  m_dropLoop n16 he (f_X12_qGoesOn_l162 173 v) (fun x => x = 3 ∨ x = 4) (fun x z => by omega) (fun x w1 s1 p p4 p5 => by
    have i3 := m_qIsOn (c := 3) n16 p (by omega) (by omega)
    have i4 := m_qIsOn (c := 4) n16 p (by omega) (by omega)
    have i3' : f_X12_qIsOn x 173 (3 : Int32) = some (if (w1 ++ B).head? = some 3 then 1 else 0) := i3
    have i4' : f_X12_qIsOn x 173 (4 : Int32) = some (if (w1 ++ B).head? = some 4 then 1 else 0) := i4
    unfold f_X12_qGoesOn_l162 f_X12_qGoesOn_b178
    rw [if_pos kk173, i3', kb_s, if10, i4', kb_s, if10, ifP (on_B hB (by omega)), ifP (on_B hB (by omega))]
    cases w1 with
    | nil => rfl
    | cons y w2 =>
      dsimp only
      rw [ifP (hd_c y 3 w2), ifP (hd_c y 4 w2)]
      by_cases a3 : y = 3
      · rw [if_pos a3, if_pos (Or.inl a3), if_pos kk173]
      · rw [if_neg a3]
        by_cases a4 : y = 4
        · rw [if_pos a4, if_pos (Or.inr a4), if_pos kk173]
        · rw [if_neg a4, if_neg (by omega)]) dM (fun s1 => rfl) (fun y w2 s1 p4 p5 z => by
    rcases wf_top p4 p5 with u | u | u
    · rw [dM_id (pem y s1) u.2]
      unfold dM
      simp only [if_pos z]
    · omega
    · omega) (fun y w2 s1 p4 p5 z => by
    unfold dM
    simp only [if_neg z]) q wf rk
theorem m_dropA {h g : KH} {n : Nat} {L : Bool} {w B : List Nat} {k a e : Nat} {s : PS} (n16 : n ≤ 1600) (he : e ≤ 1) (hB : okB B) (v : Int32) (q : Qd h g n L w B k a e s) (wf : wfS w) (rk : rkN w ≤ 2) : ∃ g', kloop (f_X12_qGoesOn_l247 173 v) KF g = some g' ∧ kfp Wq2 g g' ∧ Qd h g' n L (dB w s).1 B k a e (dB w s).2 :=
  m_dropLoop n16 he (f_X12_qGoesOn_l247 173 v) (fun x => x < 12) (fun x z => z) (fun x w1 s1 p p4 p5 => by
    have i : ∀ c, c < 10 → f_X12_qIsOn x 173 (Int32.ofNat c) = some (if (w1 ++ B).head? = some c then 1 else 0) := fun c hc => m_qIsOn n16 p (by omega) (by omega)
    have i1 : f_X12_qIsOn x 173 (1 : Int32) = some (if (w1 ++ B).head? = some 1 then 1 else 0) := i 1 (by omega)
    have i2 : f_X12_qIsOn x 173 (2 : Int32) = some (if (w1 ++ B).head? = some 2 then 1 else 0) := i 2 (by omega)
    have i3 : f_X12_qIsOn x 173 (3 : Int32) = some (if (w1 ++ B).head? = some 3 then 1 else 0) := i 3 (by omega)
    have i4 : f_X12_qIsOn x 173 (4 : Int32) = some (if (w1 ++ B).head? = some 4 then 1 else 0) := i 4 (by omega)
    unfold f_X12_qGoesOn_l247 f_X12_qGoesOn_b279
    rw [if_pos kk173, i3, kb_s, if10, i4, kb_s, if10, i1, kb_s, if10, i2, kb_s, if10, ifP (on_B hB (by omega)), ifP (on_B hB (by omega)), ifP (on_B hB (by omega)), ifP (on_B hB (by omega))]
    cases w1 with
    | nil => rfl
    | cons y w2 =>
      dsimp only
      rw [ifP (hd_c y 3 w2), ifP (hd_c y 4 w2), ifP (hd_c y 1 w2), ifP (hd_c y 2 w2)]
      rcases wf_top p4 p5 with ⟨u, -⟩ | ⟨u, -⟩ | u
      · rw [if_pos (show y < 12 by omega)]
        rcases u with u | u
        · rw [if_pos u, if_pos kk173]
        · rw [if_neg (by omega), if_pos u, if_pos kk173]
      · rw [if_pos (show y < 12 by omega), if_neg (by omega), if_neg (by omega)]
        rcases u with u | u
        · rw [if_pos u, if_pos kk173]
        · rw [if_neg (by omega), if_pos u, if_pos kk173]
      · rw [if_neg (show ¬ y < 12 by omega), if_neg (by omega), if_neg (by omega), if_neg (by omega), if_neg (by omega)]) dB dB_nil (fun y w2 s1 p4 p5 z => by
    rcases wf_top p4 p5 with u | u | u
    · exact dB_34 u.1 u.2
    · exact dB_12 u.1 u.2
    · omega) (fun y w2 s1 p4 p5 z => by
    rcases wf_top p4 p5 with u | u | u
    · omega
    · omega
    · exact dB_br u) q wf rk
