/-! the model: what waits in a TEST dropped; a FACT read -/
theorem m_dropG {h g : KH} {n : Nat} {L : Bool} {w B : List Nat} {k a e : Nat} {s : PS} (n16 : n ≤ 1600) (he : e ≤ 1) (body : KH → Option (KH ⊕ KH)) (sel : Nat → Prop) [DecidablePred sel] (hsel : ∀ x, sel x → x < 12)
    (I : List Nat → Prop) (hI : ∀ y w2, I (y :: w2) → sel y → I w2)
    (hb : ∀ x w1 s1, Qd h x n L w1 B k a e s1 → I w1 → body x = (match w1 with | [] => some (.inr x) | y :: _ => if sel y then kb (f_X12_qDrops x 173) (fun r => some (.inl r)) else some (.inr x)))
    (tg : List Nat → PS → List Nat × PS) (t0 : ∀ s1, tg [] s1 = ([], s1)) (t1 : ∀ y w2 s1, I (y :: w2) → sel y → tg (y :: w2) s1 = tg w2 (pem y s1)) (t2 : ∀ y w2 s1, I (y :: w2) → ¬ sel y → tg (y :: w2) s1 = (y :: w2, s1))
    (q : Qd h g n L w B k a e s) (iw : I w) : ∃ g', kloop body KF g = some g' ∧ kfp Wq2 g g' ∧ Qd h g' n L (tg w s).1 B k a e (tg w s).2 := by
  have len := q.len
  exact kloop_KF (body := body) (fun m x => ∃ w1 s1, m = w1.length ∧ kfp Wq2 g x ∧ Qd h x n L w1 B k a e s1 ∧ I w1 ∧ tg w1 s1 = tg w s) (fun x => kfp Wq2 g x ∧ Qd h x n L (tg w s).1 B k a e (tg w s).2) (fun m x hP => by
    obtain ⟨w1, s1, p1, p2, p3, p4, p6⟩ := hP
    rw [hb x w1 s1 p3 p4]
    cases w1 with
    | nil =>
      refine Or.inl ⟨x, rfl, p2, ?_⟩
      rw [← p6, t0]
      exact p3
    | cons y w2 =>
      dsimp only
      by_cases z : sel y
      · obtain ⟨x', e', f', q'⟩ := m_qDrops n16 p3 he (hsel y z)
        refine Or.inr ⟨w2.length, x', ?_, by rw [if_pos z, e', kb_s], w2, pem y s1, rfl, p2.tr f', q', hI y w2 p4 z, ?_⟩
        · rw [p1]
          simp only [List.length_cons]
          omega
        · rw [← p6, t1 y w2 s1 p4 z]
      · refine Or.inl ⟨x, by rw [if_neg z], p2, ?_⟩
        rw [← p6, t2 y w2 s1 p4 z]
        exact p3) (n := w.length) (by have := len.1; rw [List.length_append] at this; omega) ⟨w, s, rfl, kfp.rf, q, iw, rfl⟩
def IT (w : List Nat) : Prop := wfT w ∧ rkT w ≤ 2
theorem IT.c {y : Nat} {w : List Nat} (i : IT (y :: w)) (h : y = 10 ∨ y = 11) : IT w := ⟨i.1.1, by rcases wfT_top i.1 i.2 with u | u | u <;> omega⟩
theorem IT.B1 {y : Nat} {w : List Nat} {s : PS} (i : IT (y :: w)) (h : y = 10 ∨ y = 11) : tB (y :: w) s = tB w (pem y s) := by
  rcases wfT_top i.1 i.2 with ⟨rfl, u⟩ | ⟨rfl, u⟩ | u
  · exact tB_10 u
  · exact tB_11 u
  · omega
theorem IT.B2 {y : Nat} {w : List Nat} {s : PS} (i : IT (y :: w)) (h : ¬ (y = 10 ∨ y = 11)) : tB (y :: w) s = (y :: w, s) := by
  rcases wfT_top i.1 i.2 with ⟨rfl, u⟩ | ⟨rfl, u⟩ | rfl
  · exact absurd (Or.inl rfl) h
  · exact absurd (Or.inr rfl) h
  · exact tB_25
theorem on_N {w : List Nat} {c : Nat} : ((w ++ []).head? = some c) ↔ (w.head? = some c) := by
  rw [List.append_nil]
section
variable {h g : KH} {n : Nat} {L : Bool} {w : List Nat} {k a : Nat} {s : PS}
theorem m_dropAnd (n16 : n ≤ 1600) (q : Qd h g n L w [] k a 0 s) (i : IT w) : ∃ g', kloop (f_X12_qGoesOnTest_l87 173) KF g = some g' ∧ kfp Wq2 g g' ∧ Qd h g' n L (tM w s).1 [] k a 0 (tM w s).2 :=
  m_dropG n16 (by omega) (f_X12_qGoesOnTest_l87 173) (fun x => x = 10) (fun x z => by omega) IT (fun y w2 j z => j.c (Or.inl z)) (fun x w1 s1 p j => by
    have i10 : f_X12_qIsOn x 173 (10 : Int32) = some (if (w1 ++ []).head? = some 10 then 1 else 0) := m_qIsOn (c := 10) n16 p (by omega) (by omega)
    unfold f_X12_qGoesOnTest_l87
    rw [if_pos kk173, i10, kb_s, if10, ifP on_N]
    cases w1 with
    | nil => rfl
    | cons y w2 =>
      dsimp only
      rw [ifP (hd_c y 10 w2)]) tM (fun s1 => rfl) (fun y w2 s1 j z => by
    have u := j.1.2
    rw [tM_id (w := w2) (pem y s1) (by rcases wfT_top j.1 j.2 with v | v | v <;> omega)]
    unfold tM
    simp only [if_pos z]) (fun y w2 s1 j z => by
    unfold tM
    simp only [if_neg z]) q i
theorem m_dropOr (n16 : n ≤ 1600) (q : Qd h g n L w [] k a 0 s) (i : IT w) : ∃ g', kloop (f_X12_qGoesOnTest_l137 173) KF g = some g' ∧ kfp Wq2 g g' ∧ Qd h g' n L (tB w s).1 [] k a 0 (tB w s).2 :=
  m_dropG n16 (by omega) (f_X12_qGoesOnTest_l137 173) (fun x => x = 10 ∨ x = 11) (fun x z => by omega) IT (fun y w2 j z => j.c z) (fun x w1 s1 p j => by
    have i10 : f_X12_qIsOn x 173 (10 : Int32) = some (if (w1 ++ []).head? = some 10 then 1 else 0) := m_qIsOn (c := 10) n16 p (by omega) (by omega)
    have i11 : f_X12_qIsOn x 173 (11 : Int32) = some (if (w1 ++ []).head? = some 11 then 1 else 0) := m_qIsOn (c := 11) n16 p (by omega) (by omega)
    unfold f_X12_qGoesOnTest_l137 f_X12_qGoesOnTest_b155
    rw [if_pos kk173, i10, kb_s, if10, i11, kb_s, if10, ifP on_N, ifP on_N]
    cases w1 with
    | nil => rfl
    | cons y w2 =>
      dsimp only
      rw [ifP (hd_c y 10 w2), ifP (hd_c y 11 w2)]
      by_cases z : y = 10
      · rw [if_pos z, if_pos (Or.inl z), if_pos kk173]
      · rw [if_neg z]
        by_cases z2 : y = 11
        · rw [if_pos z2, if_pos (Or.inr z2), if_pos kk173]
        · rw [if_neg z2, if_neg (by omega)]) tB tB_nil (fun y w2 s1 j z => j.B1 z) (fun y w2 s1 j z => j.B2 z) q i
theorem m_dropSq (n16 : n ≤ 1600) (q : Qd h g n L w [] k a 0 s) (i : IT w) (i25 : 25 ∈ w) : ∃ g', kloop (f_X12_qGoesOnTest_l33 173) KF g = some g' ∧ kfp Wq2 g g' ∧ Qd h g' n L (tB w s).1 [] k a 0 (tB w s).2 :=
  m_dropG n16 (by omega) (f_X12_qGoesOnTest_l33 173) (fun x => x = 10 ∨ x = 11) (fun x z => by omega) (fun w1 => IT w1 ∧ 25 ∈ w1) (fun y w2 j z => ⟨j.1.c z, by
    rcases List.mem_cons.mp j.2 with u | u
    · omega
    · exact u⟩) (fun x w1 s1 p j => by
    have i25 : f_X12_qIsOn x 173 (25 : Int32) = some (if (w1 ++ []).head? = some 25 then 1 else 0) := m_qIsOn (c := 25) n16 p (by omega) (by omega)
    unfold f_X12_qGoesOnTest_l33
    rw [if_pos kk173, i25, kb_s, if10, ifP on_N]
    cases w1 with
    | nil => exact absurd j.2 (by simp)
    | cons y w2 =>
      dsimp only
      rw [ifP (hd_c y 25 w2)]
      rcases wfT_top j.1.1 j.1.2 with ⟨u, -⟩ | ⟨u, -⟩ | u
      · rw [if_neg (by omega), if_pos (Or.inl u)]
      · rw [if_neg (by omega), if_pos (Or.inr u)]
      · rw [if_pos u, if_neg (by omega)]) tB tB_nil (fun y w2 s1 j z => j.1.B1 z) (fun y w2 s1 j z => j.1.B2 z) q ⟨i, i25⟩
theorem m_dropAll (n16 : n ≤ 1600) (q : Qd h g n L w [] k a 0 s) (i : IT w) (i25 : ¬ 25 ∈ w) : ∃ g', kloop (f_X12_qTest_l110 173) KF g = some g' ∧ kfp Wq2 g g' ∧ Qd h g' n L (tB w s).1 [] k a 0 (tB w s).2 :=
  m_dropG n16 (by omega) (f_X12_qTest_l110 173) (fun x => x = 10 ∨ x = 11) (fun x z => by omega) (fun w1 => IT w1 ∧ ¬ 25 ∈ w1) (fun y w2 j z => ⟨j.1.c z, fun u => j.2 (List.mem_cons_of_mem _ u)⟩) (fun x w1 s1 p j => by
    have l1 := p.len
    have c88 := p.2.2.2.1.1
    unfold f_X12_qTest_l110
    rw [if_pos kk173, p.1.2.2.1, if_pos rfl, c88]
    cases w1 with
    | nil => exact if_pos (by decide)
    | cons y w2 =>
      dsimp only
      have ly : ((y :: w2) ++ []).length = w2.length + 1 := by rw [List.append_nil]; rfl
      rw [if_neg (by rw [show (0 : Int32) = Int32.ofNat 0 from rfl, n32_le (by omega) (by omega)]; omega)]
      rcases wfT_top j.1.1 j.1.2 with ⟨u, -⟩ | ⟨u, -⟩ | u
      · rw [if_pos (Or.inl u)]
      · rw [if_pos (Or.inr u)]
      · exact absurd (by rw [u]; exact List.mem_cons_self) j.2) tB tB_nil (fun y w2 s1 j z => j.1.B1 z) (fun y w2 s1 j z => j.1.B2 z) q ⟨i, i25⟩
/-- NOT that waits -/
theorem m_qDropsNots (n16 : n ≤ 1600) (q : Qd h g n L w [] k a 0 s) (wf : wfT w) : ∃ g' w' k' s', f_X12_qDropsNots g 173 = some g' ∧ kfp Wq2 g g' ∧ Qd h g' n L w' [] k' a 0 s' ∧ wfT w' ∧ rkT w' ≤ 2 ∧ (dt (tyN h) n L w).1 k s = (dt (tyN h) n L w').1 k' s' ∧ s'.1 = s.1 ∧ s'.2.1 = s.2.1 := by
  have len := q.len
  obtain ⟨g', e, w', k', s', r1, r2, r3, r4, r5, r6, r7⟩ := kloop_KF (body := f_X12_qDropsNots_l0 173) (fun m x => ∃ w1 k1 s1, m = w1.length ∧ kfp Wq2 g x ∧ Qd h x n L w1 [] k1 a 0 s1 ∧ wfT w1 ∧ (dt (tyN h) n L w).1 k s = (dt (tyN h) n L w1).1 k1 s1 ∧ s1.1 = s.1 ∧ s1.2.1 = s.2.1) (fun x => ∃ w1 k1 s1, kfp Wq2 g x ∧ Qd h x n L w1 [] k1 a 0 s1 ∧ wfT w1 ∧ rkT w1 ≤ 2 ∧ (dt (tyN h) n L w).1 k s = (dt (tyN h) n L w1).1 k1 s1 ∧ s1.1 = s.1 ∧ s1.2.1 = s.2.1) (fun m x hP => by
    obtain ⟨w1, k1, s1, p1, p2, p3, p4, p5, p6, p7⟩ := hP
    have i12 : f_X12_qIsOn x 173 (12 : Int32) = some (if (w1 ++ []).head? = some 12 then 1 else 0) := m_qIsOn (c := 12) n16 p3 (by omega) (by omega)
    unfold f_X12_qDropsNots_l0
    rw [if_pos kk173, p3.1.2.2.1, if_pos rfl, i12, kb_s, if10, ifP on_N]
    cases w1 with
    | nil => exact Or.inl ⟨x, rfl, [], k1, s1, p2, p3, p4, Nat.zero_le _, p5, p6, p7⟩
    | cons y w2 =>
      rw [ifP (hd_c y 12 w2)]
      by_cases z : y = 12
      · subst z
        obtain ⟨x', e', f', q'⟩ := m_qDropsO n16 p3 (by omega) (kI x 173 89 - (1 : Int32)) (Or.inr ⟨by omega, rfl⟩)
        rw [if_pos (by omega)] at q'
        refine Or.inr ⟨w2.length, x', ?_, ?_, w2, k1 + 1, pem 12 s1, rfl, p2.tr f', q', p4.1, ?_, p6, p7⟩
        · rw [p1]
          simp only [List.length_cons]
          omega
        · rw [if_pos rfl, kl_e, e', kb_s]
        · rw [p5]
          rfl
      · refine Or.inl ⟨x, by rw [if_neg z], y :: w2, k1, s1, p2, p3, p4, ?_, p5, p6, p7⟩
        rw [rkT_c, if_neg z]
        split
        · omega
        · split <;> omega) (n := w.length) (by have := len.1; rw [List.length_append] at this; omega) ⟨w, k, s, rfl, kfp.rf, q, wf, rfl, rfl, rfl⟩
  refine ⟨g', w', k', s', ?_, r1, r2, r3, r4, r5, r6, r7⟩
  unfold f_X12_qDropsNots
  rw [e, kb_s]
theorem m_qDropsNots_bad {e : Nat × Nat} (m : Md h g n a (.inl e)) : f_X12_qDropsNots g 173 = some g := by
  have st : f_X12_qDropsNots_l0 173 g = some (.inr g) := by
    unfold f_X12_qDropsNots_l0
    rw [if_pos kk173, if_neg m.bad]
  have lp := kloop_for (body := f_X12_qDropsNots_l0 173) (fun _ => g) 0 g (by omega) (fun k hk => absurd hk (Nat.not_lt_zero _)) st
  have lp' : kloop (f_X12_qDropsNots_l0 173) KF g = some g := lp
  unfold f_X12_qDropsNots
  rw [lp', kb_s]
theorem Wt_at {x : KH} : ∀ {T : List Nat}, Wt x T → (∀ i, i < T.length → ∃ y, y ∈ T ∧ y < 100 ∧ kI x 240 i = Int32.ofNat y) ∧ ∀ y, y ∈ T → ∃ i, i < T.length ∧ kI x 240 i = Int32.ofNat y ∧ y < 100
  | [], _ => ⟨fun i hi => absurd hi (Nat.not_lt_zero _), fun y hy => absurd hy (by simp)⟩
  | z :: T, t => by
    obtain ⟨a1, a2⟩ := Wt_at t.2.2
    refine ⟨fun i hi => ?_, fun y hy => ?_⟩
    · by_cases u : i = T.length
      · exact ⟨z, List.mem_cons_self, t.2.1, by rw [u]; exact t.1⟩
      · have hi' : i < T.length + 1 := hi
        obtain ⟨y, b1, b2, b3⟩ := a1 i (by omega)
        exact ⟨y, List.mem_cons_of_mem _ b1, b2, b3⟩
    · rcases List.mem_cons.mp hy with u | u
      · exact ⟨T.length, by show T.length < T.length + 1; omega, by rw [u]; exact t.1, by rw [u]; exact t.2.1⟩
      · obtain ⟨i, b1, b2, b3⟩ := a2 y u
        exact ⟨i, by show i < T.length + 1; omega, b2, b3⟩
theorem m_qHasSquare (n16 : n ≤ 1600) (q : Qd h g n L w [] k a 0 s) : f_X12_qHasSquare g 173 = some (if 25 ∈ w then 1 else 0) := by
  have rg := q.kR
  have len := q.len
  have c88 := q.2.2.2.1.1
  have wt := q.2.2.2.1.2
  rw [List.append_nil] at len c88 wt
  obtain ⟨w1, w2⟩ := Wt_at wt
  obtain ⟨r, er, hr⟩ := kloop_KF (body := f_X12_qHasSquare_l2 g 173) (fun m x => ∃ j, j ≤ w.length ∧ m = w.length - j ∧ x = Int32.ofNat j ∧ ∀ i, i < j → kI g 240 i ≠ Int32.ofNat 25) (fun r => r = (if 25 ∈ w then .inr 1 else .inl ())) (fun m x hP => by
    obtain ⟨j, j1, j2, rfl, j3⟩ := hP
    unfold f_X12_qHasSquare_l2
    rw [if_pos kk173, c88]
    by_cases y : j = w.length
    · refine Or.inl ⟨.inl (), by rw [if_pos (by rw [n32_le (by omega) (by omega)]; omega)], ?_⟩
      rw [if_neg]
      intro z
      obtain ⟨i, b1, b2, -⟩ := w2 25 z
      exact j3 i (by omega) b2
    · rw [if_neg (by rw [n32_le (by omega) (by omega)]; omega), rf173_87 rg, if_pos (show 240 < 999999 by omega), if_pos kk240, kn240, if_neg (by rw [n32_cl (by omega)]; exact fun z => z.elim (n32_nn (by omega)) (by omega)), n32_cl (show j < 2147483648 by omega)]
      by_cases z : kI g 240 j = Int32.ofNat 25
      · refine Or.inl ⟨.inr 1, by rw [z]; rfl, ?_⟩
        rw [if_pos]
        obtain ⟨y, b1, b2, b3⟩ := w1 j (by omega)
        rw [z, n32_eq (by omega) (by omega)] at b3
        rw [b3]
        exact b1
      · refine Or.inr ⟨w.length - (j + 1), Int32.ofNat (j + 1), by omega, by rw [if_neg (show ¬ kI g 240 j = (25 : Int32) from z), kl_e, n32_addl], j + 1, by omega, rfl, rfl, fun i hi => ?_⟩
        by_cases u : i = j
        · rw [u]
          exact z
        · exact j3 i (by omega)) (n := w.length - 0) (by omega) ⟨0, by omega, rfl, rfl, fun i hi => absurd hi (Nat.not_lt_zero _)⟩
  unfold f_X12_qHasSquare
  have er' : kloop (f_X12_qHasSquare_l2 g 173) KF 0 = some r := er
  rw [er', kb_s, hr]
  by_cases z : 25 ∈ w
  · rw [if_pos z, if_pos z]
    rfl
  · rw [if_neg z, if_neg z]
    rfl
end
