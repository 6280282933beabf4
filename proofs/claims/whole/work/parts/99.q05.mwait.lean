/-! the model: codes written, what waits pushed and dropped -/
def Wt (g : KH) : List Nat → Prop
  | [] => True
  | x :: r => kI g 240 r.length = Int32.ofNat x ∧ x < 100 ∧ Wt g r
theorem Wt.same {g g' : KH} : ∀ {T : List Nat}, Wt g T → (∀ i, i < T.length → kI g' 240 i = kI g 240 i) → Wt g' T
  | [], _, _ => trivial
  | x :: r, h, e => ⟨(e _ (by simp only [List.length_cons]; omega)).trans h.1, h.2.1, Wt.same h.2.2 fun i hi => e i (by simp only [List.length_cons]; omega)⟩
def Wq2 (l i : Nat) : Prop := Wmp l i ∨ (l = 173 ∧ 86 ≤ i ∧ i ≤ 90) ∨ l = 239 ∨ l = 240
def Qd (h g : KH) (n : Nat) (L : Bool) (w B : List Nat) (k a e : Nat) (s : PS) : Prop :=
  Md h g n a (.inr s) ∧ kI g 173 44 = (if L = true then 1 else 0) ∧ (kI g 173 86 = Int32.ofNat s.2.2.length ∧ ∀ i, i < s.2.2.length → kI g 239 i = Int32.ofNat (s.2.2.getD i 0)) ∧ (kI g 173 88 = Int32.ofNat (w ++ B).length ∧ Wt g (w ++ B)) ∧ (kI g 173 89 = Int32.ofNat (6 - k) ∧ k ≤ 6 ∧ cnO (w ++ B) + k = 6) ∧ kI g 173 90 = Int32.ofNat B.length ∧ s.2.2.length + (w ++ B).length ≤ s.1 + e
/-- a fault, and codes few enough -/
def Qe (h g : KH) (n M : Nat) (e : Nat × Nat) : Prop := Md h g n 0 (.inl e) ∧ ∃ m, m ≤ M ∧ kI g 173 86 = Int32.ofNat m
theorem Md.l0 {h g : KH} {n a a' : Nat} {e : Nat × Nat} (m : Md h g n a (.inl e)) : Md h g n a' (.inl e) := m
theorem Qd.len {h g : KH} {n : Nat} {L : Bool} {w B : List Nat} {k a e : Nat} {s : PS} (q : Qd h g n L w B k a e s) : s.2.2.length + (w ++ B).length ≤ s.1 + e ∧ s.1 ≤ n := ⟨q.2.2.2.2.2.2, q.1.2.1⟩
/-- the scanner moves alone -/
theorem Qd.mv {h g g' : KH} {n : Nat} {L : Bool} {w B : List Nat} {k a e a' e' : Nat} {s s' : PS} (q : Qd h g n L w B k a e s) (f : kfp Wmp g g') (m : Md h g' n a' (.inr s')) (hc : s'.2.2 = s.2.2) (hp : s.1 + e ≤ s'.1 + e') : Qd h g' n L w B k a' e' s' := by
  obtain ⟨q1, q2, ⟨q3, q4⟩, ⟨q5, q6⟩, ⟨q7, q8, q9⟩, q10, q11⟩ := q
  have I : ∀ l i, ¬ Wmp l i → kI g' l i = kI g l i := fun l i z => f.2.2.1 l i z
  refine ⟨m, (I _ _ (by unfold Wmp; omega)).trans q2, ⟨?_, ?_⟩, ⟨(I _ _ (by unfold Wmp; omega)).trans q5, q6.same fun i _ => I _ _ (by unfold Wmp; omega)⟩, ⟨(I _ _ (by unfold Wmp; omega)).trans q7, q8, q9⟩, (I _ _ (by unfold Wmp; omega)).trans q10, ?_⟩
  · rw [hc, I _ _ (by unfold Wmp; omega)]
    exact q3
  · rw [hc]
    exact fun i hi => (I _ _ (by unfold Wmp; omega)).trans (q4 i hi)
  · rw [hc]
    omega
theorem Qd.bad {h g g' : KH} {n M : Nat} {L : Bool} {w B : List Nat} {k a e a' : Nat} {s : PS} {x : Nat × Nat} (n16 : n ≤ 1600) (q : Qd h g n L w B k a e s) (f : kfp Wmp g g') (m : Md h g' n a' (.inl x)) (he : e ≤ 1) (hM : 1601 ≤ M) : Qe h g' n M x := by
  have l := q.len
  refine ⟨m, s.2.2.length, ?_, (f.2.2.1 _ _ (by unfold Wmp; omega)).trans q.2.2.1.1⟩
  omega
theorem Qd.kR {h g : KH} {n : Nat} {L : Bool} {w B : List Nat} {k a e : Nat} {s : PS} (q : Qd h g n L w B k a e s) : kRefs g := q.1.1.1
/-- a code written, wherever it comes from -/
theorem m_qCodeR {g : KH} {m : Nat} (rg : kRefs g) (e : kI g 173 86 = Int32.ofNat m) (hm : m < 1700) (c : Int32) : f_X12_qCode g 173 c = some (ksI (ksI g 239 m c) 173 86 (Int32.ofNat (m + 1))) := by
  unfold f_X12_qCode
  rw [if_pos kk173, rf173_85 rg, if_pos (show 239 < 999999 by omega), if_pos kk239, kn239, e, if_neg (by rw [n32_cl (by omega)]; exact fun z => z.elim (n32_nn (by omega)) (by omega)), n32_cl (show m < 2147483648 by omega), kl_e, kI_sI, if_neg (by omega), e, n32_addl, kl_e]
theorem codeW (g : KH) (m : Nat) (c : Int32) : kfp Wq2 g (ksI (ksI g 239 m c) 173 86 (Int32.ofNat (m + 1))) := (kfp.rf.sI _ (by unfold Wq2; omega)).sI _ (by unfold Wq2; omega)
/-- a code more, and room for it -/
theorem m_qCode {h g : KH} {n c : Nat} {L : Bool} {w B : List Nat} {k a e : Nat} {s : PS} (n16 : n ≤ 1600) (q : Qd h g n L w B k a e s) (he : e ≤ 1) : ∃ g', f_X12_qCode g 173 (Int32.ofNat c) = some g' ∧ kfp Wq2 g g' ∧ Qd h g' n L w B k a (e + 1) (pem c s) := by
  have l := q.len
  obtain ⟨q1, q2, ⟨q3, q4⟩, ⟨q5, q6⟩, ⟨q7, q8, q9⟩, q10, q11⟩ := q
  obtain ⟨g', eg⟩ : ∃ g', g' = ksI (ksI g 239 s.2.2.length (Int32.ofNat c)) 173 86 (Int32.ofNat (s.2.2.length + 1)) := ⟨_, rfl⟩
  have f : kfp (fun l i => l = 239 ∨ (l = 173 ∧ i = 86)) g g' := by rw [eg]; exact (kfp.rf.sI _ (by omega)).sI _ (by omega)
  have I : ∀ l i, l ≠ 239 → ¬ (l = 173 ∧ i = 86) → kI g' l i = kI g l i := fun l i x y => f.2.2.1 _ _ (by omega)
  have el : (s.2.2 ++ [c]).length = s.2.2.length + 1 := by simp
  have q1' : Md h g' n a (.inr (pem c s)) := by
    have := q1.fp f fun l i z => by omega
    exact this
  refine ⟨g', by rw [eg]; exact m_qCodeR q1.1.1 q3 (by omega) _, f.wide fun l i z => by unfold Wq2; omega, q1', (I _ _ (by omega) (by omega)).trans q2, ⟨?_, ?_⟩, ⟨(I _ _ (by omega) (by omega)).trans q5, q6.same fun i _ => I _ _ (by omega) (by omega)⟩, ⟨(I _ _ (by omega) (by omega)).trans q7, q8, q9⟩, (I _ _ (by omega) (by omega)).trans q10, ?_⟩
  · show _ = Int32.ofNat (s.2.2 ++ [c]).length
    rw [el, eg, kI_sI, if_pos ⟨rfl, rfl⟩]
  · show ∀ i, i < (s.2.2 ++ [c]).length → kI g' 239 i = Int32.ofNat ((s.2.2 ++ [c]).getD i 0)
    rw [el]
    intro i hi
    rw [eg, kI_sI, if_neg (by omega), kI_sI, getD_app hi]
    by_cases y : i = s.2.2.length
    · rw [if_pos ⟨rfl, y⟩, if_neg (by omega)]
    · rw [if_neg (fun z => y z.2), if_pos (by omega)]
      exact q4 i (by omega)
  · show (s.2.2 ++ [c]).length + _ ≤ s.1 + _
    rw [el]
    omega
theorem Qd.top {h g : KH} {n : Nat} {L : Bool} {w B : List Nat} {k a e x : Nat} {s : PS} {T : List Nat} (n16 : n ≤ 1600) (he : e ≤ 2) (q : Qd h g n L w B k a e s) (hT : w ++ B = x :: T) : kI g 173 88 = Int32.ofNat (T.length + 1) ∧ kI g 240 T.length = Int32.ofNat x ∧ x < 100 ∧ T.length + 1 ≤ 1602 := by
  have l := q.len
  obtain ⟨q1, q2, ⟨q3, q4⟩, ⟨q5, q6⟩, -⟩ := q
  rw [hT] at q5 q6 l
  simp only [List.length_cons] at l
  exact ⟨q5, q6.1, q6.2.1, by omega⟩
/-- what waits last becomes a code; o: whether it counts as open -/
theorem m_qDropsO {h g : KH} {n : Nat} {L : Bool} {w B : List Nat} {k a e x : Nat} {s : PS} (n16 : n ≤ 1600) (q : Qd h g n L (x :: w) B k a e s) (he : e ≤ 1) (v : Int32) (hv : (x < 12 ∧ v = kI g 173 89) ∨ (12 ≤ x ∧ v = kI g 173 89 - (1 : Int32))) : ∃ g', f_X12_qDrops (ksI g 173 89 v) 173 = some g' ∧ kfp Wq2 g g' ∧ Qd h g' n L w B (if 12 ≤ x then k + 1 else k) a e (pem x s) := by
  have l := q.len
  obtain ⟨t1, t2, t3, t4⟩ := q.top n16 (by omega) (T := w ++ B) rfl
  obtain ⟨q1, q2, ⟨q3, q4⟩, ⟨q5, q6⟩, ⟨q7, q8, q9⟩, q10, q11⟩ := id q
  have cn9 : cnO (w ++ B) + (if 12 ≤ x then 1 else 0) + k = 6 := q9
  have rg := q1.1.1
  obtain ⟨g0, eg0⟩ : ∃ g0, g0 = ksI g 173 89 v := ⟨_, rfl⟩
  have f0 : kfp (fun l i => l = 173 ∧ i = 89) g g0 := by rw [eg0]; exact kfp.rf.sI _ ⟨rfl, rfl⟩
  obtain ⟨g1, eg1⟩ : ∃ g1, g1 = ksI g0 173 88 (Int32.ofNat (w ++ B).length) := ⟨_, rfl⟩
  have f1 : kfp (fun l i => l = 173 ∧ (i = 88 ∨ i = 89)) g g1 := by rw [eg1]; exact (f0.wide fun l i z => by omega).sI _ (by omega)
  have r1 := rg.fp f1
  have c86 : kI g1 173 86 = Int32.ofNat s.2.2.length := (f1.2.2.1 _ _ (by omega)).trans q3
  obtain ⟨g2, eg2⟩ : ∃ g2, g2 = ksI (ksI g1 239 s.2.2.length (Int32.ofNat x)) 173 86 (Int32.ofNat (s.2.2.length + 1)) := ⟨_, rfl⟩
  have f12 : kfp (fun l i => l = 239 ∨ (l = 173 ∧ i = 86)) g1 g2 := by rw [eg2]; exact (kfp.rf.sI _ (by omega)).sI _ (by omega)
  have f2 : kfp (fun l i => l = 239 ∨ (l = 173 ∧ (i = 86 ∨ i = 88 ∨ i = 89))) g g2 := (f1.wide fun l i z => by omega).tr (f12.wide fun l i z => by omega)
  have I : ∀ l i, l ≠ 239 → ¬ (l = 173 ∧ (i = 86 ∨ i = 88 ∨ i = 89)) → kI g2 l i = kI g l i := fun l i x y => f2.2.2.1 _ _ (by omega)
  have el : (s.2.2 ++ [x]).length = s.2.2.length + 1 := by simp
  have q1' : Md h g2 n a (.inr (pem x s)) := by
    have := q1.fp f2 fun l i z => by omega
    exact this
  have lw : ((x :: w) ++ B).length = (w ++ B).length + 1 := rfl
  have k89 : kI g2 173 89 = v := by rw [f12.2.2.1 _ _ (by omega), eg1, kI_sI, if_neg (by omega), eg0, kI_sI, if_pos ⟨rfl, rfl⟩]
  refine ⟨g2, ?_, f2.wide fun l i z => by unfold Wq2; omega, q1', (I _ _ (by omega) (by omega)).trans q2, ⟨?_, ?_⟩, ⟨?_, q6.2.2.same fun i _ => I _ _ (by omega) (by omega)⟩, ?_, (I _ _ (by omega) (by omega)).trans q10, ?_⟩
  · unfold f_X12_qDrops
    rw [if_pos kk173, ← eg0, f0.2.2.1 _ _ (by omega), t1, n32_subl (by omega), show (w ++ B).length + 1 - 1 = (w ++ B).length by omega, ← eg1, kl_e, rf173_87 r1, if_pos (show 240 < 999999 by omega), if_pos kk240, kn240, show kI g1 173 88 = Int32.ofNat (w ++ B).length by rw [eg1, kI_sI, if_pos ⟨rfl, rfl⟩], if_neg (by rw [n32_cl (by omega)]; exact fun z => z.elim (n32_nn (by omega)) (by omega)), n32_cl (show (w ++ B).length < 2147483648 by omega), f1.2.2.1 _ _ (by omega), t2, m_qCodeR r1 c86 (by omega), kb_s, eg2]
  · show _ = Int32.ofNat (s.2.2 ++ [x]).length
    rw [el, eg2, kI_sI, if_pos ⟨rfl, rfl⟩]
  · show ∀ i, i < (s.2.2 ++ [x]).length → kI g2 239 i = Int32.ofNat ((s.2.2 ++ [x]).getD i 0)
    rw [el]
    intro i hi
    rw [eg2, kI_sI, if_neg (by omega), kI_sI, getD_app hi]
    by_cases y : i = s.2.2.length
    · rw [if_pos ⟨rfl, y⟩, if_neg (by omega)]
    · rw [if_neg (fun z => y z.2), if_pos (by omega), f1.2.2.1 _ _ (by omega)]
      exact q4 i (by omega)
  · rw [f12.2.2.1 _ _ (by omega), eg1, kI_sI, if_pos ⟨rfl, rfl⟩]
  · rw [k89]
    rcases hv with ⟨h1, h2⟩ | ⟨h1, h2⟩
    · rw [if_neg (by omega)] at cn9 ⊢
      rw [h2]
      exact ⟨q7, q8, by omega⟩
    · rw [if_pos h1] at cn9 ⊢
      rw [h2, q7, n32_subl (by omega), show 6 - k - 1 = 6 - (k + 1) by omega]
      exact ⟨rfl, by omega, by omega⟩
  · show (s.2.2 ++ [x]).length + (w ++ B).length ≤ s.1 + e
    rw [el]
    omega
theorem ksI_id {g : KH} {l i : Nat} : ksI g l i (kI g l i) = g := KH_ext rfl (fun a b => by
  rw [kI_sI]
  by_cases y : a = l ∧ b = i
  · rw [if_pos y, y.1, y.2]
  · rw [if_neg y]) (fun a b => kL_sI) (fun a b => kR_sI)
theorem m_qDrops {h g : KH} {n : Nat} {L : Bool} {w B : List Nat} {k a e x : Nat} {s : PS} (n16 : n ≤ 1600) (q : Qd h g n L (x :: w) B k a e s) (he : e ≤ 1) (hx : x < 12) : ∃ g', f_X12_qDrops g 173 = some g' ∧ kfp Wq2 g g' ∧ Qd h g' n L w B k a e (pem x s) := by
  obtain ⟨g', e1, f1, q1⟩ := m_qDropsO n16 q he (kI g 173 89) (Or.inl ⟨hx, rfl⟩)
  rw [ksI_id] at e1
  rw [if_neg (by omega)] at q1
  exact ⟨g', e1, f1, q1⟩
/-- pushed: what waits for one part more -/
theorem q_push {h g : KH} {n x : Nat} {L : Bool} {w B : List Nat} {k a e : Nat} {s : PS} (n16 : n ≤ 1600) (q : Qd h g n L w B k a e s) (he : e ≤ 1) (hx : x < 12) : (kR g 173 87 = 240 ∧ kkind 240 = 20 ∧ ¬ (kI g 173 88 < 0 ∨ klen 240 ≤ (kI g 173 88).toNatClampNeg)) ∧ ∃ g', g' = ksI (ksI g 240 (kI g 173 88).toNatClampNeg (Int32.ofNat x)) 173 88 (kI (ksI g 240 (kI g 173 88).toNatClampNeg (Int32.ofNat x)) 173 88 + (1 : Int32)) ∧ kfp Wq2 g g' ∧ Qd h g' n L (x :: w) B k a (e + 1) s := by
  have l := q.len
  obtain ⟨q1, q2, ⟨q3, q4⟩, ⟨q5, q6⟩, ⟨q7, q8, q9⟩, q10, q11⟩ := q
  refine ⟨⟨rf173_87 q1.1.1, kk240, ?_⟩, ?_⟩
  · rw [q5, kn240, n32_cl (by omega)]
    exact fun z => z.elim (n32_nn (by omega)) (by omega)
  · rw [q5, n32_cl (by omega), kI_sI, if_neg (by omega), q5, n32_addl]
    obtain ⟨g', eg⟩ : ∃ g', g' = ksI (ksI g 240 (w ++ B).length (Int32.ofNat x)) 173 88 (Int32.ofNat ((w ++ B).length + 1)) := ⟨_, rfl⟩
    have f : kfp (fun l i => l = 240 ∧ i = (w ++ B).length ∨ (l = 173 ∧ i = 88)) g g' := by rw [eg]; exact (kfp.rf.sI _ (by omega)).sI _ (by omega)
    have I : ∀ l i, l ≠ 240 → ¬ (l = 173 ∧ i = 88) → kI g' l i = kI g l i := fun l i x y => f.2.2.1 _ _ (by omega)
    refine ⟨g', eg, f.wide fun l i z => by unfold Wq2; omega, q1.fp f fun l i z => by omega, (I _ _ (by omega) (by omega)).trans q2, ⟨(I _ _ (by omega) (by omega)).trans q3, fun i hi => (I _ _ (by omega) (by omega)).trans (q4 i hi)⟩, ⟨?_, ?_, by omega, q6.same fun i hi => f.2.2.1 _ _ (by omega)⟩, ⟨(I _ _ (by omega) (by omega)).trans q7, q8, ?_⟩, (I _ _ (by omega) (by omega)).trans q10, ?_⟩
    · rw [eg, kI_sI, if_pos ⟨rfl, rfl⟩]
      rfl
    · rw [eg, kI_sI, if_neg (by omega), kI_sI, if_pos ⟨rfl, rfl⟩]
    · show cnO (w ++ B) + _ + k = 6
      rw [if_neg (by omega)]
      omega
    · show _ + ((w ++ B).length + 1) ≤ _
      omega
/-- one opened more, or a fault -/
theorem m_qOpens {h g : KH} {n x : Nat} {L : Bool} {w B : List Nat} {k : Nat} {s : PS} (n16 : n ≤ 1600) (q : Qd h g n L w B k (blE (tyN h) n s.1) 0 s) (hx : 12 ≤ x) (hx2 : x < 100) : ∃ g', f_X12_qOpens g 173 (Int32.ofNat x) (kI g 173 2) = some g' ∧ kfp Wq2 g g' ∧ (k = 0 → Md h g' n 0 (pft (tyN h) n 4 s) ∧ kI g' 173 86 = Int32.ofNat s.2.2.length) ∧ (k ≠ 0 → Qd h g' n L (x :: w) B (k - 1) (blE (tyN h) n s.1) 1 s) := by
  have l := q.len
  obtain ⟨q1, q2, ⟨q3, q4⟩, ⟨q5, q6⟩, ⟨q7, q8, q9⟩, q10, q11⟩ := id q
  unfold f_X12_qOpens
  rw [if_pos kk173, q1.2.2.1, if_pos rfl, q7]
  by_cases y : k = 0
  · obtain ⟨g1, e1, f1, m1⟩ := m_failS (k := 4) (g := g) (s := s) q1 (by omega) (by omega)
    have e1' : f_X12_fail g 173 (4 : Int32) (kI g 173 2) = some g1 := e1
    rw [if_pos (by rw [y]; rfl), e1', kb_s]
    exact ⟨g1, rfl, f1.wide fun l i z => Or.inl z, fun _ => ⟨m1, (f1.2.2.1 _ _ (by unfold Wmp; omega)).trans q3⟩, fun z => absurd y z⟩
  · obtain ⟨g1, eg1⟩ : ∃ g1, g1 = ksI g 173 89 (Int32.ofNat (6 - (k - 1))) := ⟨_, rfl⟩
    have f1 : kfp (fun l i => l = 173 ∧ i = 89) g g1 := by rw [eg1]; exact kfp.rf.sI _ ⟨rfl, rfl⟩
    have r1 := q1.1.1.fp f1
    have e88 : kI g1 173 88 = Int32.ofNat (w ++ B).length := (f1.2.2.1 _ _ (by omega)).trans q5
    rw [if_neg (by rw [n32_eql (by omega) (by omega)]; omega), n32_addl, show 6 - k + 1 = 6 - (k - 1) by omega, ← eg1, kl_e, rf173_87 r1, if_pos (show 240 < 999999 by omega), if_pos kk240, kn240, e88, if_neg (by rw [n32_cl (by omega)]; exact fun z => z.elim (n32_nn (by omega)) (by omega)), n32_cl (show (w ++ B).length < 2147483648 by omega), kl_e, kI_sI, if_neg (by omega), e88, n32_addl, kl_e]
    obtain ⟨g2, eg2⟩ : ∃ g2, g2 = ksI (ksI g1 240 (w ++ B).length (Int32.ofNat x)) 173 88 (Int32.ofNat ((w ++ B).length + 1)) := ⟨_, rfl⟩
    rw [← eg2]
    have f12 : kfp (fun l i => l = 240 ∧ i = (w ++ B).length ∨ (l = 173 ∧ i = 88)) g1 g2 := by rw [eg2]; exact (kfp.rf.sI _ (by omega)).sI _ (by omega)
    have f : kfp (fun l i => l = 240 ∧ i = (w ++ B).length ∨ (l = 173 ∧ (i = 88 ∨ i = 89))) g g2 := (f1.wide fun l i z => by omega).tr (f12.wide fun l i z => by omega)
    have I : ∀ l i, l ≠ 240 → ¬ (l = 173 ∧ (i = 88 ∨ i = 89)) → kI g2 l i = kI g l i := fun l i x y => f.2.2.1 _ _ (by omega)
    refine ⟨g2, rfl, f.wide fun l i z => by unfold Wq2; omega, fun z => absurd z y, fun _ => ⟨q1.fp f fun l i z => by omega, (I _ _ (by omega) (by omega)).trans q2, ⟨(I _ _ (by omega) (by omega)).trans q3, fun i hi => (I _ _ (by omega) (by omega)).trans (q4 i hi)⟩, ⟨?_, ?_, hx2, q6.same fun i hi => f.2.2.1 _ _ (by omega)⟩, ⟨?_, by omega, ?_⟩, (I _ _ (by omega) (by omega)).trans q10, ?_⟩⟩
    · rw [eg2, kI_sI, if_pos ⟨rfl, rfl⟩]
      rfl
    · rw [eg2, kI_sI, if_neg (by omega), kI_sI, if_pos ⟨rfl, rfl⟩]
    · rw [f12.2.2.1 _ _ (by omega), eg1, kI_sI, if_pos ⟨rfl, rfl⟩]
    · show cnO (w ++ B) + _ + (k - 1) = 6
      rw [if_pos hx]
      omega
    · show _ + ((w ++ B).length + 1) ≤ _
      omega
/-- whether that is what waits last -/
theorem m_qIsOn {h g : KH} {n c : Nat} {L : Bool} {w B : List Nat} {k a e : Nat} {s : PS} (n16 : n ≤ 1600) (q : Qd h g n L w B k a e s) (he : e ≤ 2) (hc : c < 100) : f_X12_qIsOn g 173 (Int32.ofNat c) = some (if (w ++ B).head? = some c then 1 else 0) := by
  have rg := q.kR
  unfold f_X12_qIsOn
  rw [if_pos kk173]
  cases hT : w ++ B with
  | nil =>
    have e := q.2.2.2.1.1
    rw [hT] at e
    rw [e, if_pos (by decide), if_neg (by simp)]
  | cons x T =>
    obtain ⟨t1, t2, t3, t4⟩ := q.top n16 he hT
    rw [t1, if_neg (by rw [show (0 : Int32) = Int32.ofNat 0 from rfl, n32_le (by omega) (by omega)]; omega), rf173_87 rg, if_pos (show 240 < 999999 by omega), if_pos kk240, kn240, n32_subl (by omega), show T.length + 1 - 1 = T.length by omega, if_neg (by rw [n32_cl (by omega)]; exact fun z => z.elim (n32_nn (by omega)) (by omega)), n32_cl (show T.length < 2147483648 by omega), t2]
    by_cases y : x = c
    · rw [if_pos (by rw [y]), if_pos (by rw [y]; rfl)]
    · rw [if_neg (by rw [n32_eq (by omega) (by omega)]; exact y), if_neg (fun z => by
        have : some x = some c := z
        cases this
        exact y rfl)]
