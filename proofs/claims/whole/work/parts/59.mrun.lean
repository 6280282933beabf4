/-! the model's pile -/
def Pm (h : KH) : List Int → Prop
  | [] => True
  | v :: r => (kL h 241 r.length).toInt = v ∧ Pm h r
theorem Pm.setL {h : KH} {x : Int64} {i : Nat} : ∀ {r : List Int}, Pm h r → r.length ≤ i → Pm (ksL h 241 i x) r
  | [], _, _ => trivial
  | v :: r, hp, hl => by
    simp only [List.length_cons] at hl
    refine ⟨?_, Pm.setL hp.2 (by omega)⟩
    rw [kL_sL, if_neg (by omega)]
    exact hp.1
theorem Pm.same {h h' : KH} (e : ∀ i, kL h' 241 i = kL h 241 i) : ∀ {r : List Int}, Pm h r → Pm h' r
  | [], _ => trivial
  | v :: r, hp => ⟨by rw [e]; exact hp.1, Pm.same e hp.2⟩
/-- the pile: its length, its numbers -/
def Qp (h : KH) (vs : List Int) : Prop := kI h 173 92 = Int32.ofNat vs.length ∧ Pm h vs
def Wq (l i : Nat) : Prop := (l = 173 ∧ i = 92) ∨ l = 241
theorem m_qPuts {g : KH} (hr : kRefs g) {k : Nat} (hk : kI g 173 92 = Int32.ofNat k) (k60 : k < 1700) {r : List Int} (hl : r.length = k) (hp : Pm g r) {x : Int64} {v : Int} (hx : x.toInt = v) : ∃ g', f_X12_qPuts g 173 x = some g' ∧ kfp Wq g g' ∧ Qp g' (v :: r) := by
  refine ⟨ksI (ksL g 241 k x) 173 92 (Int32.ofNat (k + 1)), ?_, (kfp.rf.sL _ (Or.inr rfl)).sI _ (Or.inl ⟨rfl, rfl⟩), ?_, ?_, ?_⟩
  · unfold f_X12_qPuts
    rw [if_pos kk173, rf173_91 hr, if_pos (show 241 < 999999 by omega), if_pos kk241, kn241, hk, if_neg (by rw [n32_cl (by omega)]; exact fun z => z.elim (n32_nn (by omega)) (by omega)), n32_cl (by omega), kl_e, kI_sL, hk, n32_addl, kl_e]
  · rw [kI_sI, if_pos ⟨rfl, rfl⟩]
    simp only [List.length_cons, hl]
  · show (kL (ksI _ _ _ _) _ _).toInt = v
    rw [kL_sI, kL_sL, if_pos ⟨rfl, hl⟩]
    exact hx
  · exact Pm.same (h := ksL g 241 k x) (h' := ksI (ksL g 241 k x) 173 92 (Int32.ofNat (k + 1))) (fun i => rfl) (hp.setL (x := x) (i := k) (by omega))
theorem m_qClip (h : KH) {v : Int64} {x : Int} (hv : v.toInt = x) : ∃ z, f_X12_qClip h v = some z ∧ z.toInt = rclip x := by
  have a1 : (1000000 : Int64).toInt = 1000000 := by decide
  have a2 : (-1000000 : Int64).toInt = -1000000 := by decide
  unfold f_X12_qClip rclip
  by_cases h1 : 1000000 < x
  · rw [if_neg (by rw [← Int32.not_lt, Classical.not_not, lgc_gt, a1, hv]; exact h1), if_pos h1]
    exact ⟨_, rfl, a1⟩
  · rw [if_pos (by rw [← Int32.not_lt, lgc_gt, a1, hv]; exact h1), if_neg h1]
    by_cases h2 : x < -1000000
    · rw [if_neg (by rw [← Int32.not_lt, Classical.not_not, lgc_lt, a2, hv]; exact h2), if_pos h2]
      exact ⟨_, rfl, a2⟩
    · rw [if_pos (by rw [← Int32.not_lt, lgc_lt, a2, hv]; exact h2), if_neg h2]
      exact ⟨v, rfl, hv⟩
theorem lg0_ge {v : Int64} {x : Int} (hv : v.toInt = x) : 0 ≤ lg_cmp v 0 ↔ 0 ≤ x := by
  have z0 : (0 : Int64).toInt = 0 := rfl
  rw [← Int32.not_lt, lgc_lt, hv, z0]
  omega
theorem lgi_ge {a b : Int64} {x y : Int} (ha : a.toInt = x) (hb : b.toInt = y) : 0 ≤ lg_cmp a b ↔ y ≤ x := by
  rw [← Int32.not_lt, lgc_lt, ha, hb]
  omega
theorem lgi_le {a b : Int64} {x y : Int} (ha : a.toInt = x) (hb : b.toInt = y) : lg_cmp a b ≤ 0 ↔ x ≤ y := by
  rw [← Int32.not_lt, lgc_gt, ha, hb]
  omega
theorem lgi_eq {a b : Int64} {x y : Int} (ha : a.toInt = x) (hb : b.toInt = y) : lg_cmp a b = 0 ↔ x = y := by
  rw [lgc_eq, ← Int64.toInt_inj, ha, hb]
theorem m_qFloor (h : KH) {a b : Int64} {x y : Int} (ha : a.toInt = x) (hb : b.toInt = y) (hx : -1000000 ≤ x ∧ x ≤ 1000000) (hy : -1000000 ≤ y ∧ y ≤ 1000000) : ∃ z, f_X12_qFloor h a b = some z ∧ z.toInt = rdiv x y := by
  have z0 : (0 : Int64).toInt = 0 := rfl
  have t := tdiv_b (b := y) hx
  unfold f_X12_qFloor rdiv
  by_cases y0 : y = 0
  · rw [if_pos ((lgi_eq hb z0).mpr y0), if_pos y0]
    exact ⟨0, rfl, rfl⟩
  · have b0 : ¬ b = 0 := fun e => y0 (by rw [← hb, e]; rfl)
    have hq : (a / b).toInt = x.tdiv y := by rw [Int64.toInt_div, ha, hb, Int.bmod_eq_of_le (by omega) (by omega)]
    have hm : (x.tmod y).natAbs ≤ x.natAbs := by
      rw [Int.natAbs_tmod]
      exact Nat.mod_le _ _
    have e1 := Int.mul_tdiv_add_tmod x y
    rw [Int.mul_comm] at e1
    have hqm : (a - a / b * b).toInt = x.tmod y := by
      rw [Int64.toInt_sub, Int64.toInt_mul, hq, ha, hb, Int.bmod_eq_of_le (n := x.tdiv y * y) (by omega) (by omega), Int.bmod_eq_of_le (by omega) (by omega)]
      omega
    have hq1 : ((a / b) - (1 : Int64)).toInt = x.tdiv y - 1 := by
      have o1 : (1 : Int64).toInt = 1 := rfl
      rw [Int64.toInt_sub, hq, o1, Int.bmod_eq_of_le (by omega) (by omega)]
    rw [if_neg (fun e => y0 ((lgi_eq hb z0).mp e)), if_neg b0, kl_e, if_neg b0, if_neg y0]
    by_cases m : x.tmod y = 0
    · rw [if_pos ((lgi_eq hqm z0).mpr m), if_pos m]
      exact ⟨_, rfl, hq⟩
    · rw [if_neg (fun e => m ((lgi_eq hqm z0).mp e)), if_neg m]
      unfold f_X12_qFloor_b32 f_X12_qFloor_b43
      have d01 : ¬ ((0 : Int32) = 1) := by decide
      have d10 : ¬ ((1 : Int32) = 0) := by decide
      by_cases p : 0 ≤ x
      · rw [if_pos ((lgi_ge ha z0).mpr p)]
        by_cases q : 0 ≤ y
        · rw [if_pos ((lgi_ge hb z0).mpr q), if_pos rfl, if_pos (by omega)]
          exact ⟨_, rfl, hq⟩
        · rw [if_neg (fun e => q ((lgi_ge hb z0).mp e)), if_neg d01, if_neg (by omega)]
          exact ⟨_, rfl, hq1⟩
      · rw [if_neg (fun e => p ((lgi_ge ha z0).mp e))]
        by_cases q : 0 ≤ y
        · rw [if_pos ((lgi_ge hb z0).mpr q), if_neg d10, if_neg (by omega)]
          exact ⟨_, rfl, hq1⟩
        · rw [if_neg (fun e => q ((lgi_ge hb z0).mp e)), if_pos rfl, if_pos (by omega)]
          exact ⟨_, rfl, hq⟩
theorem m_qJoins {g : KH} (hr : kRefs g) {c : Nat} (hc : 1 ≤ c ∧ c ≤ 11) {x y : Int} {r : List Int} (hq : Qp g (y :: x :: r)) (l60 : r.length < 100) (hv : (c ≤ 9 ∧ (-1000000 ≤ x ∧ x ≤ 1000000) ∧ (-1000000 ≤ y ∧ y ≤ 1000000)) ∨ (10 ≤ c ∧ (x = 0 ∨ x = 1) ∧ (y = 0 ∨ y = 1))) :
    ∃ g', f_X12_qJoins g 173 (Int32.ofNat c) = some g' ∧ kfp Wq g g' ∧ Qp g' (rjoin c x y :: r) := by
  obtain ⟨h1, h2, h3, h4⟩ := hq
  simp only [List.length_cons] at h1 h2
  obtain ⟨g2, e2⟩ : ∃ g2, g2 = ksI g 173 92 (Int32.ofNat r.length) := ⟨_, rfl⟩
  have f2 : kfp Wq g g2 := by rw [e2]; exact kfp.rf.sI _ (Or.inl ⟨rfl, rfl⟩)
  have r2 := hr.fp f2
  have k2 : kI g2 173 92 = Int32.ofNat r.length := by rw [e2, kI_sI, if_pos ⟨rfl, rfl⟩]
  have p2 : Pm g2 r := by rw [e2]; exact Pm.same (h := g) (h' := ksI g 173 92 (Int32.ofNat r.length)) (fun i => rfl) h4
  have put : ∀ {v : Int64} {w : Int}, v.toInt = w → ∃ g', f_X12_qPuts g2 173 v = some g' ∧ kfp Wq g g' ∧ Qp g' (w :: r) := fun hv => by
    obtain ⟨g', q1, q2, q3⟩ := m_qPuts r2 k2 (by omega) rfl p2 hv
    exact ⟨g', q1, f2.tr q2, q3⟩
  have z0 : (0 : Int64).toInt = 0 := rfl
  have z1 : (1 : Int64).toInt = 1 := rfl
  obtain ⟨b, hb⟩ : ∃ b, kL g 241 (r.length + 1) = b := ⟨_, rfl⟩
  obtain ⟨a, ha⟩ : ∃ a, kL g 241 r.length = a := ⟨_, rfl⟩
  rw [hb] at h2
  rw [ha] at h3
  have d : ∀ i j : Nat, i < 100 → j < 100 → i ≠ j → ¬ (Int32.ofNat i = Int32.ofNat j) := fun i j hi hj hn e => hn ((n32_eq (by omega) (by omega)).mp e)
  unfold f_X12_qJoins
  rw [if_pos kk173, rf173_91 hr, if_pos (show 241 < 999999 by omega), if_pos kk241, kn241, h1, n32_subl (by omega), n32_subl (by omega), if_neg (by rw [n32_cl (by omega)]; exact fun z => z.elim (n32_nn (by omega)) (by omega)), kl_e, if_neg (by rw [n32_cl (by omega)]; exact fun z => z.elim (n32_nn (by omega)) (by omega)), n32_cl (by omega), n32_cl (by omega), show r.length + 1 + 1 - 1 = r.length + 1 by omega, show r.length + 1 + 1 - 2 = r.length by omega, hb, ha, kl_e, ← e2, kl_e]
  have e : c = 1 ∨ c = 2 ∨ c = 3 ∨ c = 4 ∨ c = 5 ∨ c = 6 ∨ c = 7 ∨ c = 8 ∨ c = 9 ∨ c = 10 ∨ c = 11 := by omega
  rcases e with rfl | rfl | rfl | rfl | rfl | rfl | rfl | rfl | rfl | rfl | rfl
  · skip
    obtain ⟨-, hx, hy⟩ : 1 ≤ 9 ∧ (-1000000 ≤ x ∧ x ≤ 1000000) ∧ (-1000000 ≤ y ∧ y ≤ 1000000) := by
      rcases hv with hv | hv
      · exact hv
      · omega
    obtain ⟨z, z1, z2⟩ := m_qClip g2 (v := a + b) (x := x + y) (by rw [Int64.toInt_add, h3, h2, Int.bmod_eq_of_le (by omega) (by omega)])
    obtain ⟨g', q1, q2, q3⟩ := put z2
    exact ⟨g', by rw [if_pos (show Int32.ofNat 1 = (1 : Int32) from rfl), z1, kb_s, q1, kb_s], q2, by rw [rj1]; exact q3⟩
  · skip
    obtain ⟨-, hx, hy⟩ : 2 ≤ 9 ∧ (-1000000 ≤ x ∧ x ≤ 1000000) ∧ (-1000000 ≤ y ∧ y ≤ 1000000) := by
      rcases hv with hv | hv
      · exact hv
      · omega
    obtain ⟨z, z1, z2⟩ := m_qClip g2 (v := a - b) (x := x - y) (by rw [Int64.toInt_sub, h3, h2, Int.bmod_eq_of_le (by omega) (by omega)])
    obtain ⟨g', q1, q2, q3⟩ := put z2
    exact ⟨g', by rw [if_neg (show ¬ (Int32.ofNat 2 = (1 : Int32)) from d 2 1 (by omega) (by omega) (by omega)), if_pos (show Int32.ofNat 2 = (2 : Int32) from rfl), z1, kb_s, q1, kb_s], q2, by rw [rj2]; exact q3⟩
  · skip
    obtain ⟨-, hx, hy⟩ : 3 ≤ 9 ∧ (-1000000 ≤ x ∧ x ≤ 1000000) ∧ (-1000000 ≤ y ∧ y ≤ 1000000) := by
      rcases hv with hv | hv
      · exact hv
      · omega
    have m := mul_b hx hy
    obtain ⟨z, z1, z2⟩ := m_qClip g2 (v := a * b) (x := x * y) (by rw [Int64.toInt_mul, h3, h2, Int.bmod_eq_of_le (by omega) (by omega)])
    obtain ⟨g', q1, q2, q3⟩ := put z2
    exact ⟨g', by rw [if_neg (show ¬ (Int32.ofNat 3 = (1 : Int32)) from d 3 1 (by omega) (by omega) (by omega)), if_neg (show ¬ (Int32.ofNat 3 = (2 : Int32)) from d 3 2 (by omega) (by omega) (by omega)), if_pos (show Int32.ofNat 3 = (3 : Int32) from rfl), z1, kb_s, q1, kb_s], q2, by rw [rj3]; exact q3⟩
  · skip
    obtain ⟨-, hx, hy⟩ : 4 ≤ 9 ∧ (-1000000 ≤ x ∧ x ≤ 1000000) ∧ (-1000000 ≤ y ∧ y ≤ 1000000) := by
      rcases hv with hv | hv
      · exact hv
      · omega
    obtain ⟨z, z1, z2⟩ := m_qFloor g2 h3 h2 hx hy
    obtain ⟨g', q1, q2, q3⟩ := put z2
    exact ⟨g', by rw [if_neg (show ¬ (Int32.ofNat 4 = (1 : Int32)) from d 4 1 (by omega) (by omega) (by omega)), if_neg (show ¬ (Int32.ofNat 4 = (2 : Int32)) from d 4 2 (by omega) (by omega) (by omega)), if_neg (show ¬ (Int32.ofNat 4 = (3 : Int32)) from d 4 3 (by omega) (by omega) (by omega)), if_pos (show Int32.ofNat 4 = (4 : Int32) from rfl), z1, kb_s, q1, kb_s], q2, by rw [rj4]; exact q3⟩
  · by_cases w : y ≤ x
    · obtain ⟨g', q1, q2, q3⟩ := put h2
      refine ⟨g', ?_, q2, by rw [rj5, if_neg (by omega)]; exact q3⟩
      rw [if_neg (show ¬ (Int32.ofNat 5 = (1 : Int32)) from d 5 1 (by omega) (by omega) (by omega)), if_neg (show ¬ (Int32.ofNat 5 = (2 : Int32)) from d 5 2 (by omega) (by omega) (by omega)), if_neg (show ¬ (Int32.ofNat 5 = (3 : Int32)) from d 5 3 (by omega) (by omega) (by omega)), if_neg (show ¬ (Int32.ofNat 5 = (4 : Int32)) from d 5 4 (by omega) (by omega) (by omega)), if_pos (show Int32.ofNat 5 = (5 : Int32) from rfl), if_pos ((lgi_ge h3 h2).mpr w)]
      unfold f_X12_qJoins_b161
      rw [if_pos kk173, q1, kb_s]
    · obtain ⟨g', q1, q2, q3⟩ := put h3
      refine ⟨g', ?_, q2, by rw [rj5, if_pos (by omega)]; exact q3⟩
      rw [if_neg (show ¬ (Int32.ofNat 5 = (1 : Int32)) from d 5 1 (by omega) (by omega) (by omega)), if_neg (show ¬ (Int32.ofNat 5 = (2 : Int32)) from d 5 2 (by omega) (by omega) (by omega)), if_neg (show ¬ (Int32.ofNat 5 = (3 : Int32)) from d 5 3 (by omega) (by omega) (by omega)), if_neg (show ¬ (Int32.ofNat 5 = (4 : Int32)) from d 5 4 (by omega) (by omega) (by omega)), if_pos (show Int32.ofNat 5 = (5 : Int32) from rfl), if_neg (fun u => w ((lgi_ge h3 h2).mp u))]
      unfold f_X12_qJoins_b161
      rw [if_pos kk173, q1, kb_s]
  · by_cases w : x ≤ y
    · obtain ⟨g', q1, q2, q3⟩ := put h2
      refine ⟨g', ?_, q2, by rw [rj6, if_neg (by omega)]; exact q3⟩
      rw [if_neg (show ¬ (Int32.ofNat 6 = (1 : Int32)) from d 6 1 (by omega) (by omega) (by omega)), if_neg (show ¬ (Int32.ofNat 6 = (2 : Int32)) from d 6 2 (by omega) (by omega) (by omega)), if_neg (show ¬ (Int32.ofNat 6 = (3 : Int32)) from d 6 3 (by omega) (by omega) (by omega)), if_neg (show ¬ (Int32.ofNat 6 = (4 : Int32)) from d 6 4 (by omega) (by omega) (by omega)), if_neg (show ¬ (Int32.ofNat 6 = (5 : Int32)) from d 6 5 (by omega) (by omega) (by omega)), if_pos (show Int32.ofNat 6 = (6 : Int32) from rfl), if_pos ((lgi_le h3 h2).mpr w)]
      unfold f_X12_qJoins_b181
      rw [if_pos kk173, q1, kb_s]
    · obtain ⟨g', q1, q2, q3⟩ := put h3
      refine ⟨g', ?_, q2, by rw [rj6, if_pos (by omega)]; exact q3⟩
      rw [if_neg (show ¬ (Int32.ofNat 6 = (1 : Int32)) from d 6 1 (by omega) (by omega) (by omega)), if_neg (show ¬ (Int32.ofNat 6 = (2 : Int32)) from d 6 2 (by omega) (by omega) (by omega)), if_neg (show ¬ (Int32.ofNat 6 = (3 : Int32)) from d 6 3 (by omega) (by omega) (by omega)), if_neg (show ¬ (Int32.ofNat 6 = (4 : Int32)) from d 6 4 (by omega) (by omega) (by omega)), if_neg (show ¬ (Int32.ofNat 6 = (5 : Int32)) from d 6 5 (by omega) (by omega) (by omega)), if_pos (show Int32.ofNat 6 = (6 : Int32) from rfl), if_neg (fun u => w ((lgi_le h3 h2).mp u))]
      unfold f_X12_qJoins_b181
      rw [if_pos kk173, q1, kb_s]
  · by_cases w : y ≤ x
    · obtain ⟨g', q1, q2, q3⟩ := put z0
      refine ⟨g', ?_, q2, by rw [rj7, if_neg (by omega)]; exact q3⟩
      rw [if_neg (show ¬ (Int32.ofNat 7 = (1 : Int32)) from d 7 1 (by omega) (by omega) (by omega)), if_neg (show ¬ (Int32.ofNat 7 = (2 : Int32)) from d 7 2 (by omega) (by omega) (by omega)), if_neg (show ¬ (Int32.ofNat 7 = (3 : Int32)) from d 7 3 (by omega) (by omega) (by omega)), if_neg (show ¬ (Int32.ofNat 7 = (4 : Int32)) from d 7 4 (by omega) (by omega) (by omega)), if_neg (show ¬ (Int32.ofNat 7 = (5 : Int32)) from d 7 5 (by omega) (by omega) (by omega)), if_neg (show ¬ (Int32.ofNat 7 = (6 : Int32)) from d 7 6 (by omega) (by omega) (by omega)), if_pos (show Int32.ofNat 7 = (7 : Int32) from rfl), if_pos ((lgi_ge h3 h2).mpr w)]
      unfold f_X12_qJoins_b200
      rw [if_pos kk173, q1, kb_s]
    · obtain ⟨g', q1, q2, q3⟩ := put z1
      refine ⟨g', ?_, q2, by rw [rj7, if_pos (by omega)]; exact q3⟩
      rw [if_neg (show ¬ (Int32.ofNat 7 = (1 : Int32)) from d 7 1 (by omega) (by omega) (by omega)), if_neg (show ¬ (Int32.ofNat 7 = (2 : Int32)) from d 7 2 (by omega) (by omega) (by omega)), if_neg (show ¬ (Int32.ofNat 7 = (3 : Int32)) from d 7 3 (by omega) (by omega) (by omega)), if_neg (show ¬ (Int32.ofNat 7 = (4 : Int32)) from d 7 4 (by omega) (by omega) (by omega)), if_neg (show ¬ (Int32.ofNat 7 = (5 : Int32)) from d 7 5 (by omega) (by omega) (by omega)), if_neg (show ¬ (Int32.ofNat 7 = (6 : Int32)) from d 7 6 (by omega) (by omega) (by omega)), if_pos (show Int32.ofNat 7 = (7 : Int32) from rfl), if_neg (fun u => w ((lgi_ge h3 h2).mp u))]
      unfold f_X12_qJoins_b200
      rw [if_pos kk173, q1, kb_s]
  · by_cases w : x ≤ y
    · obtain ⟨g', q1, q2, q3⟩ := put z0
      refine ⟨g', ?_, q2, by rw [rj8, if_neg (by omega)]; exact q3⟩
      rw [if_neg (show ¬ (Int32.ofNat 8 = (1 : Int32)) from d 8 1 (by omega) (by omega) (by omega)), if_neg (show ¬ (Int32.ofNat 8 = (2 : Int32)) from d 8 2 (by omega) (by omega) (by omega)), if_neg (show ¬ (Int32.ofNat 8 = (3 : Int32)) from d 8 3 (by omega) (by omega) (by omega)), if_neg (show ¬ (Int32.ofNat 8 = (4 : Int32)) from d 8 4 (by omega) (by omega) (by omega)), if_neg (show ¬ (Int32.ofNat 8 = (5 : Int32)) from d 8 5 (by omega) (by omega) (by omega)), if_neg (show ¬ (Int32.ofNat 8 = (6 : Int32)) from d 8 6 (by omega) (by omega) (by omega)), if_neg (show ¬ (Int32.ofNat 8 = (7 : Int32)) from d 8 7 (by omega) (by omega) (by omega)), if_pos (show Int32.ofNat 8 = (8 : Int32) from rfl), if_pos ((lgi_le h3 h2).mpr w)]
      unfold f_X12_qJoins_b219
      rw [if_pos kk173, q1, kb_s]
    · obtain ⟨g', q1, q2, q3⟩ := put z1
      refine ⟨g', ?_, q2, by rw [rj8, if_pos (by omega)]; exact q3⟩
      rw [if_neg (show ¬ (Int32.ofNat 8 = (1 : Int32)) from d 8 1 (by omega) (by omega) (by omega)), if_neg (show ¬ (Int32.ofNat 8 = (2 : Int32)) from d 8 2 (by omega) (by omega) (by omega)), if_neg (show ¬ (Int32.ofNat 8 = (3 : Int32)) from d 8 3 (by omega) (by omega) (by omega)), if_neg (show ¬ (Int32.ofNat 8 = (4 : Int32)) from d 8 4 (by omega) (by omega) (by omega)), if_neg (show ¬ (Int32.ofNat 8 = (5 : Int32)) from d 8 5 (by omega) (by omega) (by omega)), if_neg (show ¬ (Int32.ofNat 8 = (6 : Int32)) from d 8 6 (by omega) (by omega) (by omega)), if_neg (show ¬ (Int32.ofNat 8 = (7 : Int32)) from d 8 7 (by omega) (by omega) (by omega)), if_pos (show Int32.ofNat 8 = (8 : Int32) from rfl), if_neg (fun u => w ((lgi_le h3 h2).mp u))]
      unfold f_X12_qJoins_b219
      rw [if_pos kk173, q1, kb_s]
  · by_cases w : x = y
    · obtain ⟨g', q1, q2, q3⟩ := put z1
      refine ⟨g', ?_, q2, by rw [rj9, if_pos w]; exact q3⟩
      rw [if_neg (show ¬ (Int32.ofNat 9 = (1 : Int32)) from d 9 1 (by omega) (by omega) (by omega)), if_neg (show ¬ (Int32.ofNat 9 = (2 : Int32)) from d 9 2 (by omega) (by omega) (by omega)), if_neg (show ¬ (Int32.ofNat 9 = (3 : Int32)) from d 9 3 (by omega) (by omega) (by omega)), if_neg (show ¬ (Int32.ofNat 9 = (4 : Int32)) from d 9 4 (by omega) (by omega) (by omega)), if_neg (show ¬ (Int32.ofNat 9 = (5 : Int32)) from d 9 5 (by omega) (by omega) (by omega)), if_neg (show ¬ (Int32.ofNat 9 = (6 : Int32)) from d 9 6 (by omega) (by omega) (by omega)), if_neg (show ¬ (Int32.ofNat 9 = (7 : Int32)) from d 9 7 (by omega) (by omega) (by omega)), if_neg (show ¬ (Int32.ofNat 9 = (8 : Int32)) from d 9 8 (by omega) (by omega) (by omega)), if_pos (show Int32.ofNat 9 = (9 : Int32) from rfl), if_pos ((lgi_eq h3 h2).mpr w)]
      unfold f_X12_qJoins_b238
      rw [if_pos kk173, q1, kb_s]
    · obtain ⟨g', q1, q2, q3⟩ := put z0
      refine ⟨g', ?_, q2, by rw [rj9, if_neg w]; exact q3⟩
      rw [if_neg (show ¬ (Int32.ofNat 9 = (1 : Int32)) from d 9 1 (by omega) (by omega) (by omega)), if_neg (show ¬ (Int32.ofNat 9 = (2 : Int32)) from d 9 2 (by omega) (by omega) (by omega)), if_neg (show ¬ (Int32.ofNat 9 = (3 : Int32)) from d 9 3 (by omega) (by omega) (by omega)), if_neg (show ¬ (Int32.ofNat 9 = (4 : Int32)) from d 9 4 (by omega) (by omega) (by omega)), if_neg (show ¬ (Int32.ofNat 9 = (5 : Int32)) from d 9 5 (by omega) (by omega) (by omega)), if_neg (show ¬ (Int32.ofNat 9 = (6 : Int32)) from d 9 6 (by omega) (by omega) (by omega)), if_neg (show ¬ (Int32.ofNat 9 = (7 : Int32)) from d 9 7 (by omega) (by omega) (by omega)), if_neg (show ¬ (Int32.ofNat 9 = (8 : Int32)) from d 9 8 (by omega) (by omega) (by omega)), if_pos (show Int32.ofNat 9 = (9 : Int32) from rfl), if_neg (fun u => w ((lgi_eq h3 h2).mp u))]
      unfold f_X12_qJoins_b238
      rw [if_pos kk173, q1, kb_s]
  · skip
    obtain ⟨-, hx, hy⟩ : 10 ≤ 10 ∧ (x = 0 ∨ x = 1) ∧ (y = 0 ∨ y = 1) := by
      rcases hv with hv | hv
      · omega
      · exact hv
    have hm : (a * b).toInt = x * y := by
      have m := mul_b (x := x) (y := y) (by omega) (by omega)
      rw [Int64.toInt_mul, h3, h2, Int.bmod_eq_of_le (by omega) (by omega)]
    obtain ⟨g', q1, q2, q3⟩ := put hm
    exact ⟨g', by rw [if_neg (show ¬ (Int32.ofNat 10 = (1 : Int32)) from d 10 1 (by omega) (by omega) (by omega)), if_neg (show ¬ (Int32.ofNat 10 = (2 : Int32)) from d 10 2 (by omega) (by omega) (by omega)), if_neg (show ¬ (Int32.ofNat 10 = (3 : Int32)) from d 10 3 (by omega) (by omega) (by omega)), if_neg (show ¬ (Int32.ofNat 10 = (4 : Int32)) from d 10 4 (by omega) (by omega) (by omega)), if_neg (show ¬ (Int32.ofNat 10 = (5 : Int32)) from d 10 5 (by omega) (by omega) (by omega)), if_neg (show ¬ (Int32.ofNat 10 = (6 : Int32)) from d 10 6 (by omega) (by omega) (by omega)), if_neg (show ¬ (Int32.ofNat 10 = (7 : Int32)) from d 10 7 (by omega) (by omega) (by omega)), if_neg (show ¬ (Int32.ofNat 10 = (8 : Int32)) from d 10 8 (by omega) (by omega) (by omega)), if_neg (show ¬ (Int32.ofNat 10 = (9 : Int32)) from d 10 9 (by omega) (by omega) (by omega)), if_pos (show Int32.ofNat 10 = (10 : Int32) from rfl), q1, kb_s], q2, by rw [rj10]; exact q3⟩
  · skip
    obtain ⟨-, hx, hy⟩ : 10 ≤ 11 ∧ (x = 0 ∨ x = 1) ∧ (y = 0 ∨ y = 1) := by
      rcases hv with hv | hv
      · omega
      · exact hv
    have hm : (a + b).toInt = x + y := by rw [Int64.toInt_add, h3, h2, Int.bmod_eq_of_le (by omega) (by omega)]
    by_cases w : x + y ≤ 0
    · obtain ⟨g', q1, q2, q3⟩ := put z0
      refine ⟨g', ?_, q2, by rw [rj11, if_neg (by omega)]; exact q3⟩
      rw [if_neg (show ¬ (Int32.ofNat 11 = (1 : Int32)) from d 11 1 (by omega) (by omega) (by omega)), if_neg (show ¬ (Int32.ofNat 11 = (2 : Int32)) from d 11 2 (by omega) (by omega) (by omega)), if_neg (show ¬ (Int32.ofNat 11 = (3 : Int32)) from d 11 3 (by omega) (by omega) (by omega)), if_neg (show ¬ (Int32.ofNat 11 = (4 : Int32)) from d 11 4 (by omega) (by omega) (by omega)), if_neg (show ¬ (Int32.ofNat 11 = (5 : Int32)) from d 11 5 (by omega) (by omega) (by omega)), if_neg (show ¬ (Int32.ofNat 11 = (6 : Int32)) from d 11 6 (by omega) (by omega) (by omega)), if_neg (show ¬ (Int32.ofNat 11 = (7 : Int32)) from d 11 7 (by omega) (by omega) (by omega)), if_neg (show ¬ (Int32.ofNat 11 = (8 : Int32)) from d 11 8 (by omega) (by omega) (by omega)), if_neg (show ¬ (Int32.ofNat 11 = (9 : Int32)) from d 11 9 (by omega) (by omega) (by omega)), if_neg (show ¬ (Int32.ofNat 11 = (10 : Int32)) from d 11 10 (by omega) (by omega) (by omega)), if_pos ((lgi_le hm z0).mpr w)]
      unfold f_X12_qJoins_b270
      rw [if_pos kk173, q1, kb_s]
    · obtain ⟨g', q1, q2, q3⟩ := put z1
      refine ⟨g', ?_, q2, by rw [rj11, if_pos (by omega)]; exact q3⟩
      rw [if_neg (show ¬ (Int32.ofNat 11 = (1 : Int32)) from d 11 1 (by omega) (by omega) (by omega)), if_neg (show ¬ (Int32.ofNat 11 = (2 : Int32)) from d 11 2 (by omega) (by omega) (by omega)), if_neg (show ¬ (Int32.ofNat 11 = (3 : Int32)) from d 11 3 (by omega) (by omega) (by omega)), if_neg (show ¬ (Int32.ofNat 11 = (4 : Int32)) from d 11 4 (by omega) (by omega) (by omega)), if_neg (show ¬ (Int32.ofNat 11 = (5 : Int32)) from d 11 5 (by omega) (by omega) (by omega)), if_neg (show ¬ (Int32.ofNat 11 = (6 : Int32)) from d 11 6 (by omega) (by omega) (by omega)), if_neg (show ¬ (Int32.ofNat 11 = (7 : Int32)) from d 11 7 (by omega) (by omega) (by omega)), if_neg (show ¬ (Int32.ofNat 11 = (8 : Int32)) from d 11 8 (by omega) (by omega) (by omega)), if_neg (show ¬ (Int32.ofNat 11 = (9 : Int32)) from d 11 9 (by omega) (by omega) (by omega)), if_neg (show ¬ (Int32.ofNat 11 = (10 : Int32)) from d 11 10 (by omega) (by omega) (by omega)), if_neg (fun u => w ((lgi_le hm z0).mp u))]
      unfold f_X12_qJoins_b270
      rw [if_pos kk173, q1, kb_s]
