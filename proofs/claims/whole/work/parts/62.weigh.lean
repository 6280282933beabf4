/-! yields; the weights: answers of all KINDS, factors -/
theorem Wyb.sc {c : Nat} (hc : ctc c) {l i : Nat} (z : Wyb c l ∨ l = c + 25) : Wscr l i := by
  unfold Wyb at z
  unfold Wscr
  rcases hc with rfl | rfl <;> omega
theorem Wy.sc {l i : Nat} (z : Wy l i) : Wscr l i := by
  unfold Wy at z
  unfold Wscr
  omega
theorem Wct.sc {c : Nat} (hc : ctc c) {l i : Nat} (z : Wct c l i) : ¬ Wscr l i := by
  unfold Wct at z
  unfold Wscr
  rcases hc with rfl | rfl <;> omega
theorem RC.sc {h h' : KH} {c : Nat} (rc : RC h c) (x : kfp Wscr h h') : RC h' c := rc.fp x fun _ _ z => Wct.sc rc.2.1 z
theorem Rrule.sc {h h' : KH} {c : Nat} (hc : ctc c) (rr : Rrule h c) (x : kfp Wscr h h') : Rrule h' c := rr.fp x fun l i z => by
  unfold Wscr
  rcases hc with rfl | rfl <;> omega
theorem ybN_sc {h h' : KH} (x : kfp Wscr h h') : ybN h' = ybN h := ybN_eq fun l i z => x.2.2.1 l i (by unfold Wlw at z; unfold Wscr; omega)
theorem bitsN_sc {h h' : KH} (x : kfp Wscr h h') : bitsN h' = bitsN h := bitsN_eq (fun l i z => x.2.2.1 l i (by unfold Wlw at z; unfold Wscr; omega)) (x.2.2.1 _ _ (by unfold Wscr; omega))
theorem Ryt.fp {W : Nat → Nat → Prop} {h h' : KH} {c : Nat} (ry : Ryt h c) (x : kfp W h h') (hd : ∀ l i, l = c + 25 ∨ Wlw l ∨ l = 198 → ¬ W l i) : Ryt h' c := by
  have eB : bitsN h' = bitsN h := bitsN_eq (fun l i z => x.2.2.1 _ _ (hd l i (Or.inr (Or.inl z)))) (x.2.2.1 _ _ (hd _ _ (Or.inr (Or.inr rfl))))
  intro hn t ht y hy
  rw [x.2.2.1 204 1 (hd _ _ (by unfold Wlw; omega))] at hn
  rw [kN_same (x.2.2.1 198 4 (hd _ _ (Or.inr (Or.inr rfl))))] at ht
  rw [eB, x.2.2.1 (c + 25) _ (hd _ _ (Or.inl rfl))]
  exact ry hn t ht y hy
theorem c_yields {h : KH} {c : Nat} (rc : RC h c) (rs : RS h) (rr : Rrule h c) (ry : Ryt h c) (a b d : Int32) : ∃ r h1 h2, f_X11_yields h 0 a b d = some (r, h1) ∧ f_X12_yields h1 173 a b d = some (r, h2) ∧ kfp Wscr h h2 ∧ Ryt h2 c := by
  obtain ⟨hr, hc, h5, hm, -⟩ := id rc
  have c39 := hc.lt
  have n3 := hm.1.1.2
  have n4 := hm.2.1.1.2
  have z0 : (0 : Int64).toInt = 0 := rfl
  have z1 : (1 : Int64).toInt = 1 := rfl
  unfold f_X11_yields
  rw [if_pos kk0]
  rcases n32_arg a (n := kN h 198 3) (by omega) with ⟨k, hk, rfl⟩ | ha
  · rw [x_isKind_y rc hk, kb_s, if_neg (show ¬ ((1 : Int32) = 0) by decide)]
    rcases n32_arg b (n := kN h 198 4) (by omega) with ⟨t, ht, rfl⟩ | hb
    · rw [x_isTest_y rc ht, kb_s, if_neg (show ¬ ((1 : Int32) = 0) by decide), x_isBit, kb_s]
      rcases n32_arg d (n := 2) (by omega) with ⟨tr, htr, rfl⟩ | hd
      · obtain ⟨⟨t1, t2⟩, t3⟩ := rs.t (t := t) (by omega)
        obtain ⟨h1, e1, f1, y1⟩ := x_yieldBits rc rr ry ht t2
        have f1' : kfp Wscr h h1 := f1.wide fun l i z => Wyb.sc hc z
        have rc1 := rc.sc f1'
        have m3 : kN h1 198 3 = kN h 198 3 := kN_same (f1'.2.2.1 _ _ (by unfold Wscr; omega))
        have m4 : kN h1 198 4 = kN h 198 4 := kN_same (f1'.2.2.1 _ _ (by unfold Wscr; omega))
        obtain ⟨h2, e2, f2⟩ := m_yieldsAt rc1 (rr.sc hc f1') (k := k) (t := t) (tr := tr) (x := kN h 207 (2 + 2 * t)) (by omega) (by omega) htr t2
        have bl := bits_lt rc rr ht t2
        have bb := bits_bit rc rr hk ht htr t2
        refine ⟨Int32.ofNat (ybN h k t tr (kN h 207 (2 + 2 * t))), h1, h2, ?_, ?_, f1'.tr (f2.wide fun l i z => Wy.sc z), y1.fp f2 fun l i z w => by unfold Wlw at z; unfold Wy at w; rcases hc with rfl | rfl <;> omega⟩
        · rw [if_pos (rgt htr (by omega)), if_neg (show ¬ ((1 : Int32) = 0) by decide), h5, if_pos (show c < 999999 by omega), rf0_7 hr, if_pos (show 64 < 999999 by omega), if_pos kk64, rf64_3 hr, if_pos (show 65 < 999999 by omega), if_pos kk65, kn65, if_neg (by rw [n32_cl (by omega)]; exact fun z => z.elim (n32_nn (by omega)) (by omega)), n32_cl (by omega), if_pos (ct_kk hc), t3, t1, e1, kb_s]
          dsimp only
          rw [n32_mull, n32_add, n32_bit (by omega) (by omega), show k * 2 + tr = 2 * k + tr by omega, bb]
        · have r1 := hr.fp f1
          unfold f_X12_yields
          rw [if_pos kk173, m_isKind_y rc1 (by omega), kb_s, if_neg (show ¬ ((1 : Int32) = 0) by decide), m_isTest_y rc1 (by omega), kb_s, if_neg (show ¬ ((1 : Int32) = 0) by decide), isIn_y _ z0 z1 (by rw [n32_toInt (by omega)]; omega), kb_s, if_neg (show ¬ ((1 : Int32) = 0) by decide), m_heardOf r1 (by omega), kb_s, f1'.2.2.1 207 _ (by unfold Wscr; omega), t1, e2, kb_s, ybN_sc f1']
      · refine ⟨-1, h, h, by rw [if_neg hd, if_pos rfl], ?_, kfp.rf, ry⟩
        unfold f_X12_yields
        rw [if_pos kk173, m_isKind_y rc hk, kb_s, if_neg (show ¬ ((1 : Int32) = 0) by decide), m_isTest_y rc ht, kb_s, if_neg (show ¬ ((1 : Int32) = 0) by decide), isIn_n _ z0 z1 (by omega), kb_s, if_pos rfl]
    · refine ⟨-1, h, h, by rw [x_isTest_n rc hb, kb_s, if_pos rfl], ?_, kfp.rf, ry⟩
      unfold f_X12_yields
      rw [if_pos kk173, m_isKind_y rc hk, kb_s, if_neg (show ¬ ((1 : Int32) = 0) by decide), m_isTest_n rc hb, kb_s, if_pos rfl]
  · refine ⟨-1, h, h, by rw [x_isKind_n rc ha, kb_s, if_pos rfl], ?_, kfp.rf, ry⟩
    unfold f_X12_yields
    rw [if_pos kk173, m_isKind_n rc ha, kb_s, if_pos rfl]
/-- the bits of the tests at which one of a KIND yields -/
def awN (h : KH) (T : Nat → Nat) (who : Nat) : Nat → Nat
  | 0 => 0
  | n + 1 => awN h T who n + bitsN h n (T n) / 2 ^ who % 2 * 2 ^ n
theorem awN_lt (h : KH) (T : Nat → Nat) (who : Nat) : ∀ n, awN h T who n < 2 ^ n
  | 0 => Nat.one_pos
  | n + 1 => by
    have h1 := awN_lt h T who n
    have p : 2 ^ (n + 1) = 2 ^ n * 2 := Nat.pow_succ ..
    have h3 : bitsN h n (T n) / 2 ^ who % 2 * 2 ^ n ≤ 1 * 2 ^ n := Nat.mul_le_mul_right _ (by omega)
    rw [awN]
    omega
theorem awN_bit (h : KH) (T : Nat → Nat) (who : Nat) : ∀ n j, j < n → awN h T who n / 2 ^ j % 2 = bitsN h j (T j) / 2 ^ who % 2
  | 0, j, hj => absurd hj (Nat.not_lt_zero _)
  | n + 1, j, hj => by
    have h1 := awN_lt h T who n
    rw [awN]
    by_cases e : j = n
    · subst e
      rw [Nat.add_mul_div_right _ _ (Nat.pow_pos (by omega)), Nat.div_eq_of_lt h1, Nat.zero_add]
      omega
    · have ih := awN_bit h T who n j (by omega)
      have p : 2 ^ n = 2 ^ (n - j - 1) * 2 * 2 ^ j := by
        rw [← Nat.pow_succ, ← Nat.pow_add]
        congr 1
        omega
      rw [p, ← Nat.mul_assoc, Nat.add_mul_div_right _ _ (Nat.pow_pos (by omega)), ← Nat.mul_assoc, Nat.add_mul_mod_self_right, ih]
/-- the answers heard in this case fit one of a KIND at a CLAIMANT's place -/
def okH (h : KH) (T A : Nat → Nat) (cl k tr : Nat) : Prop := ∀ t, t < kN h 198 4 → A t = 0 ∨ (A t - 1) / 2 ^ cl % 2 = ybN h k t tr (T t)
def mkN (h : KH) (L : Nat → Nat) (cl tr m : Nat) : Nat := if L (2 * m + cl) = 0 then 1 else if L (2 * m + cl) = 2 then kN h 202 (10 + 2 * m + (1 - tr)) else 10 - kN h 202 (10 + 2 * m + (1 - tr))
def pmN (h : KH) (L : Nat → Nat) (cl tr : Nat) : Nat → Nat
  | 0 => 1
  | m + 1 => pmN h L cl tr m * mkN h L cl tr m
def fqN (h : KH) (k tr : Nat) : Nat := kN h 200 (24 + 4 * k + (3 - tr))
noncomputable def fcN (h : KH) (T A L : Nat → Nat) (cl k tr : Nat) : Nat := @ite _ (okH h T A cl k tr) (Classical.propDecidable _) (fqN h k tr * pmN h L cl tr (kN h 198 5)) 0
theorem mkN_le {h : KH} {c : Nat} (rc : RC h c) (L : Nat → Nat) {cl tr m : Nat} (hm : m < kN h 198 5) (htr : tr < 2) : mkN h L cl tr m ≤ 9 := by
  obtain ⟨a1, a2, -⟩ := rc.2.2.2.2.2.2 m hm (1 - tr) (by omega)
  have := a1.2
  unfold mkN
  by_cases z : L (2 * m + cl) = 0
  · rw [if_pos z]; omega
  · rw [if_neg z]
    by_cases y : L (2 * m + cl) = 2
    · rw [if_pos y]; omega
    · rw [if_neg y]; omega
theorem pmN_le {h : KH} {c : Nat} (rc : RC h c) (L : Nat → Nat) {cl tr : Nat} (htr : tr < 2) : ∀ n, n ≤ kN h 198 5 → pmN h L cl tr n ≤ 9 ^ n
  | 0, _ => Nat.le_refl _
  | n + 1, hn => by
    rw [pmN, Nat.pow_succ]
    exact Nat.mul_le_mul (pmN_le rc L htr n (by omega)) (mkN_le rc L (by omega) htr)
theorem pow9 : ∀ n, n ≤ 5 → 9 ^ n ≤ 59049 := by decide
theorem fq_le {h : KH} {c : Nat} (rc : RC h c) {k tr : Nat} (hk : k < kN h 198 3) (htr : tr < 2) : fqN h k tr ≤ 9 := by
  obtain ⟨a1, -⟩ := rc.2.2.2.2.1 k hk (3 - tr) (by omega)
  have := a1.2
  rw [if_neg (by omega)] at this
  exact this
theorem fcN_le {h : KH} {c : Nat} (rc : RC h c) (T A L : Nat → Nat) {cl k tr : Nat} (hk : k < kN h 198 3) (htr : tr < 2) : fcN h T A L cl k tr ≤ 531441 := by
  unfold fcN
  by_cases z : okH h T A cl k tr
  · rw [if_pos z]
    have h5 := rc.2.2.2.1.2.2.1.1.2
    have h1 := fq_le rc hk htr
    have h2 := Nat.le_trans (pmN_le rc L (cl := cl) htr (kN h 198 5) (Nat.le_refl _)) (pow9 _ h5)
    exact Nat.le_trans (Nat.mul_le_mul h1 h2) (by omega)
  · rw [if_neg z]; omega
/-- the class's answers of all KINDS -/
def Aw (h g : KH) (T : Nat → Nat) (n : Nat) : Prop := ∀ who, who < 12 → kI g 167 who = Int32.ofNat (awN h T who n)
theorem x_weighA {h : KH} {c v : Nat} (rc : RC h c) (rr : Rrule h c) (ry : Ryt h c) (st : St h v) (T : Nat → Nat) (hT : ∀ t, t < 6 → kI h (v + 1) t = Int32.ofNat (T t) ∧ T t ≤ 99) (hv : v + 3 < 162) (hv2 : 64 ≤ v) :
    ∃ g0 g1, f_J7_fill_53178 h 167 (0 : Int32) = some g0 ∧ kloop (f_X10_weigh_l10 162 c v) KF ((0 : Int32), g0) = some g1 ∧ kfp (fun l _ => Wyb c l ∨ l = c + 25 ∨ l = 167) h g1 ∧ Ryt g1 c ∧ Aw h g1 T (kN h 198 4) := by
  obtain ⟨hr, hc, h5, hm, -⟩ := id rc
  have c39 := hc.lt
  have n4 := hm.2.1.1.2
  have ff := kfill_fp h 167 0 12
  have fi : ∀ who, who < 12 → kI (kfill h 167 0 12) 167 who = 0 := fun who hw => by rw [kfill_I, if_pos ⟨rfl, hw⟩]
  obtain ⟨g1, e1, f1, y1, w1⟩ := kloop_inv (body := f_X10_weigh_l10 162 c v) (fun t s => s.1 = Int32.ofNat t ∧ kfp (fun l _ => Wyb c l ∨ l = c + 25 ∨ l = 167) h s.2 ∧ Ryt s.2 c ∧ Aw h s.2 T t) (fun r => kfp (fun l _ => Wyb c l ∨ l = c + 25 ∨ l = 167) h r ∧ Ryt r c ∧ Aw h r T (kN h 198 4)) (kN h 198 4) (s0 := ((0 : Int32), kfill h 167 0 12)) (by omega)
    ⟨rfl, ff.wide fun l i z => Or.inr (Or.inr z.1), ry.fp ff fun l i z w => by unfold Wlw at z; omega, fun who hw => fi who hw⟩ (fun t s ht hP => by
      obtain ⟨s1, g⟩ := s
      obtain ⟨p1, p2, p3, p4⟩ := hP
      dsimp only at p1 p2 p3 p4
      subst p1
      have fs : kfp Wscr h g := p2.wide fun l i z => by
        rcases z with z | z | z
        · exact Wyb.sc hc (Or.inl z)
        · exact Wyb.sc hc (Or.inr z)
        · unfold Wscr; omega
      have rcg := rc.sc fs
      have rg := hr.fp fs
      have stg := st.fp p2
      obtain ⟨T1, T2⟩ := hT t (by omega)
      have m4 : kN g 198 4 = kN h 198 4 := kN_same (fs.2.2.1 _ _ (by unfold Wscr; omega))
      obtain ⟨g2, e2, f2, y2⟩ := x_yieldBits rcg (rr.sc hc fs) p3 (t := t) (x := T t) (by omega) T2
      rw [bitsN_sc fs] at e2
      have bl := bits_lt rc rr ht T2
      have r2 := rg.fp f2
      obtain ⟨g3, e3, f3, w3⟩ := kloop_inv (body := f_X10_weigh_l34 162 c v (Int32.ofNat t) (Int32.ofNat (bitsN h t (T t)))) (fun who s => s.1 = Int32.ofNat who ∧ kfp (fun l _ => l = 167) g2 s.2 ∧ ∀ j, j < 12 → kI s.2 167 j = Int32.ofNat (if j < who then awN h T j (t + 1) else awN h T j t))
        (fun r => kfp (fun l _ => l = 167) g2 r ∧ ∀ j, j < 12 → kI r 167 j = Int32.ofNat (awN h T j (t + 1))) 12 (s0 := ((0 : Int32), g2)) (by omega) ⟨rfl, kfp.rf, fun j hj => by dsimp only; rw [if_neg (by omega), f2.2.2.1 _ _ (by unfold Wyb; omega)]; exact p4 j hj⟩ (fun who s hw hP => by
          obtain ⟨s1, q⟩ := s
          obtain ⟨u1, u2, u3⟩ := hP
          dsimp only at u1 u2 u3
          subst u1
          have rq := r2.fp u2
          have al := awN_lt h T who t
          have p6 := pow6 t (by omega)
          have cur := u3 who hw
          rw [if_neg (by omega)] at cur
          refine ⟨(Int32.ofNat (who + 1), ksI q 167 who (Int32.ofNat (awN h T who (t + 1)))), ?_, rfl, u2.sI _ rfl, fun j hj => ?_⟩
          · unfold f_X10_weigh_l34
            dsimp only
            rw [if_neg (by rw [n32_ler (by omega) (by omega)]; omega), if_pos kk162, rf162_5 rq, if_pos (show 167 < 999999 by omega), if_pos kk167, kn167, if_neg (by rw [n32_cl (by omega)]; exact fun z => z.elim (n32_nn (by omega)) (by omega)), n32_cl (by omega), cur, n32_bit (by omega) (by omega), n32_shl01 _ (by omega) _ (by omega), n32_or, or_pow01 al (by omega), kl_e, kl_e, n32_addl]
            rfl
          · dsimp only
            rw [kI_sI]
            by_cases z : j = who
            · rw [if_pos ⟨rfl, z⟩, if_pos (show j < who + 1 by omega), z]
            · rw [if_neg (fun y => z y.2), u3 j hj]
              by_cases y : j < who
              · rw [if_pos y, if_pos (show j < who + 1 by omega)]
              · rw [if_neg y, if_neg (show ¬ j < who + 1 by omega)]) (fun s hP => by
          obtain ⟨s1, q⟩ := s
          obtain ⟨u1, u2, u3⟩ := hP
          dsimp only at u1 u2 u3
          subst u1
          refine ⟨q, ?_, u2, fun j hj => by rw [u3 j hj, if_pos hj]⟩
          unfold f_X10_weigh_l34
          dsimp only
          rw [if_pos (by decide)])
      refine ⟨(Int32.ofNat (t + 1), g3), ?_, rfl, (p2.tr (f2.wide fun l i z => z.elim Or.inl fun z => Or.inr (Or.inl z))).tr (f3.wide fun l i z => Or.inr (Or.inr z)), y2.fp f3 fun l i z w => by unfold Wlw at z; omega, w3⟩
      have e4 : kI g c 4 = Int32.ofNat (kN h 198 4) := by rw [rcg.2.2.2.1.2.1.2, rcg.2.2.2.1.2.1.1.1, m4]
      unfold f_X10_weigh_l10
      dsimp only
      rw [if_pos (ct_kk hc), e4, if_neg (by rw [n32_le (by omega) (by omega)]; omega), if_pos stg.1.1, stg.1.2.1, if_pos (show v + 1 < 999999 by omega), if_pos stg.2.1.1, stg.2.1.2, if_neg (by rw [n32_cl (by omega)]; exact fun z => z.elim (n32_nn (by omega)) (by omega)), n32_cl (by omega), p2.2.2.1 (v + 1) t (by unfold Wyb; omega), T1, e2, kb_s]
      dsimp only
      rw [e3, kb_s, kl_e, n32_addl]) (fun s hP => by
      obtain ⟨s1, g⟩ := s
      obtain ⟨p1, p2, p3, p4⟩ := hP
      dsimp only at p1 p2 p3 p4
      subst p1
      refine ⟨g, ?_, p2, p3, p4⟩
      have e4 : kI g c 4 = Int32.ofNat (kN h 198 4) := (p2.2.2.1 _ _ (by unfold Wyb; omega)).trans (hm.2.1.2.trans hm.2.1.1.1)
      unfold f_X10_weigh_l10
      dsimp only
      rw [if_pos (ct_kk hc), e4, if_pos (by rw [n32_le (by omega) (by omega)]; omega)])
  exact ⟨kfill h 167 0 12, g1, x_fill kk167 kn167 (by omega) 0, e1, f1, y1, w1⟩
