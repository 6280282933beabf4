/-! a factor, as the class works it out -/
def Wwg (c l i : Nat) : Prop := (l = c + 23 ∨ l = c + 24 ∨ l = c + 25) ∨ (163 ≤ l ∧ l ≤ 167) ∨ (l = 162 ∧ i = 3)
theorem Wwg.sc {c : Nat} (hc : ctc c) {l i : Nat} (z : Wwg c l i) : Wscr l i := by
  unfold Wwg at z
  unfold Wscr
  rcases hc with rfl | rfl <;> omega
/-- a State's cells as numbers -/
def Sv (h : KH) (v : Nat) (T A L : Nat → Nat) : Prop := (∀ t, t < 6 → (kI h (v + 1) t = Int32.ofNat (T t) ∧ T t ≤ 99) ∧ kI h (v + 2) t = Int32.ofNat (A t) ∧ A t ≤ 4) ∧ ∀ i, i < 10 → kI h (v + 3) i = Int32.ofNat (L i) ∧ L i ≤ 2
theorem sub_bit {a cl : Nat} (ha : 1 ≤ a) (ha4 : a ≤ 4) (hcl : cl < 2) : ((Int32.ofNat a - (1 : Int32)) >>> (Int32.ofNat cl &&& 31)) &&& (1 : Int32) = Int32.ofNat ((a - 1) / 2 ^ cl % 2) := by
  rw [n32_subl ha, n32_bit (by omega) (by omega)]
theorem x_factor {h g : KH} {c v : Nat} (rc : RC h c) (rr : Rrule h c) (fg : kfp (Wwg c) h g) (st : St h v) (hv : 64 ≤ v ∧ v + 3 < 162) {T A L : Nat → Nat} (sv : Sv h v T A L) (aw : Aw h g T (kN h 198 4)) {cl k tr : Nat} (hcl : cl < 2) (hk : k < kN h 198 3) (htr : tr < 2) :
    f_X10_factor g 162 c v (Int32.ofNat cl) (Int32.ofNat k) (Int32.ofNat tr) = some (Int64.ofNat (fcN h T A L cl k tr)) := by
  obtain ⟨hr, hc, h5, hm, hkd, htt, hmm⟩ := id rc
  have c39 := hc.lt
  have n3 := hm.1.1.2
  have n4 := hm.2.1.1.2
  have n5 := hm.2.2.1.1.2
  have rg := hr.fp fg
  have stg := st.fp fg
  obtain ⟨k0, k1, k2, l0, l1, l2⟩ := ct_kt hc
  obtain ⟨w0, w1, w2, -⟩ := ct_r rg hc
  have e4 : kI g c 4 = Int32.ofNat (kN h 198 4) := (fg.2.2.1 _ _ (by unfold Wwg; omega)).trans (hm.2.1.2.trans hm.2.1.1.1)
  have e5 : kI g c 5 = Int32.ofNat (kN h 198 5) := (fg.2.2.1 _ _ (by unfold Wwg; omega)).trans (hm.2.2.1.2.trans hm.2.2.1.1.1)
  obtain ⟨own, eo⟩ : ∃ own, own = awN h T (2 * k + tr) (kN h 198 4) := ⟨_, rfl⟩
  have ol : own < 64 := by rw [eo]; exact Nat.lt_of_lt_of_le (awN_lt _ _ _ _) (pow6 _ n4)
  have ob : ∀ t, t < kN h 198 4 → own / 2 ^ t % 2 = ybN h k t tr (T t) := fun t ht => by
    rw [eo, awN_bit h T _ _ t ht, bits_bit rc rr hk ht htr (sv.1 t (by omega)).1.2]
  have loop1 := kloop_all (body := f_X10_factor_l25 g c v (Int32.ofNat cl) (Int32.ofNat k) (Int32.ofNat tr) (Int32.ofNat own)) (fun t => Int32.ofNat t) (kN h 198 4) (fun t => A t = 0 ∨ (A t - 1) / 2 ^ cl % 2 = ybN h k t tr (T t)) (Sum.inl ()) (Sum.inr 0) (by omega)
    (fun t ht ok => by
      obtain ⟨-, a1, a2⟩ := sv.1 t (by omega)
      have yl := ybN_lt rc rr hk ht htr (sv.1 t (by omega)).1.2
      unfold f_X10_factor_l25 f_X10_factor_b68
      rw [if_pos (ct_kk hc), e4, if_neg (by rw [n32_le (by omega) (by omega)]; omega), if_pos stg.1.1, stg.1.2.2.1, if_pos (show v + 2 < 999999 by omega), if_pos stg.2.2.1.1, stg.2.2.1.2, if_neg (by rw [n32_cl (by omega)]; exact fun z => z.elim (n32_nn (by omega)) (by omega)), n32_cl (by omega), fg.2.2.1 (v + 2) t (by unfold Wwg; omega), a1, kl_e, kl_e, n32_addl]
      by_cases z : A t = 0
      · rw [if_pos (by rw [z]; rfl)]
      · rw [if_neg (by rw [n32_ne0 (by omega)]; exact z), sub_bit (by omega) a2 hcl, n32_bit (by omega) (by omega), ob t ht, if_pos]
        rw [n32_eq (by omega) (by omega)]
        exact ok.resolve_left z) (fun t ht ok => by
      obtain ⟨-, a1, a2⟩ := sv.1 t (by omega)
      have yl := ybN_lt rc rr hk ht htr (sv.1 t (by omega)).1.2
      unfold f_X10_factor_l25 f_X10_factor_b68
      rw [if_pos (ct_kk hc), e4, if_neg (by rw [n32_le (by omega) (by omega)]; omega), if_pos stg.1.1, stg.1.2.2.1, if_pos (show v + 2 < 999999 by omega), if_pos stg.2.2.1.1, stg.2.2.1.2, if_neg (by rw [n32_cl (by omega)]; exact fun z => z.elim (n32_nn (by omega)) (by omega)), n32_cl (by omega), fg.2.2.1 (v + 2) t (by unfold Wwg; omega), a1, kl_e, kl_e, n32_addl]
      have z : A t ≠ 0 := fun z => ok (Or.inl z)
      rw [if_neg (by rw [n32_ne0 (by omega)]; exact z), sub_bit (by omega) a2 hcl, n32_bit (by omega) (by omega), ob t ht, if_neg, kout2_s]
      rw [n32_eq (by omega) (by omega)]
      exact fun y => ok (Or.inr y)) (by
    unfold f_X10_factor_l25
    rw [if_pos (ct_kk hc), e4, if_pos (by rw [n32_le (by omega) (by omega)]; omega)])
  have fql := fq_le rc hk htr
  have loop2 := kloop_for (body := f_X10_factor_l98 g c v (Int32.ofNat cl) (Int32.ofNat tr)) (fun m => (Int64.ofNat (fqN h k tr * pmN h L cl tr m), Int32.ofNat m)) (kN h 198 5) (Int64.ofNat (fqN h k tr * pmN h L cl tr (kN h 198 5))) (by omega) (fun m hmk => by
    obtain ⟨s1, s2⟩ := sv.2 (2 * m + cl) (by omega)
    obtain ⟨x1, x2⟩ := ct_mark (k := m) hc (by omega)
    have b137 : ∀ j, j = 1 - tr → f_X10_factor_b137 g c v (Int32.ofNat cl) (Int32.ofNat tr) (Int64.ofNat (fqN h k tr * pmN h L cl tr m)) (Int32.ofNat m) (Int32.ofNat (L (2 * m + cl))) (c + 16 + m) (Int32.ofNat (j + 1)) = some (.inl (Int64.ofNat (fqN h k tr * pmN h L cl tr (m + 1)), Int32.ofNat (m + 1))) := fun j ej => by
      obtain ⟨a1, a2, a3⟩ := hmm m hmk (1 - tr) (by omega)
      have a1l := a1.2
      unfold f_X10_factor_b137 f_X10_factor_b165 f_X10_factor_b168
      simp only [kl_e]
      rw [if_pos x1, x2, if_neg (by rw [n32_cl (by omega)]; exact fun z => z.elim (n32_nn (by omega)) (by omega)), n32_cl (by omega), fg.2.2.1 (c + 16 + m) (j + 1) (by unfold Wwg; omega), ej, a3, a1.1, n32_addl, pmN, ← Nat.mul_assoc]
      unfold mkN
      by_cases z : L (2 * m + cl) = 0
      · rw [if_pos (by rw [z]; rfl), if_pos z, Nat.mul_one]
      · rw [if_neg (by rw [n32_ne0 (by omega)]; exact z), if_neg z]
        by_cases y : L (2 * m + cl) = 2
        · rw [if_pos (by rw [y]; rfl), if_pos y, n32_toI64 (by omega), n64_mul]
        · rw [if_neg (by rw [n32_eql (by omega) (by omega)]; exact y), if_neg y, n32_subr (by omega), n32_toI64 (by omega), n64_mul]
    unfold f_X10_factor_l98
    dsimp only
    rw [if_pos (ct_kk hc), e5, if_neg (by rw [n32_le (by omega) (by omega)]; omega), if_pos stg.1.1, stg.1.2.2.2, if_pos (show v + 3 < 999999 by omega), if_pos stg.2.2.2.1.1, stg.2.2.2.1.2, n32_mulr, n32_add, if_neg (by rw [n32_cl (by omega)]; exact fun z => z.elim (n32_nn (by omega)) (by omega)), n32_cl (by omega), fg.2.2.1 (v + 3) _ (by unfold Wwg; omega), s1, kl_e, w2, if_pos (show c + 15 < 999999 by omega), if_pos k2, l2, if_neg (by rw [n32_cl (by omega)]; exact fun z => z.elim (n32_nn (by omega)) (by omega)), n32_cl (by omega), ct_rm rg hc (by omega), if_pos (show c + 16 + m < 999999 by omega)]
    by_cases z : tr = 0
    · rw [if_pos (by rw [z]; rfl)]
      exact b137 1 (by omega)
    · rw [if_neg (by rw [n32_ne0 (by omega)]; exact z)]
      exact b137 0 (by omega)) (by
    unfold f_X10_factor_l98
    dsimp only
    rw [if_pos (ct_kk hc), e5, if_pos (by rw [n32_le (by omega) (by omega)]; omega)])
  have b91 : ∀ j, j = 3 - tr → f_X10_factor_b91 g c v (Int32.ofNat cl) (Int32.ofNat tr) (c + 2 + k) (Int32.ofNat (j + 1)) = some (Int64.ofNat (fqN h k tr * pmN h L cl tr (kN h 198 5))) := fun j ej => by
    obtain ⟨x1, x2⟩ := ct_kind (k := k) hc (by omega)
    obtain ⟨a1, a2⟩ := hkd k hk (3 - tr) (by omega)
    unfold f_X10_factor_b91
    rw [if_pos x1, x2, if_neg (by rw [n32_cl (by omega)]; exact fun z => z.elim (n32_nn (by omega)) (by omega)), n32_cl (by omega), fg.2.2.1 (c + 2 + k) (j + 1) (by unfold Wwg; omega), ej, a2, a1.1, n32_toI64 (show kN h 200 (24 + 4 * k + (3 - tr)) < 2147483648 by unfold fqN at fql; omega), kl_e]
    have e : Int64.ofNat (kN h 200 (24 + 4 * k + (3 - tr))) = Int64.ofNat (fqN h k tr * pmN h L cl tr 0) := by rw [pmN, Nat.mul_one, fqN]
    rw [e, show (0 : Int32) = Int32.ofNat 0 from rfl, loop2, kb_s]
  have b18 : ∀ w : Int32, w = Int32.ofNat tr → f_X10_factor_b18 g c v (Int32.ofNat cl) (Int32.ofNat k) (Int32.ofNat tr) 167 (Int32.ofNat (2 * k)) w = some (Int64.ofNat (fcN h T A L cl k tr)) := fun w ew => by
    unfold f_X10_factor_b18
    rw [ew, if_pos kk167, kn167, n32_add, if_neg (by rw [n32_cl (by omega)]; exact fun z => z.elim (n32_nn (by omega)) (by omega)), n32_cl (by omega), aw _ (by omega), ← eo, kl_e]
    unfold fcN
    rcases loop1 with ⟨a1, a2⟩ | ⟨a1, a2⟩
    · rw [show (0 : Int32) = Int32.ofNat 0 from rfl, a1, kb_s, ksum_l, if_pos (ct_kk hc), w0, if_pos (show c + 1 < 999999 by omega), if_pos k0, l0, if_neg (by rw [n32_cl (by omega)]; exact fun z => z.elim (n32_nn (by omega)) (by omega)), n32_cl (by omega), ct_rk rg hc (by omega), if_pos (show c + 2 + k < 999999 by omega), if_pos (show okH h T A cl k tr from a2)]
      by_cases z : tr = 0
      · rw [if_pos (by rw [z])]
        exact b91 3 (by omega)
      · rw [if_neg (by rw [show Int32.ofNat 0 = (0 : Int32) from rfl, n32_ne0 (by omega)]; exact z)]
        exact b91 2 (by omega)
    · rw [show (0 : Int32) = Int32.ofNat 0 from rfl, a1, kb_s, ksum_r, if_neg (show ¬ okH h T A cl k tr from a2)]
      rfl
  unfold f_X10_factor
  rw [if_pos kk162, rf162_5 rg, if_pos (show 167 < 999999 by omega), n32_mulr]
  by_cases z : tr = 0
  · rw [if_pos (by rw [z]; rfl)]
    exact b18 0 (by rw [z]; rfl)
  · rw [if_neg (by rw [n32_ne0 (by omega)]; exact z)]
    exact b18 1 (by rw [show tr = 1 by omega]; rfl)
