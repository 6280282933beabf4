theorem x_failing {g : KH} (rg : kRefs g) {W P : Nat → Nat} (pl : ∀ w, P w < 4096) (ws : Wst g W P 72) {t : Nat} (ht : t < 6) : ∃ r, f_X10_failingWorld g 162 (Int32.ofNat t) = some r ∧ FW W (kX P (2 ^ t)) r := by
  obtain ⟨l, hl⟩ : ∃ l, lv W 72 = l := ⟨_, rfl⟩
  obtain ⟨K, hK⟩ : ∃ K, K = kX P (2 ^ t) := ⟨_, rfl⟩
  have ll := lv_len W 72
  rw [hl] at ll
  have tp : 2 ^ t ≤ 2 ^ 5 := Nat.pow_le_pow_right (by omega) (by omega)
  have g3 : kI g 162 3 = Int32.ofNat l.length := by rw [ws.1, hl]
  have gi : ∀ i, i < l.length → kI g 165 i = Int32.ofNat (l.getD i 0) ∧ l.getD i 0 < 72 ∧ W (l.getD i 0) ≠ 0 ∧ kI g 164 (l.getD i 0) = Int32.ofNat (P (l.getD i 0)) := fun i hi => by
    have mem := getD_mem hi
    rw [← hl] at mem
    obtain ⟨b1, b2⟩ := lv_mem mem
    have a := ws.2.2.2.1 _ mem
    have b := ws.2.2.1 i (by rw [hl]; exact hi)
    rw [hl] at a b b1 b2
    exact ⟨b, b1, b2, a⟩
  have inc : ∀ i j, j < l.length → i < j → l.getD i 0 < l.getD j 0 := fun i j hj h => by
    rw [← hl] at hj ⊢
    exact lv_inc hj h
  have ix : ∀ w, w < 72 → W w ≠ 0 → ∃ k, k < l.length ∧ l.getD k 0 = w := fun w hw z => by
    rw [← hl]
    exact lv_ix hw z
  have inner : ∀ i, i < l.length → l.getD i 0 < 36 → ∃ r, kloop (f_X10_failingWorld_l40 g 162 (Int32.ofNat (2 ^ t * 65)) (Int32.ofNat i)) KF (Int32.ofNat (l.length - 1)) = some r ∧ ((r = .inl () ∧ ¬ alk W K (l.getD i 0)) ∨ (r = .inr (.inr (.inr (Int32.ofNat (l.getD i 0)))) ∧ alk W K (l.getD i 0))) := fun i hi hw => by
    refine kloop_down (fun j => Int32.ofNat j) (fun j => ∀ k, j < k → k < l.length → K (l.getD k 0) ≠ K (l.getD i 0)) _ (by omega) (fun k h1 h2 => by omega) (fun j hj J => ?_)
    have no : (j ≤ i ∨ l.getD j 0 < 36) → ¬ alk W K (l.getD i 0) := fun z => by
      rintro ⟨v, v1, v2, v3, v4⟩
      obtain ⟨k, k1, k2⟩ := ix v v2 v3
      by_cases y : j < k
      · exact J k y k1 (by rw [k2]; exact v4)
      · rcases z with z | z
        · rcases Nat.lt_or_ge k i with q | q
          · have := inc k i hi q
            omega
          · have : k = i := by omega
            rw [this] at k2
            omega
        · rcases Nat.lt_or_ge k j with q | q
          · have := inc k j (by omega) q
            omega
          · have : k = j := by omega
            rw [this] at k2
            omega
    unfold f_X10_failingWorld_l40
    obtain ⟨i1, i2, i3, i4⟩ := gi i hi
    obtain ⟨j1, j2, j3, j4⟩ := gi j (by omega)
    by_cases a : j ≤ i
    · refine Or.inl ⟨.inl (), ?_, Or.inl ⟨rfl, no (Or.inl a)⟩⟩
      rw [if_pos (by rw [n32_le (by omega) (by omega)]; exact a)]
    · rw [if_neg (by rw [n32_le (by omega) (by omega)]; exact a), if_pos kk162, rf162_2 rg, if_pos (show 165 < 999999 by omega), if_pos kk165, kn165, if_neg (by rw [n32_cl (by omega)]; exact fun z => z.elim (n32_nn (by omega)) (by omega)), n32_cl (show j < 2147483648 by omega), j1]
      by_cases b : l.getD j 0 < 36
      · refine Or.inl ⟨.inl (), ?_, Or.inl ⟨rfl, no (Or.inr b)⟩⟩
        rw [if_pos (by rw [n32_ltl (by omega) (by omega)]; exact b)]
      · have pi := pl (l.getD i 0)
        have pj := pl (l.getD j 0)
        rw [if_neg (by rw [n32_ltl (by omega) (by omega)]; exact b), rf162_1 rg, if_pos (show 164 < 999999 by omega), if_neg (by rw [n32_cl (by omega)]; exact fun z => z.elim (n32_nn (by omega)) (by omega)), n32_cl (show i < 2147483648 by omega), if_pos kk164, kn164, i1, if_neg (by rw [n32_cl (by omega)]; exact fun z => z.elim (n32_nn (by omega)) (by omega)), n32_cl (show l.getD i 0 < 2147483648 by omega), if_neg (by rw [n32_cl (by omega)]; exact fun z => z.elim (n32_nn (by omega)) (by omega)), n32_cl (show l.getD j 0 < 2147483648 by omega), i4, j4, n32_xor, n32_and]
        have xl : (P (l.getD i 0) ^^^ P (l.getD j 0)) &&& (2 ^ t * 65) ≤ 2 ^ t * 65 := Nat.and_le_right
        have e : (P (l.getD i 0) ^^^ P (l.getD j 0)) &&& (2 ^ t * 65) = 0 ↔ K (l.getD i 0) = K (l.getD j 0) := by rw [hK]; exact xor_land
        by_cases d : K (l.getD i 0) = K (l.getD j 0)
        · refine Or.inl ⟨_, ?_, Or.inr ⟨rfl, l.getD j 0, by omega, j2, j3, d.symm⟩⟩
          rw [if_pos (by rw [e.mpr d]; rfl)]
          rfl
        · refine Or.inr ⟨by omega, ?_, fun k h1 h2 => ?_⟩
          · rw [if_neg (by rw [n32_ne0 (by omega)]; exact fun z => d (e.mp z))]
            obtain ⟨m, rfl⟩ : ∃ m, j = m + 1 := ⟨j - 1, by omega⟩
            rw [n32_dec, kl_e]
            rfl
          · by_cases y : j < k
            · exact J k y h2
            · have : k = j := by omega
              rw [this]
              exact fun z => d z.symm
  obtain ⟨r, e, q⟩ := kloop_up (body := f_X10_failingWorld_l13 g 162 (Int32.ofNat (2 ^ t * 65))) (fun i => Int32.ofNat i) (fun i => ∀ k, k < i → ¬ alk W K (l.getD k 0)) (fun r => (r = .inl () ∧ ∀ w, w < 36 → W w ≠ 0 → ¬ alk W K w) ∨ ∃ w, w < 36 ∧ r = .inr (Int32.ofNat w) ∧ W w ≠ 0 ∧ alk W K w ∧ ∀ u, u < w → W u ≠ 0 → ¬ alk W K u) (a := 0) (N := l.length) (by omega) (by omega) (fun k hk => absurd hk (Nat.not_lt_zero _)) (fun i _ hi J => by
      obtain ⟨i1, i2, i3, i4⟩ := gi i hi
      have before : ∀ u, W u ≠ 0 → u < 72 → u < l.getD i 0 → ¬ alk W K u := fun u h1 h2 h3 => by
        obtain ⟨k, k1, k2⟩ := ix u h2 h1
        rw [← k2]
        refine J k ?_
        refine Classical.byContradiction fun z => ?_
        rcases Nat.lt_or_ge i k with y | y
        · have := inc i k k1 y
          omega
        · have : k = i := by omega
          rw [this] at k2
          omega
      unfold f_X10_failingWorld_l13 f_X10_failingWorld_b100
      rw [if_pos kk162, g3, if_neg (by rw [n32_le (by omega) (by omega)]; omega), rf162_2 rg, if_pos (show 165 < 999999 by omega), if_pos kk165, kn165, if_neg (by rw [n32_cl (by omega)]; exact fun z => z.elim (n32_nn (by omega)) (by omega)), n32_cl (show i < 2147483648 by omega), i1]
      by_cases a : 36 ≤ l.getD i 0
      · refine Or.inl ⟨.inl (), ?_, Or.inl ⟨rfl, fun w h1 h2 => before w h2 (by omega) (by omega)⟩⟩
        rw [if_pos (by rw [n32_ler (by omega) (by omega)]; exact a)]
      · obtain ⟨r, e, q⟩ := inner i hi (by omega)
        rw [if_neg (by rw [n32_ler (by omega) (by omega)]; exact a), n32_subl (by omega), kl_e, e, kb_s]
        rcases q with ⟨q1, q2⟩ | ⟨q1, q2⟩
        · refine Or.inr ⟨?_, fun k hk => ?_⟩
          · rw [q1, ksum_l, kl_e, n32_addl]
          · by_cases y : k < i
            · exact J k y
            · have : k = i := by omega
              rw [this]
              exact q2
        · refine Or.inl ⟨_, by rw [q1, ksum_r], Or.inr ⟨l.getD i 0, by omega, rfl, i3, q2, fun u h1 h2 => before u h2 (by omega) h1⟩⟩) (fun J => by
      refine ⟨.inl (), ?_, Or.inl ⟨rfl, fun w h1 h2 => ?_⟩⟩
      · unfold f_X10_failingWorld_l13
        rw [if_pos kk162, g3, if_pos (by rw [n32_le (by omega) (by omega)]; omega)]
      · obtain ⟨k, k1, k2⟩ := ix w (by omega) h2
        rw [← k2]
        exact J k k1)
  unfold f_X10_failingWorld
  rw [n32_one65 t ht, kl_e, show (0 : Int32) = Int32.ofNat 0 from rfl, e, kb_s, ← hK]
  rcases q with ⟨q1, q2⟩ | ⟨w, q1, q2, q3⟩
  · exact ⟨-1, by rw [q1, ksum_l], Or.inl ⟨rfl, q2⟩⟩
  · exact ⟨Int32.ofNat w, by rw [q2, ksum_r], Or.inr ⟨w, q1, rfl, q3⟩⟩
