/-! weight, odds, kinds, would -/
theorem WN_le {h : KH} {c : Nat} (rc : RC h c) (w : Nat) : WN h w ≤ 27960524111619 := wt_le rc _ _ _ w
theorem aT_b {h : KH} {c : Nat} (rc : RC h c) : aT (WN h) 72 < 900000000000000000 := by
  have := aT_le (WN_le rc) 72
  omega
theorem aT_lev (W : Nat → Nat) : ∀ n w, w < n → W w ≤ aT W n
  | 0, w, h => absurd h (Nat.not_lt_zero _)
  | n + 1, w, h => by
    rw [aT]
    by_cases e : w = n
    · rw [e]; omega
    · have := aT_lev W n w (by omega)
      omega
/-- an odd in millionths -/
noncomputable def shN (h : KH) (p : Nat) : Int32 := if aT (WN h) 72 = 0 then -1 else Int32.ofNat (p * 1000000 / aT (WN h) 72)
theorem x_share {h g : KH} {c : Nat} (rc : RC h c) (hr : kRefs g) (ws : Wst g (WN h) (paN h (tmM h)) 72) {p : Nat} (hp : p ≤ aT (WN h) 72) : f_X10_share g 162 (Int64.ofNat p) = some (shN h p) := by
  obtain ⟨-, -, -, -, s0, s1⟩ := ws
  have ab := aT_b rc
  have et : f_X10_total g 162 = some (Int64.ofNat (aT (WN h) 72)) := by
    unfold f_X10_total
    rw [if_pos kk162, rf162_4 hr, if_pos (show 166 < 999999 by omega), if_pos kk166, kn166, if_neg (show ¬ 2 ≤ 0 by omega), if_neg (show ¬ 2 ≤ 1 by omega), s0, s1, n64_add, aT_sT _ 72 (Nat.le_refl _)]
  unfold f_X10_share shN
  rw [if_pos kk162, et, kb_s]
  by_cases z : aT (WN h) 72 = 0
  · rw [z, x_millionths0, kb_s, if_pos rfl]
  · rw [x_millionths g hp ab z, kb_s, if_neg z]
theorem x_total {h g : KH} (hr : kRefs g) (ws : Wst g (WN h) (paN h (tmM h)) 72) : f_X10_total g 162 = some (Int64.ofNat (aT (WN h) 72)) := by
  obtain ⟨-, -, -, -, s0, s1⟩ := ws
  unfold f_X10_total
  rw [if_pos kk162, rf162_4 hr, if_pos (show 166 < 999999 by omega), if_pos kk166, kn166, if_neg (show ¬ 2 ≤ 0 by omega), if_neg (show ¬ 2 ≤ 1 by omega), s0, s1, n64_add, aT_sT _ 72 (Nat.le_refl _)]
theorem m_isAll {g : KH} {a : Nat} (he : kL g 173 56 = Int64.ofNat a) (ha : a < 900000000000000000) : lg_cmp (kL g 173 56) (0 : Int64) = 0 ↔ a = 0 := by
  rw [he]
  exact lgn_eq (b := 0) (by omega) (by omega)
theorem n64_NOTHING : ((-1000000000000000 : Int64)) = -1000000000000000 := rfl
theorem c_weight {h : KH} {c : Nat} (rc : RC h c) (rs : RS h) (rr : Rrule h c) (ry : Ryt h c) (rz : Rzero h) (a b d : Int32) : ∃ r h1 h2, f_X11_weight h 0 a b d = some (r, h1) ∧ f_X12_weight h1 173 a b d = some (r, h2) ∧ Scr h h2 c := by
  obtain ⟨hr, hc, h5, hm, -⟩ := id rc
  have c39 := hc.lt
  have n3 := hm.1.1.2
  have z0 : (0 : Int64).toInt = 0 := rfl
  have z1 : (1 : Int64).toInt = 1 := rfl
  unfold f_X11_weight
  rw [x_isBit, kb_s]
  rcases n32_arg a (n := 2) (by omega) with ⟨tr, htr, rfl⟩ | ha
  · rw [if_pos (rgt htr (by omega)), if_neg (show ¬ ((1 : Int32) = 0) by decide), if_pos kk0]
    rcases n32_arg b (n := kN h 198 3) (by omega) with ⟨z, hz, rfl⟩ | hb
    · rw [x_isKind_y rc hz, kb_s, if_neg (show ¬ ((1 : Int32) = 0) by decide)]
      rcases n32_arg d (n := kN h 198 3) (by omega) with ⟨o, ho, rfl⟩ | hd
      · rw [x_isKind_y rc ho, kb_s, if_neg (show ¬ ((1 : Int32) = 0) by decide), rf0_11 hr, if_pos (show 162 < 999999 by omega), h5, if_pos (show c < 999999 by omega), rf0_7 hr, if_pos (show 64 < 999999 by omega), if_pos kk162]
        obtain ⟨h1, e1, s1, a1, w1⟩ := x_now rc rs rr ry rz
        have r1 := hr.fp s1.1
        obtain ⟨h2, e2, s2, f2, y2, m2⟩ := m_now rc rs rr s1
        have r2 := r1.fp f2
        have rc1 := rc.sc s1.1
        have q3 : kN h1 198 3 = kN h 198 3 := kN_same (s1.1.2.2.1 _ _ (by unfold Wscr; omega))
        refine ⟨Int64.ofNat (WN h ((tr * 6 + z) * 6 + o)), h1, h2, ?_, ?_, s2⟩
        · rw [e1, kb_s, rf0_11 r1, if_pos (show 162 < 999999 by omega), if_pos kk162]
          unfold f_X10_weightOf
          rw [if_pos kk162, rf162_0 r1, if_pos (show 163 < 999999 by omega), if_pos kk163, kn163, n32_mull, n32_add, n32_mull, n32_add, if_neg (by rw [n32_cl (by omega)]; exact fun z => z.elim (n32_nn (by omega)) (by omega)), n32_cl (by omega), kb_s, w1.2.1 _ (by omega), if_pos (by omega)]
        · unfold f_X12_weight
          rw [isIn_y _ z0 z1 (by rw [n32_toInt (by omega)]; omega), kb_s, if_neg (show ¬ ((1 : Int32) = 0) by decide), if_pos kk173, m_isKind_y rc1 (by omega), kb_s, if_neg (show ¬ ((1 : Int32) = 0) by decide), m_isKind_y rc1 (by omega), kb_s, if_neg (show ¬ ((1 : Int32) = 0) by decide), e2, kb_s, rf173_54 r2, if_pos (show 213 < 999999 by omega), if_pos kk213, kn213, n32_mulr, n32_mulr, n32_add, n32_add, if_neg (by rw [n32_cl (by omega)]; exact fun z => z.elim (n32_nn (by omega)) (by omega)), n32_cl (by omega), m2.1 _ (by omega), show 36 * tr + 6 * z + o = (tr * 6 + z) * 6 + o by omega]
      · refine ⟨_, h, h, by rw [x_isKind_n rc hd, kb_s, if_pos rfl], ?_, Scr.rf ry rz⟩
        unfold f_X12_weight
        rw [isIn_y _ z0 z1 (by rw [n32_toInt (by omega)]; omega), kb_s, if_neg (show ¬ ((1 : Int32) = 0) by decide), if_pos kk173, m_isKind_y rc hz, kb_s, if_neg (show ¬ ((1 : Int32) = 0) by decide), m_isKind_n rc hd, kb_s, if_pos rfl]
    · refine ⟨_, h, h, by rw [x_isKind_n rc hb, kb_s, if_pos rfl], ?_, Scr.rf ry rz⟩
      unfold f_X12_weight
      rw [isIn_y _ z0 z1 (by rw [n32_toInt (by omega)]; omega), kb_s, if_neg (show ¬ ((1 : Int32) = 0) by decide), if_pos kk173, m_isKind_n rc hb, kb_s, if_pos rfl]
  · refine ⟨_, h, h, by rw [if_neg ha, if_pos rfl], ?_, Scr.rf ry rz⟩
    unfold f_X12_weight
    rw [isIn_n _ z0 z1 (by omega), kb_s, if_pos rfl]
theorem sT_pS (W : Nat → Nat) (tr : Nat) : ∀ n, sT W tr n = pS W (fun w => decide (w / 36 = tr)) n
  | 0 => rfl
  | n + 1 => by
    rw [sT, pS, sT_pS W tr n]
    by_cases z : n / 36 = tr
    · rw [if_pos z, if_pos (by simpa using z)]
    · rw [if_neg z, if_neg (by simpa using z)]
theorem c_odds {h : KH} {c : Nat} (rc : RC h c) (rs : RS h) (rr : Rrule h c) (ry : Ryt h c) (rz : Rzero h) (a : Int32) : ∃ r h1 h2, f_X11_odds h 0 a = some (r, h1) ∧ f_X12_odds h1 173 a = some (r, h2) ∧ Scr h h2 c := by
  obtain ⟨hr, hc, h5, hm, -⟩ := id rc
  have c39 := hc.lt
  have z0 : (0 : Int64).toInt = 0 := rfl
  have z1 : (1 : Int64).toInt = 1 := rfl
  unfold f_X11_odds
  rw [x_isBit, kb_s]
  rcases n32_arg a (n := 2) (by omega) with ⟨tr, htr, rfl⟩ | ha
  · rw [if_pos (rgt htr (by omega)), if_neg (show ¬ ((1 : Int32) = 0) by decide), if_pos kk0, rf0_11 hr, if_pos (show 162 < 999999 by omega), h5, if_pos (show c < 999999 by omega), rf0_7 hr, if_pos (show 64 < 999999 by omega), if_pos kk162]
    obtain ⟨h1, e1, s1, a1, w1⟩ := x_now rc rs rr ry rz
    have r1 := hr.fp s1.1
    obtain ⟨h2, e2, s2, f2, y2, m2⟩ := m_now rc rs rr s1
    have r2 := r1.fp f2
    have ab := aT_b rc
    have es := sT_pS (WN h) tr 72
    have pl : sT (WN h) tr 72 ≤ aT (WN h) 72 := by rw [es]; exact pS_le _ _ _
    refine ⟨shN h (sT (WN h) tr 72), h1, h2, ?_, ?_, s2⟩
    · rw [e1, kb_s, rf0_11 r1, if_pos (show 162 < 999999 by omega), if_pos kk162]
      have so : f_X10_sumOf h1 162 (Int32.ofNat tr) = some (Int64.ofNat (sT (WN h) tr 72)) := by
        unfold f_X10_sumOf
        rw [if_pos kk162, rf162_4 r1, if_pos (show 166 < 999999 by omega), if_pos kk166, kn166, if_neg (by rw [n32_cl (by omega)]; exact fun z => z.elim (n32_nn (by omega)) (by omega)), n32_cl (by omega)]
        have : tr = 0 ∨ tr = 1 := by omega
        rcases this with rfl | rfl
        · rw [w1.2.2.2.2.1]
        · rw [w1.2.2.2.2.2]
      rw [so, kb_s, x_share rc r1 w1 pl, kb_s]
    · unfold f_X12_odds shN
      rw [isIn_y _ z0 z1 (by rw [n32_toInt (by omega)]; omega), kb_s, if_neg (show ¬ ((1 : Int32) = 0) by decide), if_pos kk173, e2, kb_s]
      by_cases q : aT (WN h) 72 = 0
      · rw [if_pos ((m_isAll m2.2.1 ab).mpr q), if_pos q]
      · have lp := m_sumLoop (W := WN h) (p := fun w => decide (w / 36 = tr)) (body := f_X12_odds_l33 h2 173 (Int32.ofNat tr)) (fun y w hw => by
          unfold f_X12_odds_l33 f_X12_odds_b59
          dsimp only
          rw [if_neg (by rw [n32_ler (by omega) (by omega)]; omega), m_truthOf h2 hw, kb_s]
          by_cases u : w / 36 = tr
          · rw [if_pos (by rw [u]), if_pos kk173, rf173_54 r2, if_pos (show 213 < 999999 by omega), if_pos kk213, kn213, if_neg (by rw [n32_cl (by omega)]; exact fun z => z.elim (n32_nn (by omega)) (by omega)), n32_cl (by omega), m2.1 w hw, n64_add, kl_e, kl_e, n32_addl, if_pos (by simpa using u)]
          · rw [if_neg (by rw [n32_eq (by omega) (by omega)]; exact u), kl_e, n32_addl, if_neg (by simpa using u)]
            rfl) (fun y => by
          unfold f_X12_odds_l33
          dsimp only
          rw [if_pos (by decide)])
        rw [if_neg (fun z => q ((m_isAll m2.2.1 ab).mp z)), lp, kb_s, ← es, m_millionths m2.2.1 pl ab q, kb_s, if_neg q]
  · refine ⟨_, h, h, by rw [if_neg ha, if_pos rfl], ?_, Scr.rf ry rz⟩
    unfold f_X12_odds
    rw [isIn_n _ z0 z1 (by omega), kb_s, if_pos rfl]
/-- of which KIND a CLAIMANT is in a WORLD -/
def kdN (w cl : Nat) : Nat := if cl = 0 then w / 6 % 6 else w % 6
theorem x_kindIn10 (h : KH) {w cl : Nat} (hw : w < 72) (hcl : cl < 2) : f_X10_kindIn h 162 (Int32.ofNat w) (Int32.ofNat cl) = some (Int32.ofNat (kdN w cl)) := by
  unfold f_X10_kindIn kdN
  by_cases y : cl = 0
  · rw [if_pos (by rw [y]; rfl), if_pos y, show (6 : Int32) = Int32.ofNat 6 from rfl, n32_div (by omega) (by omega), n32_rem (by omega) (by omega)]
  · rw [if_neg (by rw [n32_ne0 (by omega)]; exact y), if_neg y, show (6 : Int32) = Int32.ofNat 6 from rfl, n32_rem (by omega) (by omega)]
theorem m_kindInC (h : KH) {w cl : Nat} (hw : w < 72) (hcl : cl < 2) : f_X12_kindIn h (Int32.ofNat w) (Int32.ofNat cl) = some (Int32.ofNat (kdN w cl)) := by
  unfold kdN
  by_cases y : cl = 0
  · rw [if_pos y, y]; exact m_kindIn0 h hw
  · rw [if_neg y]; exact m_kindIn1 h hw (fun q => y ((n32_ne0 (by omega)).mp q))
theorem kdN_lt (w cl : Nat) : kdN w cl < 6 := by
  unfold kdN
  by_cases y : cl = 0
  · rw [if_pos y]; omega
  · rw [if_neg y]; omega
theorem getD_mem {l : List Nat} {i : Nat} (h : i < l.length) : l.getD i 0 ∈ l := by
  have e : l.getD i 0 = l[i] := by
    show (l[i]?).getD 0 = l[i]
    rw [List.getElem?_eq_getElem h]
    rfl
  rw [e]
  exact List.getElem_mem h
theorem c_kinds {h : KH} {c : Nat} (rc : RC h c) (rs : RS h) (rr : Rrule h c) (ry : Ryt h c) (rz : Rzero h) (a b : Int32) : ∃ r h1 h2, f_X11_kinds h 0 a b = some (r, h1) ∧ f_X12_kinds h1 173 a b = some (r, h2) ∧ Scr h h2 c := by
  obtain ⟨hr, hc, h5, hm, -⟩ := id rc
  have c39 := hc.lt
  have n3 := hm.1.1.2
  have z0 : (0 : Int64).toInt = 0 := rfl
  have z1 : (1 : Int64).toInt = 1 := rfl
  unfold f_X11_kinds
  rw [x_isBit, kb_s]
  rcases n32_arg a (n := 2) (by omega) with ⟨cl, hcl, rfl⟩ | ha
  · rw [if_pos (rgt hcl (by omega)), if_neg (show ¬ ((1 : Int32) = 0) by decide), if_pos kk0]
    rcases n32_arg b (n := kN h 198 3) (by omega) with ⟨k, hk, rfl⟩ | hb
    · rw [x_isKind_y rc hk, kb_s, if_neg (show ¬ ((1 : Int32) = 0) by decide), rf0_11 hr, if_pos (show 162 < 999999 by omega), h5, if_pos (show c < 999999 by omega), rf0_7 hr, if_pos (show 64 < 999999 by omega), if_pos kk162]
      obtain ⟨h1, e1, s1, a1, w1⟩ := x_now rc rs rr ry rz
      have r1 := hr.fp s1.1
      obtain ⟨h2, e2, s2, f2, y2, m2⟩ := m_now rc rs rr s1
      have r2 := r1.fp f2
      have rc1 := rc.sc s1.1
      have q3 : kN h1 198 3 = kN h 198 3 := kN_same (s1.1.2.2.1 _ _ (by unfold Wscr; omega))
      have ab := aT_b rc
      have pl := pS_le (WN h) (fun w => decide (kdN w cl = k)) 72
      refine ⟨shN h (pS (WN h) (fun w => decide (kdN w cl = k)) 72), h1, h2, ?_, ?_, s2⟩
      · rw [e1, kb_s, rf0_11 r1, if_pos (show 162 < 999999 by omega), if_pos kk162]
        have so : f_X10_sumOfKind h1 162 (Int32.ofNat cl) (Int32.ofNat k) = some (Int64.ofNat (pS (WN h) (fun w => decide (kdN w cl = k)) 72)) := by
          unfold f_X10_sumOfKind
          have ll := lv_len (WN h) 72
          rw [x_sumLoop (W := WN h) (p := fun w => decide (kdN w cl = k)) (fun y i hi => by
            have mem := getD_mem hi
            obtain ⟨b1, b2⟩ := lv_mem mem
            have wi := w1.2.2.1 i hi
            generalize (lv (WN h) 72).getD i 0 = w at mem b1 b2 wi ⊢
            unfold f_X10_sumOfKind_l5 f_X10_sumOfKind_b45
            dsimp only
            have kl := kdN_lt w cl
            rw [if_pos kk162, w1.1, if_neg (by rw [n32_le (by omega) (by omega)]; omega), rf162_2 r1, if_pos (show 165 < 999999 by omega), if_pos kk165, kn165, if_neg (by rw [n32_cl (by omega)]; exact fun z => z.elim (n32_nn (by omega)) (by omega)), n32_cl (show i < 2147483648 by omega), wi, x_kindIn10 h1 b1 hcl, kb_s]
            by_cases u : kdN w cl = k
            · rw [if_pos (by rw [u]), rf162_0 r1, if_pos (show 163 < 999999 by omega), if_pos kk163, kn163, if_neg (by rw [n32_cl (by omega)]; exact fun z => z.elim (n32_nn (by omega)) (by omega)), n32_cl (show w < 2147483648 by omega), w1.2.1 w b1, if_pos b1, n64_add, kl_e, kl_e, n32_addl, if_pos (by simpa using u)]
            · rw [if_neg (by rw [n32_eq (by omega) (by omega)]; exact u), kl_e, n32_addl, if_neg (by simpa using u)]
              rfl) (fun y => by
            unfold f_X10_sumOfKind_l5
            dsimp only
            rw [if_pos kk162, w1.1, if_pos (by rw [n32_le (by omega) (by omega)]; omega)]), kb_s]
        rw [so, kb_s, x_share rc r1 w1 pl, kb_s]
      · unfold f_X12_kinds shN
        rw [isIn_y _ z0 z1 (by rw [n32_toInt (by omega)]; omega), kb_s, if_neg (show ¬ ((1 : Int32) = 0) by decide), if_pos kk173, m_isKind_y rc1 (by omega), kb_s, if_neg (show ¬ ((1 : Int32) = 0) by decide), e2, kb_s]
        by_cases q : aT (WN h) 72 = 0
        · rw [if_pos ((m_isAll m2.2.1 ab).mpr q), if_pos q]
        · have lp := m_sumLoop (W := WN h) (p := fun w => decide (kdN w cl = k)) (body := f_X12_kinds_l41 h2 173 (Int32.ofNat cl) (Int32.ofNat k)) (fun y w hw => by
            have kl := kdN_lt w cl
            unfold f_X12_kinds_l41 f_X12_kinds_b68
            dsimp only
            rw [if_neg (by rw [n32_ler (by omega) (by omega)]; omega), m_kindInC h2 hw hcl, kb_s]
            by_cases u : kdN w cl = k
            · rw [if_pos (by rw [u]), if_pos kk173, rf173_54 r2, if_pos (show 213 < 999999 by omega), if_pos kk213, kn213, if_neg (by rw [n32_cl (by omega)]; exact fun z => z.elim (n32_nn (by omega)) (by omega)), n32_cl (by omega), m2.1 w hw, n64_add, kl_e, kl_e, n32_addl, if_pos (by simpa using u)]
            · rw [if_neg (by rw [n32_eq (by omega) (by omega)]; exact u), kl_e, n32_addl, if_neg (by simpa using u)]
              rfl) (fun y => by
            unfold f_X12_kinds_l41
            dsimp only
            rw [if_pos (by decide)])
          rw [if_neg (fun z => q ((m_isAll m2.2.1 ab).mp z)), lp, kb_s, m_millionths m2.2.1 pl ab q, kb_s, if_neg q]
    · refine ⟨_, h, h, by rw [x_isKind_n rc hb, kb_s, if_pos rfl], ?_, Scr.rf ry rz⟩
      unfold f_X12_kinds
      rw [isIn_y _ z0 z1 (by rw [n32_toInt (by omega)]; omega), kb_s, if_neg (show ¬ ((1 : Int32) = 0) by decide), if_pos kk173, m_isKind_n rc hb, kb_s, if_pos rfl]
  · refine ⟨_, h, h, by rw [if_neg ha, if_pos rfl], ?_, Scr.rf ry rz⟩
    unfold f_X12_kinds
    rw [isIn_n _ z0 z1 (by omega), kb_s, if_pos rfl]
/-- whether a CLAIMANT would yield in a WORLD -/
def ywN (h : KH) (cl t w : Nat) : Nat := ybN h (kdN w cl) t (if w / 36 = cl then 1 else 0) (tmM h t)
theorem wt_in {h : KH} {w : Nat} (z : WN h w ≠ 0) : w / 6 % 6 < kN h 198 3 ∧ w % 6 < kN h 198 3 ∧ w < 72 := by
  refine Classical.byContradiction fun y => z ?_
  unfold WN wtN
  rw [if_neg y]
/-- a bit of the class's patterns -/
theorem pa_bit {h : KH} {c : Nat} (rc : RC h c) (tl : ∀ t, t < 6 → tmM h t ≤ 99) (rr : Rrule h c) {w cl t : Nat} (z : w / 6 % 6 < kN h 198 3 ∧ w % 6 < kN h 198 3 ∧ w < 72) (hcl : cl < 2) (ht : t < kN h 198 4) : paN h (tmM h) w / 2 ^ (if cl = 0 then 6 + t else t) % 2 = ywN h cl t w := by
  obtain ⟨hz, ho, hw⟩ := z
  have n3 := rc.2.2.2.1.1.1.2
  have n4 := rc.2.2.2.1.2.1.1.2
  have tt : tmM h t ≤ 99 := tl t (by omega)
  have l2 := awN_lt h (tmM h) (2 * (w % 6) + w / 36) (kN h 198 4)
  have p6 := pow6 _ n4
  unfold paN ywN kdN
  by_cases y : cl = 0
  · rw [if_pos y, if_pos y, y, Nat.pow_add, ← Nat.div_div_eq_div_mul, show 2 ^ 6 = 64 from rfl, show (awN h (tmM h) (2 * (w / 6 % 6) + (1 - w / 36)) (kN h 198 4) * 64 + awN h (tmM h) (2 * (w % 6) + w / 36) (kN h 198 4)) / 64 = awN h (tmM h) (2 * (w / 6 % 6) + (1 - w / 36)) (kN h 198 4) by omega, awN_bit _ _ _ _ _ ht, bits_bit rc rr hz ht (by omega) tt]
    by_cases q : w / 36 = 0
    · rw [if_pos q, q]
    · rw [if_neg q, show 1 - w / 36 = 0 by omega]
  · rw [if_neg y, if_neg y]
    have e : (awN h (tmM h) (2 * (w / 6 % 6) + (1 - w / 36)) (kN h 198 4) * 64 + awN h (tmM h) (2 * (w % 6) + w / 36) (kN h 198 4)) / 2 ^ t % 2 = awN h (tmM h) (2 * (w % 6) + w / 36) (kN h 198 4) / 2 ^ t % 2 := by
      have p : 64 = 2 ^ (6 - t - 1) * 2 * 2 ^ t := by
        rw [← Nat.pow_succ, ← Nat.pow_add, show 6 - t - 1 + 1 + t = 6 by omega]
      rw [Nat.add_comm]
      conv => lhs; rw [p]
      rw [← Nat.mul_assoc, Nat.add_mul_div_right _ _ (Nat.pow_pos (by omega)), ← Nat.mul_assoc, Nat.add_mul_mod_self_right]
    rw [e, awN_bit _ _ _ _ _ ht, bits_bit rc rr ho ht (by omega) tt]
    by_cases q : w / 36 = cl
    · rw [if_pos q, q, show cl = 1 by omega]
    · rw [if_neg q, show w / 36 = 0 by omega]
theorem ywN_lt {h : KH} {c : Nat} (rc : RC h c) (tl : ∀ t, t < 6 → tmM h t ≤ 99) (rr : Rrule h c) {w cl t : Nat} (z : w / 6 % 6 < kN h 198 3 ∧ w % 6 < kN h 198 3 ∧ w < 72) (ht : t < kN h 198 4) : ywN h cl t w < 2 := by
  obtain ⟨hz, ho, hw⟩ := z
  have n4 := rc.2.2.2.1.2.1.1.2
  have tt : tmM h t ≤ 99 := tl t (by omega)
  refine ybN_lt rc rr ?_ ht ?_ tt
  · unfold kdN
    by_cases y : cl = 0
    · rw [if_pos y]; exact hz
    · rw [if_neg y]; exact ho
  · by_cases q : w / 36 = cl
    · rw [if_pos q]; omega
    · rw [if_neg q]; omega
theorem pa_lt {h : KH} {c : Nat} (rc : RC h c) (w : Nat) : paN h (tmM h) w < 4096 := by
  have n4 := rc.2.2.2.1.2.1.1.2
  have l1 := awN_lt h (tmM h) (2 * (w / 6 % 6) + (1 - w / 36)) (kN h 198 4)
  have l2 := awN_lt h (tmM h) (2 * (w % 6) + w / 36) (kN h 198 4)
  have p6 := pow6 _ n4
  unfold paN
  omega
/-- the model's yieldIn, behind laysWorlds -/
theorem m_yw {h g : KH} {c : Nat} (rc : RC h c) (hr : kRefs g) (yl : Yl h g (kN h 198 4)) {w cl t : Nat} (z : WN h w ≠ 0) (hcl : cl < 2) (ht : t < kN h 198 4) : f_X12_yieldIn g 173 (Int32.ofNat w) (Int32.ofNat cl) (Int32.ofNat t) = some (Int32.ofNat (ywN h cl t w)) := by
  obtain ⟨hz, ho, hw⟩ := wt_in z
  have n4 := rc.2.2.2.1.2.1.1.2
  rw [m_yieldIn hr hw (by omega) hcl]
  have k3 : (if cl = 0 then w / 6 % 6 else w % 6) < kN h 198 3 := by
    by_cases y : cl = 0
    · rw [if_pos y]; exact hz
    · rw [if_neg y]; exact ho
  have t2 : (if w / 36 = cl then 1 else 0) < 2 := by
    by_cases q : w / 36 = cl
    · rw [if_pos q]; omega
    · rw [if_neg q]; omega
  rw [yl t _ _ ht k3 t2]
  rfl
theorem c_would {h : KH} {c : Nat} (rc : RC h c) (rs : RS h) (rr : Rrule h c) (ry : Ryt h c) (rz : Rzero h) (a b : Int32) : ∃ r h1 h2, f_X11_would h 0 a b = some (r, h1) ∧ f_X12_would h1 173 a b = some (r, h2) ∧ Scr h h2 c := by
  obtain ⟨hr, hc, h5, hm, -⟩ := id rc
  have c39 := hc.lt
  have n4 := hm.2.1.1.2
  have z0 : (0 : Int64).toInt = 0 := rfl
  have z1 : (1 : Int64).toInt = 1 := rfl
  unfold f_X11_would
  rw [x_isBit, kb_s]
  rcases n32_arg a (n := 2) (by omega) with ⟨cl, hcl, rfl⟩ | ha
  · rw [if_pos (rgt hcl (by omega)), if_neg (show ¬ ((1 : Int32) = 0) by decide), if_pos kk0]
    rcases n32_arg b (n := kN h 198 4) (by omega) with ⟨t, ht, rfl⟩ | hb
    · rw [x_isTest_y rc ht, kb_s, if_neg (show ¬ ((1 : Int32) = 0) by decide), rf0_11 hr, if_pos (show 162 < 999999 by omega), h5, if_pos (show c < 999999 by omega), rf0_7 hr, if_pos (show 64 < 999999 by omega), if_pos kk162]
      obtain ⟨h1, e1, s1, a1, w1⟩ := x_now rc rs rr ry rz
      have r1 := hr.fp s1.1
      obtain ⟨h2, e2, s2, f2, y2, m2⟩ := m_now rc rs rr s1
      have r2 := r1.fp f2
      have rc1 := rc.sc s1.1
      have q4 : kN h1 198 4 = kN h 198 4 := kN_same (s1.1.2.2.1 _ _ (by unfold Wscr; omega))
      have ab := aT_b rc
      have pl := pS_le (WN h) (fun w => decide (ywN h cl t w = 1)) 72
      refine ⟨shN h (pS (WN h) (fun w => decide (ywN h cl t w = 1)) 72), h1, h2, ?_, ?_, s2⟩
      · rw [e1, kb_s, rf0_11 r1, if_pos (show 162 < 999999 by omega), if_pos kk162]
        have ll := lv_len (WN h) 72
        have so : f_X10_sumOfYielding h1 162 (Int32.ofNat cl) (Int32.ofNat t) = some (Int64.ofNat (pS (WN h) (fun w => decide (ywN h cl t w = 1)) 72)) := by
          have b12 : f_X10_sumOfYielding_b12 h1 162 (Int32.ofNat (if cl = 0 then 6 + t else t)) = some (Int64.ofNat (pS (WN h) (fun w => decide (ywN h cl t w = 1)) 72)) := by
            unfold f_X10_sumOfYielding_b12
            rw [x_sumLoop (W := WN h) (p := fun w => decide (ywN h cl t w = 1)) (fun y i hi => by
              have mem := getD_mem hi
              obtain ⟨b1, b2⟩ := lv_mem mem
              have wi := w1.2.2.1 i hi
              generalize (lv (WN h) 72).getD i 0 = w at mem b1 b2 wi ⊢
              have pb := pa_bit rc (fun t ht => (rs.t ht).1.2) rr (wt_in b2) hcl ht
              have plw := pa_lt rc w
              have b12l : (if cl = 0 then 6 + t else t) < 12 := by
                by_cases y : cl = 0
                · rw [if_pos y]; omega
                · rw [if_neg y]; omega
              have yl := ywN_lt rc (fun t ht => (rs.t ht).1.2) rr (cl := cl) (wt_in b2) ht
              unfold f_X10_sumOfYielding_l19 f_X10_sumOfYielding_b64
              dsimp only
              rw [if_pos kk162, w1.1, if_neg (by rw [n32_le (by omega) (by omega)]; omega), rf162_1 r1, if_pos (show 164 < 999999 by omega), rf162_2 r1, if_pos (show 165 < 999999 by omega), if_pos kk165, kn165, if_neg (by rw [n32_cl (by omega)]; exact fun z => z.elim (n32_nn (by omega)) (by omega)), n32_cl (show i < 2147483648 by omega), wi, if_pos kk164, kn164, if_neg (by rw [n32_cl (by omega)]; exact fun z => z.elim (n32_nn (by omega)) (by omega)), n32_cl (show w < 2147483648 by omega), w1.2.2.2.1 w mem, n32_bit (by omega) (by omega), pb]
              by_cases u : ywN h cl t w = 1
              · rw [if_neg (by rw [n32_ne0 (by omega)]; omega), rf162_0 r1, if_pos (show 163 < 999999 by omega), if_pos kk163, kn163, if_neg (fun z => z.elim (n32_nn (by omega)) (by omega)), w1.2.1 w b1, if_pos b1, n64_add, kl_e, kl_e, n32_addl, if_pos (by simpa using u)]
              · rw [if_pos (by rw [n32_ne0 (by omega)]; omega), kl_e, n32_addl, if_neg (by simpa using u)]
                rfl) (fun y => by
              unfold f_X10_sumOfYielding_l19
              dsimp only
              rw [if_pos kk162, w1.1, if_pos (by rw [n32_le (by omega) (by omega)]; omega)]), kb_s]
          unfold f_X10_sumOfYielding
          by_cases y : cl = 0
          · rw [if_pos (by rw [y]; rfl), n32_addr]
            rw [if_pos y] at b12
            exact b12
          · rw [if_neg (by rw [n32_ne0 (by omega)]; exact y)]
            rw [if_neg y] at b12
            exact b12
        rw [so, kb_s, x_share rc r1 w1 pl, kb_s]
      · unfold f_X12_would shN
        rw [isIn_y _ z0 z1 (by rw [n32_toInt (by omega)]; omega), kb_s, if_neg (show ¬ ((1 : Int32) = 0) by decide), if_pos kk173, m_isTest_y rc1 (by omega), kb_s, if_neg (show ¬ ((1 : Int32) = 0) by decide), e2, kb_s]
        by_cases q : aT (WN h) 72 = 0
        · rw [if_pos ((m_isAll m2.2.1 ab).mpr q), if_pos q]
        · have lp := m_sumLoop (W := WN h) (p := fun w => decide (ywN h cl t w = 1)) (body := f_X12_would_l41 h2 173 (Int32.ofNat cl) (Int32.ofNat t)) (fun y w hw => by
            have wl := WN_le rc w
            unfold f_X12_would_l41 f_X12_would_b82
            dsimp only
            rw [if_neg (by rw [n32_ler (by omega) (by omega)]; omega), if_pos kk173, rf173_54 r2, if_pos (show 213 < 999999 by omega), if_pos kk213, kn213, if_neg (by rw [n32_cl (by omega)]; exact fun z => z.elim (n32_nn (by omega)) (by omega)), n32_cl (show w < 2147483648 by omega), m2.1 w hw]
            by_cases v : WN h w = 0
            · rw [v, if_pos (by decide), kl_e, n32_addl]
              by_cases u : ywN h cl t w = 1
              · rw [if_pos (by simpa using u)]
                rfl
              · rw [if_neg (by simpa using u)]
                rfl
            · have yl := ywN_lt rc (fun t ht => (rs.t ht).1.2) rr (cl := cl) (wt_in v) ht
              rw [if_neg (by rw [show (0 : Int64) = Int64.ofNat 0 from rfl, lgn_le0 (by omega) (by omega)]; omega), m_yw rc r2 y2 v hcl ht, kb_s]
              by_cases u : ywN h cl t w = 1
              · rw [if_pos (by rw [u]; rfl), n64_add, kl_e, kl_e, n32_addl, if_pos (by simpa using u)]
              · rw [if_neg (by rw [n32_eql (by omega) (by omega)]; exact u), kl_e, n32_addl, if_neg (by simpa using u)]
                rfl) (fun y => by
            unfold f_X12_would_l41
            dsimp only
            rw [if_pos (by decide)])
          rw [if_neg (fun z => q ((m_isAll m2.2.1 ab).mp z)), lp, kb_s, m_millionths m2.2.1 pl ab q, kb_s, if_neg q]
    · refine ⟨_, h, h, by rw [x_isTest_n rc hb, kb_s, if_pos rfl], ?_, Scr.rf ry rz⟩
      unfold f_X12_would
      rw [isIn_y _ z0 z1 (by rw [n32_toInt (by omega)]; omega), kb_s, if_neg (show ¬ ((1 : Int32) = 0) by decide), if_pos kk173, m_isTest_n rc hb, kb_s, if_pos rfl]
  · refine ⟨_, h, h, by rw [if_neg ha, if_pos rfl], ?_, Scr.rf ry rz⟩
    unfold f_X12_would
    rw [isIn_n _ z0 z1 (by omega), kb_s, if_pos rfl]
