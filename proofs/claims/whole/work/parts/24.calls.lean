/-! the law out of its calls: KAg R says that each call, at a heap with R, answers alike on both sides, and leaves R -/
def KAg (R : KH → Prop) : Prop :=
  (∀ (h : KH) (a0 a1 a2 a3 a4 : Int32), R h → ∃ r h1 h2, f_X11_feed h 0 a0 a1 a2 a3 a4 = some (r, h1) ∧ f_X12_feed h1 173 a0 a1 a2 a3 a4 = some (r, h2) ∧ R h2) ∧
  (∀ (h : KH) (a0 : Int32), R h → ∃ r h1 h2, f_X11_end h 0 a0 = some (r, h1) ∧ f_X12_end h1 173 a0 = some (r, h2) ∧ R h2) ∧
  (∀ (h : KH), R h → ∃ r h1 h2, f_X11_court h 0 = some (r, h1) ∧ f_X12_court h1 173 = some (r, h2) ∧ R h2) ∧
  (∀ (h : KH) (a0 : Int32), R h → ∃ r, f_X11_fault h 0 a0 = some r ∧ f_X12_fault h 173 a0 = some r) ∧
  (∀ (h : KH) (a0 : Int32), R h → ∃ r, f_X11_has h 0 a0 = some r ∧ f_X12_has h 173 a0 = some r) ∧
  (∀ (h : KH) (a0 a1 a2 : Int32), R h → ∃ r, f_X11_letter h 0 a0 a1 a2 = some r ∧ f_X12_letter h 173 a0 a1 a2 = some r) ∧
  (∀ (h : KH) (a0 a1 : Int32), R h → ∃ r, f_X11_kind h 0 a0 a1 = some r ∧ f_X12_kind h 173 a0 a1 = some r) ∧
  (∀ (h : KH) (a0 a1 : Int32), R h → ∃ r, f_X11_test h 0 a0 a1 = some r ∧ f_X12_test h 173 a0 a1 = some r) ∧
  (∀ (h : KH) (a0 a1 : Int32), R h → ∃ r, f_X11_mark h 0 a0 a1 = some r ∧ f_X12_mark h 173 a0 a1 = some r) ∧
  (∀ (h : KH) (a0 a1 a2 : Int32), R h → ∃ r h1 h2, f_X11_yields h 0 a0 a1 a2 = some (r, h1) ∧ f_X12_yields h1 173 a0 a1 a2 = some (r, h2) ∧ R h2) ∧
  (∀ (h : KH) (a0 a1 : Int32), R h → ∃ r, f_X11_kept h 0 a0 a1 = some r ∧ f_X12_kept h 173 a0 a1 = some r) ∧
  (∀ (h : KH) (a0 a1 a2 : Int32), R h → ∃ r h1 h2, f_X11_weight h 0 a0 a1 a2 = some (r, h1) ∧ f_X12_weight h1 173 a0 a1 a2 = some (r, h2) ∧ R h2) ∧
  (∀ (h : KH) (a0 : Int32), R h → ∃ r h1 h2, f_X11_odds h 0 a0 = some (r, h1) ∧ f_X12_odds h1 173 a0 = some (r, h2) ∧ R h2) ∧
  (∀ (h : KH) (a0 a1 : Int32), R h → ∃ r h1 h2, f_X11_kinds h 0 a0 a1 = some (r, h1) ∧ f_X12_kinds h1 173 a0 a1 = some (r, h2) ∧ R h2) ∧
  (∀ (h : KH) (a0 a1 : Int32), R h → ∃ r h1 h2, f_X11_would h 0 a0 a1 = some (r, h1) ∧ f_X12_would h1 173 a0 a1 = some (r, h2) ∧ R h2) ∧
  (∀ (h : KH) (a0 : Int32), R h → ∃ r h1 h2, f_X11_merit h 0 a0 = some (r, h1) ∧ f_X12_merit h1 173 a0 = some (r, h2) ∧ R h2) ∧
  (∀ (h : KH), R h → ∃ r h1 h2, f_X11_best h 0 = some (r, h1) ∧ f_X12_best h1 173 = some (r, h2) ∧ R h2) ∧
  (∀ (h : KH) (a0 a1 : Int32), R h → ∃ r h1 h2, f_X11_parts h 0 a0 a1 = some (r, h1) ∧ f_X12_parts h1 173 a0 a1 = some (r, h2) ∧ R h2) ∧
  (∀ (h : KH) (a0 : Int32), R h → ∃ r h1 h2, f_X11_sure h 0 a0 = some (r, h1) ∧ f_X12_sure h1 173 a0 = some (r, h2) ∧ R h2) ∧
  (∀ (h : KH) (a0 a1 : Int32), R h → ∃ r h1 h2, f_X11_ahead h 0 a0 a1 = some (r, h1) ∧ f_X12_ahead h1 173 a0 a1 = some (r, h2) ∧ R h2) ∧
  (∀ (h : KH) (a0 a1 : Int32), R h → ∃ r h1 h2, f_X11_known h 0 a0 a1 = some (r, h1) ∧ f_X12_known h1 173 a0 a1 = some (r, h2) ∧ R h2) ∧
  (∀ (h : KH), R h → ∃ r h1 h2, f_X11_tell h 0 = some (r, h1) ∧ f_X12_tell h1 173 = some (r, h2) ∧ R h2) ∧
  (∀ (h : KH), R h → ∃ r h1 h2, f_X11_trick h 0 = some (r, h1) ∧ f_X12_trick h1 173 = some (r, h2) ∧ R h2) ∧
  (∀ (h : KH) (a0 a1 a2 : Int32), R h → ∃ r h1 h2, f_X11_hear h 0 a0 a1 a2 = some (r, h1) ∧ f_X12_hear h1 173 a0 a1 a2 = some (r, h2) ∧ R h2) ∧
  (∀ (h : KH) (a0 a1 a2 : Int32), R h → ∃ r h1 h2, f_X11_look h 0 a0 a1 a2 = some (r, h1) ∧ f_X12_look h1 173 a0 a1 a2 = some (r, h2) ∧ R h2) ∧
  (∀ (h : KH) (a0 : Int32), R h → ∃ r h1 h2, f_X11_judge h 0 a0 = some (r, h1) ∧ f_X12_judge h1 173 a0 = some (r, h2) ∧ R h2) ∧
  (∀ (h : KH) (a0 : Int32), R h → ∃ r h1 h2, f_X11_chance h 0 a0 = some (r, h1) ∧ f_X12_chance h1 173 a0 = some (r, h2) ∧ R h2) ∧
  (∀ (h : KH), R h → ∃ r h1 h2, f_X11_undo h 0 = some (r, h1) ∧ f_X12_undo h1 173 = some (r, h2) ∧ R h2) ∧
  (∀ (h : KH) (a0 : Int32), R h → ∃ r h1 h2, f_X11_seed h 0 a0 = some (r, h1) ∧ f_X12_seed h1 173 a0 = some (r, h2) ∧ R h2) ∧
  (∀ (h : KH), R h → ∃ r h1 h2, f_X11_ask h 0 = some (r, h1) ∧ f_X12_ask h1 173 = some (r, h2) ∧ R h2) ∧
  (∀ (h : KH), R h → ∃ r h1 h2, f_X11_image h 0 = some (r, h1) ∧ f_X12_image h1 173 = some (r, h2) ∧ R h2) ∧
  (∀ (h : KH) (a0 : Int32), R h → ∃ r, f_X11_octet h 0 a0 = some r ∧ f_X12_octet h 173 a0 = some r) ∧
  (∀ (h : KH), R h → ∃ r h1 h2, f_X11_on h 0 = some (r, h1) ∧ f_X12_on h1 173 = some (r, h2) ∧ R h2) ∧
  (∀ (h : KH) (a0 : Int32), R h → ∃ r, f_X11_status h 0 a0 = some r ∧ f_X12_status h 173 a0 = some r)
theorem lg_cmp_self (x : Int64) : lg_cmp x x = 0 := by simp [lg_cmp]
theorem kk0 : kkind 0 = 11 := by decide +kernel
theorem kk173 : kkind 173 = 12 := by decide +kernel
theorem n32_in {k c L : Nat} (h : k + c < L) (hL : L ≤ 3072) : ¬ (Int32.ofNat k + Int32.ofNat c < 0 ∨ L ≤ (Int32.ofNat k + Int32.ofNat c).toNatClampNeg) := by
  rw [n32_add, n32_cl (by omega)]
  exact fun z => z.elim (n32_nn (by omega)) (by omega)
theorem n32_in0 {k L : Nat} (h : k < L) (hL : L ≤ 3072) : ¬ (Int32.ofNat k < 0 ∨ L ≤ (Int32.ofNat k).toNatClampNeg) := by
  rw [n32_cl (by omega)]
  exact fun z => z.elim (n32_nn (by omega)) (by omega)
theorem n32_last {k L : Nat} (hk : k ≤ 4000) (hL : L ≤ 3072) : Int32.ofNat L - 6 < Int32.ofNat k ↔ L < k + 6 := by
  have h6 : (6 : Int32).toInt = 6 := rfl
  rw [Int32.lt_iff_toInt_lt, Int32.toInt_sub, n32_toInt (by omega), n32_toInt (by omega), h6, Int.bmod_eq_of_le (by omega) (by omega)]
  omega
set_option maxHeartbeats 8000000 in
set_option maxRecDepth 100000 in
theorem law_turn {R : KH → Prop} (hA : KAg R) {xs : Nat → Int32} {L k : Nat} (hL : L ≤ 3072) (hk : k + 6 ≤ L) {h : KH} (hR : R h) : ∃ h2, f_L_law_l18 xs L 1000030 0 173 (Int32.ofNat k, h) = some (.inl (Int32.ofNat (k + 6), h2)) ∧ R h2 := by
  obtain ⟨g0, g1, g2, g3, g4, g5, g6, g7, g8, g9, g10, g11, g12, g13, g14, g15, g16, g17, g18, g19, g20, g21, g22, g23, g24, g25, g26, g27, g28, g29, g30, g31, g32, g33⟩ := hA
  have hlast : ¬ (Int32.ofNat L - (6 : Int32) < Int32.ofNat k) := by rw [n32_last (by omega) hL]; omega
  have b0 := n32_in0 (k := k) (L := L) (by omega) hL
  have b1 : ¬ (Int32.ofNat k + (1 : Int32) < 0 ∨ L ≤ (Int32.ofNat k + (1 : Int32)).toNatClampNeg) := n32_in (k := k) (c := 1) (L := L) (by omega) hL
  have b2 : ¬ (Int32.ofNat k + (2 : Int32) < 0 ∨ L ≤ (Int32.ofNat k + (2 : Int32)).toNatClampNeg) := n32_in (k := k) (c := 2) (L := L) (by omega) hL
  have b3 : ¬ (Int32.ofNat k + (3 : Int32) < 0 ∨ L ≤ (Int32.ofNat k + (3 : Int32)).toNatClampNeg) := n32_in (k := k) (c := 3) (L := L) (by omega) hL
  have b4 : ¬ (Int32.ofNat k + (4 : Int32) < 0 ∨ L ≤ (Int32.ofNat k + (4 : Int32)).toNatClampNeg) := n32_in (k := k) (c := 4) (L := L) (by omega) hL
  have b5 : ¬ (Int32.ofNat k + (5 : Int32) < 0 ∨ L ≤ (Int32.ofNat k + (5 : Int32)).toNatClampNeg) := n32_in (k := k) (c := 5) (L := L) (by omega) hL
  have e6 : Int32.ofNat k + (6 : Int32) = Int32.ofNat (k + 6) := n32_add k 6
  have hb : ∀ h2 : KH, f_L_law_b1119 xs L h2 1000030 0 173 (Int32.ofNat k) = some (.inl (Int32.ofNat (k + 6), h2)) := fun h2 => by
    unfold f_L_law_b1119
    rw [kl_e, e6]
  unfold f_L_law_l18
  dsimp only
  rw [if_pos rfl, if_neg hlast, if_pos b0]
  by_cases c0 : ((xs ((Int32.ofNat k).toNatClampNeg)) &&& (63 : Int32)) = (0 : Int32)
  · rw [if_pos c0]
    obtain ⟨r, h1, h2, e1, e2, hR2⟩ := g0 h (xs ((Int32.ofNat k + (1 : Int32)).toNatClampNeg)) (xs ((Int32.ofNat k + (2 : Int32)).toNatClampNeg)) (xs ((Int32.ofNat k + (3 : Int32)).toNatClampNeg)) (xs ((Int32.ofNat k + (4 : Int32)).toNatClampNeg)) (xs ((Int32.ofNat k + (5 : Int32)).toNatClampNeg)) hR
    rw [if_pos b1, if_pos b2, if_pos b3, if_pos b4, if_pos b5, if_pos kk0, e1, kb_s, if_pos kk173]
    dsimp only
    rw [e2, kb_s]
    dsimp only
    rw [if_pos rfl]
    exact ⟨h2, hb h2, hR2⟩
  rw [if_neg c0]
  by_cases c1 : ((xs ((Int32.ofNat k).toNatClampNeg)) &&& (63 : Int32)) = (1 : Int32)
  · rw [if_pos c1]
    obtain ⟨r, h1, h2, e1, e2, hR2⟩ := g1 h (xs ((Int32.ofNat k + (1 : Int32)).toNatClampNeg)) hR
    rw [if_pos b1, if_pos kk0, e1, kb_s, if_pos kk173]
    dsimp only
    rw [e2, kb_s]
    dsimp only
    rw [if_pos rfl]
    exact ⟨h2, hb h2, hR2⟩
  rw [if_neg c1]
  by_cases c2 : ((xs ((Int32.ofNat k).toNatClampNeg)) &&& (63 : Int32)) = (2 : Int32)
  · rw [if_pos c2]
    obtain ⟨r, h1, h2, e1, e2, hR2⟩ := g2 h  hR
    rw [if_pos kk0, e1, kb_s, if_pos kk173]
    dsimp only
    rw [e2, kb_s]
    dsimp only
    rw [if_pos rfl]
    exact ⟨h2, hb h2, hR2⟩
  rw [if_neg c2]
  by_cases c3 : ((xs ((Int32.ofNat k).toNatClampNeg)) &&& (63 : Int32)) = (3 : Int32)
  · rw [if_pos c3]
    obtain ⟨r, e1, e2⟩ := g3 h (xs ((Int32.ofNat k + (1 : Int32)).toNatClampNeg)) hR
    rw [if_pos b1, if_pos kk0, e1, kb_s, if_pos kk173]
    rw [e2, kb_s]
    rw [if_pos rfl]
    exact ⟨h, hb h, hR⟩
  rw [if_neg c3]
  by_cases c4 : ((xs ((Int32.ofNat k).toNatClampNeg)) &&& (63 : Int32)) = (4 : Int32)
  · rw [if_pos c4]
    obtain ⟨r, e1, e2⟩ := g4 h (xs ((Int32.ofNat k + (1 : Int32)).toNatClampNeg)) hR
    rw [if_pos b1, if_pos kk0, e1, kb_s, if_pos kk173]
    rw [e2, kb_s]
    rw [if_pos rfl]
    exact ⟨h, hb h, hR⟩
  rw [if_neg c4]
  by_cases c5 : ((xs ((Int32.ofNat k).toNatClampNeg)) &&& (63 : Int32)) = (5 : Int32)
  · rw [if_pos c5]
    obtain ⟨r, e1, e2⟩ := g5 h (xs ((Int32.ofNat k + (1 : Int32)).toNatClampNeg)) (xs ((Int32.ofNat k + (2 : Int32)).toNatClampNeg)) (xs ((Int32.ofNat k + (3 : Int32)).toNatClampNeg)) hR
    rw [if_pos b1, if_pos b2, if_pos b3, if_pos kk0, e1, kb_s, if_pos kk173]
    rw [e2, kb_s]
    rw [if_pos rfl]
    exact ⟨h, hb h, hR⟩
  rw [if_neg c5]
  by_cases c6 : ((xs ((Int32.ofNat k).toNatClampNeg)) &&& (63 : Int32)) = (6 : Int32)
  · rw [if_pos c6]
    obtain ⟨r, e1, e2⟩ := g6 h (xs ((Int32.ofNat k + (1 : Int32)).toNatClampNeg)) (xs ((Int32.ofNat k + (2 : Int32)).toNatClampNeg)) hR
    rw [if_pos b1, if_pos b2, if_pos kk0, e1, kb_s, if_pos kk173]
    rw [e2, kb_s]
    rw [if_pos rfl]
    exact ⟨h, hb h, hR⟩
  rw [if_neg c6]
  by_cases c7 : ((xs ((Int32.ofNat k).toNatClampNeg)) &&& (63 : Int32)) = (7 : Int32)
  · rw [if_pos c7]
    obtain ⟨r, e1, e2⟩ := g7 h (xs ((Int32.ofNat k + (1 : Int32)).toNatClampNeg)) (xs ((Int32.ofNat k + (2 : Int32)).toNatClampNeg)) hR
    rw [if_pos b1, if_pos b2, if_pos kk0, e1, kb_s, if_pos kk173]
    rw [e2, kb_s]
    rw [if_pos rfl]
    exact ⟨h, hb h, hR⟩
  rw [if_neg c7]
  by_cases c8 : ((xs ((Int32.ofNat k).toNatClampNeg)) &&& (63 : Int32)) = (8 : Int32)
  · rw [if_pos c8]
    obtain ⟨r, e1, e2⟩ := g8 h (xs ((Int32.ofNat k + (1 : Int32)).toNatClampNeg)) (xs ((Int32.ofNat k + (2 : Int32)).toNatClampNeg)) hR
    rw [if_pos b1, if_pos b2, if_pos kk0, e1, kb_s, if_pos kk173]
    rw [e2, kb_s]
    rw [if_pos rfl]
    exact ⟨h, hb h, hR⟩
  rw [if_neg c8]
  by_cases c9 : ((xs ((Int32.ofNat k).toNatClampNeg)) &&& (63 : Int32)) = (9 : Int32)
  · rw [if_pos c9]
    obtain ⟨r, h1, h2, e1, e2, hR2⟩ := g9 h (xs ((Int32.ofNat k + (1 : Int32)).toNatClampNeg)) (xs ((Int32.ofNat k + (2 : Int32)).toNatClampNeg)) (xs ((Int32.ofNat k + (3 : Int32)).toNatClampNeg)) hR
    rw [if_pos b1, if_pos b2, if_pos b3, if_pos kk0, e1, kb_s, if_pos kk173]
    dsimp only
    rw [e2, kb_s]
    dsimp only
    rw [if_pos rfl]
    exact ⟨h2, hb h2, hR2⟩
  rw [if_neg c9]
  by_cases c10 : ((xs ((Int32.ofNat k).toNatClampNeg)) &&& (63 : Int32)) = (10 : Int32)
  · rw [if_pos c10]
    obtain ⟨r, e1, e2⟩ := g10 h (xs ((Int32.ofNat k + (1 : Int32)).toNatClampNeg)) (xs ((Int32.ofNat k + (2 : Int32)).toNatClampNeg)) hR
    rw [if_pos b1, if_pos b2, if_pos kk0, e1, kb_s, if_pos kk173]
    rw [e2, kb_s]
    rw [if_pos rfl]
    exact ⟨h, hb h, hR⟩
  rw [if_neg c10]
  by_cases c11 : ((xs ((Int32.ofNat k).toNatClampNeg)) &&& (63 : Int32)) = (11 : Int32)
  · rw [if_pos c11]
    obtain ⟨r, h1, h2, e1, e2, hR2⟩ := g11 h (xs ((Int32.ofNat k + (1 : Int32)).toNatClampNeg)) (xs ((Int32.ofNat k + (2 : Int32)).toNatClampNeg)) (xs ((Int32.ofNat k + (3 : Int32)).toNatClampNeg)) hR
    rw [if_pos b1, if_pos b2, if_pos b3, if_pos kk0, e1, kb_s, if_pos kk173]
    dsimp only
    rw [e2, kb_s]
    dsimp only
    rw [if_pos (lg_cmp_self r)]
    exact ⟨h2, hb h2, hR2⟩
  rw [if_neg c11]
  by_cases c12 : ((xs ((Int32.ofNat k).toNatClampNeg)) &&& (63 : Int32)) = (12 : Int32)
  · rw [if_pos c12]
    obtain ⟨r, h1, h2, e1, e2, hR2⟩ := g12 h (xs ((Int32.ofNat k + (1 : Int32)).toNatClampNeg)) hR
    rw [if_pos b1, if_pos kk0, e1, kb_s, if_pos kk173]
    dsimp only
    rw [e2, kb_s]
    dsimp only
    rw [if_pos rfl]
    exact ⟨h2, hb h2, hR2⟩
  rw [if_neg c12]
  by_cases c13 : ((xs ((Int32.ofNat k).toNatClampNeg)) &&& (63 : Int32)) = (13 : Int32)
  · rw [if_pos c13]
    obtain ⟨r, h1, h2, e1, e2, hR2⟩ := g13 h (xs ((Int32.ofNat k + (1 : Int32)).toNatClampNeg)) (xs ((Int32.ofNat k + (2 : Int32)).toNatClampNeg)) hR
    rw [if_pos b1, if_pos b2, if_pos kk0, e1, kb_s, if_pos kk173]
    dsimp only
    rw [e2, kb_s]
    dsimp only
    rw [if_pos rfl]
    exact ⟨h2, hb h2, hR2⟩
  rw [if_neg c13]
  by_cases c14 : ((xs ((Int32.ofNat k).toNatClampNeg)) &&& (63 : Int32)) = (14 : Int32)
  · rw [if_pos c14]
    obtain ⟨r, h1, h2, e1, e2, hR2⟩ := g14 h (xs ((Int32.ofNat k + (1 : Int32)).toNatClampNeg)) (xs ((Int32.ofNat k + (2 : Int32)).toNatClampNeg)) hR
    rw [if_pos b1, if_pos b2, if_pos kk0, e1, kb_s, if_pos kk173]
    dsimp only
    rw [e2, kb_s]
    dsimp only
    rw [if_pos rfl]
    exact ⟨h2, hb h2, hR2⟩
  rw [if_neg c14]
  by_cases c15 : ((xs ((Int32.ofNat k).toNatClampNeg)) &&& (63 : Int32)) = (15 : Int32)
  · rw [if_pos c15]
    obtain ⟨r, h1, h2, e1, e2, hR2⟩ := g15 h (xs ((Int32.ofNat k + (1 : Int32)).toNatClampNeg)) hR
    rw [if_pos b1, if_pos kk0, e1, kb_s, if_pos kk173]
    dsimp only
    rw [e2, kb_s]
    dsimp only
    rw [if_pos (lg_cmp_self r)]
    exact ⟨h2, hb h2, hR2⟩
  rw [if_neg c15]
  by_cases c16 : ((xs ((Int32.ofNat k).toNatClampNeg)) &&& (63 : Int32)) = (16 : Int32)
  · rw [if_pos c16]
    obtain ⟨r, h1, h2, e1, e2, hR2⟩ := g16 h  hR
    rw [if_pos kk0, e1, kb_s, if_pos kk173]
    dsimp only
    rw [e2, kb_s]
    dsimp only
    rw [if_pos rfl]
    exact ⟨h2, hb h2, hR2⟩
  rw [if_neg c16]
  by_cases c17 : ((xs ((Int32.ofNat k).toNatClampNeg)) &&& (63 : Int32)) = (17 : Int32)
  · rw [if_pos c17]
    obtain ⟨r, h1, h2, e1, e2, hR2⟩ := g17 h (xs ((Int32.ofNat k + (1 : Int32)).toNatClampNeg)) (xs ((Int32.ofNat k + (2 : Int32)).toNatClampNeg)) hR
    rw [if_pos b1, if_pos b2, if_pos kk0, e1, kb_s, if_pos kk173]
    dsimp only
    rw [e2, kb_s]
    dsimp only
    rw [if_pos rfl]
    exact ⟨h2, hb h2, hR2⟩
  rw [if_neg c17]
  by_cases c18 : ((xs ((Int32.ofNat k).toNatClampNeg)) &&& (63 : Int32)) = (18 : Int32)
  · rw [if_pos c18]
    obtain ⟨r, h1, h2, e1, e2, hR2⟩ := g18 h (xs ((Int32.ofNat k + (1 : Int32)).toNatClampNeg)) hR
    rw [if_pos b1, if_pos kk0, e1, kb_s, if_pos kk173]
    dsimp only
    rw [e2, kb_s]
    dsimp only
    rw [if_pos rfl]
    exact ⟨h2, hb h2, hR2⟩
  rw [if_neg c18]
  by_cases c19 : ((xs ((Int32.ofNat k).toNatClampNeg)) &&& (63 : Int32)) = (19 : Int32)
  · rw [if_pos c19]
    obtain ⟨r, h1, h2, e1, e2, hR2⟩ := g19 h (xs ((Int32.ofNat k + (1 : Int32)).toNatClampNeg)) (xs ((Int32.ofNat k + (2 : Int32)).toNatClampNeg)) hR
    rw [if_pos b1, if_pos b2, if_pos kk0, e1, kb_s, if_pos kk173]
    dsimp only
    rw [e2, kb_s]
    dsimp only
    rw [if_pos rfl]
    exact ⟨h2, hb h2, hR2⟩
  rw [if_neg c19]
  by_cases c20 : ((xs ((Int32.ofNat k).toNatClampNeg)) &&& (63 : Int32)) = (20 : Int32)
  · rw [if_pos c20]
    obtain ⟨r, h1, h2, e1, e2, hR2⟩ := g20 h (xs ((Int32.ofNat k + (1 : Int32)).toNatClampNeg)) (xs ((Int32.ofNat k + (2 : Int32)).toNatClampNeg)) hR
    rw [if_pos b1, if_pos b2, if_pos kk0, e1, kb_s, if_pos kk173]
    dsimp only
    rw [e2, kb_s]
    dsimp only
    rw [if_pos rfl]
    exact ⟨h2, hb h2, hR2⟩
  rw [if_neg c20]
  by_cases c21 : ((xs ((Int32.ofNat k).toNatClampNeg)) &&& (63 : Int32)) = (21 : Int32)
  · rw [if_pos c21]
    obtain ⟨r, h1, h2, e1, e2, hR2⟩ := g21 h  hR
    rw [if_pos kk0, e1, kb_s, if_pos kk173]
    dsimp only
    rw [e2, kb_s]
    dsimp only
    rw [if_pos rfl]
    exact ⟨h2, hb h2, hR2⟩
  rw [if_neg c21]
  by_cases c22 : ((xs ((Int32.ofNat k).toNatClampNeg)) &&& (63 : Int32)) = (22 : Int32)
  · rw [if_pos c22]
    obtain ⟨r, h1, h2, e1, e2, hR2⟩ := g22 h  hR
    rw [if_pos kk0, e1, kb_s, if_pos kk173]
    dsimp only
    rw [e2, kb_s]
    dsimp only
    rw [if_pos rfl]
    exact ⟨h2, hb h2, hR2⟩
  rw [if_neg c22]
  by_cases c23 : ((xs ((Int32.ofNat k).toNatClampNeg)) &&& (63 : Int32)) = (23 : Int32)
  · rw [if_pos c23]
    obtain ⟨r, h1, h2, e1, e2, hR2⟩ := g23 h (xs ((Int32.ofNat k + (1 : Int32)).toNatClampNeg)) (xs ((Int32.ofNat k + (2 : Int32)).toNatClampNeg)) (xs ((Int32.ofNat k + (3 : Int32)).toNatClampNeg)) hR
    rw [if_pos b1, if_pos b2, if_pos b3, if_pos kk0, e1, kb_s, if_pos kk173]
    dsimp only
    rw [e2, kb_s]
    dsimp only
    rw [if_pos rfl]
    exact ⟨h2, hb h2, hR2⟩
  rw [if_neg c23]
  by_cases c24 : ((xs ((Int32.ofNat k).toNatClampNeg)) &&& (63 : Int32)) = (24 : Int32)
  · rw [if_pos c24]
    obtain ⟨r, h1, h2, e1, e2, hR2⟩ := g24 h (xs ((Int32.ofNat k + (1 : Int32)).toNatClampNeg)) (xs ((Int32.ofNat k + (2 : Int32)).toNatClampNeg)) (xs ((Int32.ofNat k + (3 : Int32)).toNatClampNeg)) hR
    rw [if_pos b1, if_pos b2, if_pos b3, if_pos kk0, e1, kb_s, if_pos kk173]
    dsimp only
    rw [e2, kb_s]
    dsimp only
    rw [if_pos rfl]
    exact ⟨h2, hb h2, hR2⟩
  rw [if_neg c24]
  by_cases c25 : ((xs ((Int32.ofNat k).toNatClampNeg)) &&& (63 : Int32)) = (25 : Int32)
  · rw [if_pos c25]
    obtain ⟨r, h1, h2, e1, e2, hR2⟩ := g25 h (xs ((Int32.ofNat k + (1 : Int32)).toNatClampNeg)) hR
    rw [if_pos b1, if_pos kk0, e1, kb_s, if_pos kk173]
    dsimp only
    rw [e2, kb_s]
    dsimp only
    rw [if_pos rfl]
    exact ⟨h2, hb h2, hR2⟩
  rw [if_neg c25]
  by_cases c26 : ((xs ((Int32.ofNat k).toNatClampNeg)) &&& (63 : Int32)) = (26 : Int32)
  · rw [if_pos c26]
    obtain ⟨r, h1, h2, e1, e2, hR2⟩ := g26 h (xs ((Int32.ofNat k + (1 : Int32)).toNatClampNeg)) hR
    rw [if_pos b1, if_pos kk0, e1, kb_s, if_pos kk173]
    dsimp only
    rw [e2, kb_s]
    dsimp only
    rw [if_pos rfl]
    exact ⟨h2, hb h2, hR2⟩
  rw [if_neg c26]
  by_cases c27 : ((xs ((Int32.ofNat k).toNatClampNeg)) &&& (63 : Int32)) = (27 : Int32)
  · rw [if_pos c27]
    obtain ⟨r, h1, h2, e1, e2, hR2⟩ := g27 h  hR
    rw [if_pos kk0, e1, kb_s, if_pos kk173]
    dsimp only
    rw [e2, kb_s]
    dsimp only
    rw [if_pos rfl]
    exact ⟨h2, hb h2, hR2⟩
  rw [if_neg c27]
  by_cases c28 : ((xs ((Int32.ofNat k).toNatClampNeg)) &&& (63 : Int32)) = (28 : Int32)
  · rw [if_pos c28]
    obtain ⟨r, h1, h2, e1, e2, hR2⟩ := g28 h (xs ((Int32.ofNat k + (1 : Int32)).toNatClampNeg)) hR
    rw [if_pos b1, if_pos kk0, e1, kb_s, if_pos kk173]
    dsimp only
    rw [e2, kb_s]
    dsimp only
    rw [if_pos rfl]
    exact ⟨h2, hb h2, hR2⟩
  rw [if_neg c28]
  by_cases c29 : ((xs ((Int32.ofNat k).toNatClampNeg)) &&& (63 : Int32)) = (29 : Int32)
  · rw [if_pos c29]
    obtain ⟨r, h1, h2, e1, e2, hR2⟩ := g29 h  hR
    rw [if_pos kk0, e1, kb_s, if_pos kk173]
    dsimp only
    rw [e2, kb_s]
    dsimp only
    rw [if_pos (lg_cmp_self r)]
    exact ⟨h2, hb h2, hR2⟩
  rw [if_neg c29]
  by_cases c30 : ((xs ((Int32.ofNat k).toNatClampNeg)) &&& (63 : Int32)) = (30 : Int32)
  · rw [if_pos c30]
    obtain ⟨r, h1, h2, e1, e2, hR2⟩ := g30 h  hR
    rw [if_pos kk0, e1, kb_s, if_pos kk173]
    dsimp only
    rw [e2, kb_s]
    dsimp only
    rw [if_pos rfl]
    exact ⟨h2, hb h2, hR2⟩
  rw [if_neg c30]
  by_cases c31 : ((xs ((Int32.ofNat k).toNatClampNeg)) &&& (63 : Int32)) = (31 : Int32)
  · rw [if_pos c31]
    obtain ⟨r, e1, e2⟩ := g31 h (xs ((Int32.ofNat k + (1 : Int32)).toNatClampNeg)) hR
    rw [if_pos b1, if_pos kk0, e1, kb_s, if_pos kk173]
    rw [e2, kb_s]
    rw [if_pos rfl]
    exact ⟨h, hb h, hR⟩
  rw [if_neg c31]
  by_cases c32 : ((xs ((Int32.ofNat k).toNatClampNeg)) &&& (63 : Int32)) = (32 : Int32)
  · rw [if_pos c32]
    obtain ⟨r, h1, h2, e1, e2, hR2⟩ := g32 h  hR
    rw [if_pos kk0, e1, kb_s, if_pos kk173]
    dsimp only
    rw [e2, kb_s]
    dsimp only
    rw [if_pos rfl]
    exact ⟨h2, hb h2, hR2⟩
  rw [if_neg c32]
  by_cases c33 : ((xs ((Int32.ofNat k).toNatClampNeg)) &&& (63 : Int32)) = (33 : Int32)
  · rw [if_pos c33]
    obtain ⟨r, e1, e2⟩ := g33 h (xs ((Int32.ofNat k + (1 : Int32)).toNatClampNeg)) hR
    rw [if_pos b1, if_pos kk0, e1, kb_s, if_pos kk173]
    rw [e2, kb_s]
    rw [if_pos rfl]
    exact ⟨h, hb h, hR⟩
  rw [if_neg c33]
  exact ⟨h, hb h, hR⟩
theorem law_loop {R : KH → Prop} (hA : KAg R) {xs : Nat → Int32} {L : Nat} (hL : L ≤ 3072) {h : KH} (hR : R h) : ∃ h2, kloop (f_L_law_l18 xs L 1000030 0 173) KF ((0 : Int32), h) = some (.inl h2) := by
  obtain ⟨r, h1, h2⟩ := kloop_KF (body := f_L_law_l18 xs L 1000030 0 173) (fun n s => ∃ k, s.1 = Int32.ofNat k ∧ R s.2 ∧ k ≤ 3078 ∧ n + k = 4000) (fun r => ∃ h2, r = .inl h2) (fun n s hP => by
    obtain ⟨k, e, hRs, hk, hn⟩ := hP
    obtain ⟨i, hh⟩ := s
    dsimp only at e hRs
    subst e
    by_cases hend : k + 6 ≤ L
    · obtain ⟨h2, e2, hR2⟩ := law_turn hA (xs := xs) hL hend hRs
      exact Or.inr ⟨n - 6, _, by omega, e2, k + 6, rfl, hR2, by omega, by omega⟩
    · refine Or.inl ⟨.inl hh, ?_, hh, rfl⟩
      unfold f_L_law_l18
      dsimp only
      rw [if_pos rfl, if_pos ((n32_last (by omega) hL).mpr (by omega))]) (n := 4000) (s := ((0 : Int32), h)) (by omega) ⟨0, rfl, hR, by omega, rfl⟩
  obtain ⟨h3, rfl⟩ := h2
  exact ⟨h3, h1⟩
/-- hpure, out of KAg -/
theorem law_pure {R : KH → Prop} (hA : KAg R) (h0 : ∀ hI, khI = some hI → R hI) (xs : Nat → Int32) (L : Nat) (hL : L ≤ 3072) : ∃ h' : KH, f_L_law xs L kh0 1000030 = some (1, h') := by
  obtain ⟨hI, hk, hs⟩ := Option.map_eq_some_iff.mp khI_size
  obtain ⟨rX, hX, hM⟩ := Option.bind_eq_some_iff.mp hk
  have hXs : rX.1 = 173 := by
    have := khX_size
    rw [hX] at this
    exact Option.some.inj this
  obtain ⟨h2, e2⟩ := law_loop hA (xs := xs) hL (h0 hI hk)
  refine ⟨h2, ?_⟩
  have hX' : f_iX11_init (knew kh0) 0 = some rX := hX
  rw [hXs] at hM
  have z : kh0.1 = 0 := rfl
  unfold f_L_law
  rw [z, if_pos (by decide +kernel), kl_e, if_pos (by decide +kernel), hX', kb_s, hXs, if_pos (by decide +kernel), kl_e, k1_new, hXs, if_pos (by decide +kernel), hM, kb_s, if_pos hs, e2, kb_s, ksum_l]
