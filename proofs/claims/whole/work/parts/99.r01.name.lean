/-! a NAME in a COURT: what it is; the class's and the model's -/
def wNm (b : Nat → Nat) (n : Nat) (s : PS) : (Nat × Nat) ⊕ (Nat × Nat × PS) :=
  if tkT b n s.1 s.2.1 ≠ 2 then .inl (1, blE b n s.1)
  else if wI b n s < 22 then .inl (1, blE b n s.1)
  else if 6 < tkZ b n s.1 then .inl (1, blE b n s.1 + 6)
  else .inr (wvN b (blE b n s.1) (tkZ b n s.1), tkZ b n s.1, nxt b n s)
/-- the class's: it doesn't pass the name -/
theorem x_nameHere {h g : KH} {n : Nat} {s : PS} (ht : Rtape h) (n16 : n ≤ 1600) (x : Rx h g n (.inr s)) : ∃ v g', f_X7_nameHere g 8 = some (v, g') ∧ kfp (fun l _ => l = 8) g g' ∧ (∀ e, wNm (tyN h) n s = .inl e → Rx h g' n (.inl e)) ∧ ∀ w, wNm (tyN h) n s = .inr w → g' = g ∧ v = Int32.ofNat (tkV (tyN h) n s.1) := by
  obtain ⟨x1, x2, ⟨t2, t3, t4, t5, t6⟩, x7, x8⟩ := id x
  have tb := tk_b ht n16 x2 s.2.1
  have wh := x_wordHere ht n16 x
  have wl := wI_le (tyN h) n s
  have stop0 : wNm (tyN h) n s = .inl (1, blE (tyN h) n s.1) → ∃ v g', f_X7_nameHere_b23 g 8 = some (v, g') ∧ kfp (fun l _ => l = 8) g g' ∧ (∀ e, wNm (tyN h) n s = .inl e → Rx h g' n (.inl e)) ∧ ∀ w, wNm (tyN h) n s = .inr w → g' = g ∧ v = Int32.ofNat (tkV (tyN h) n s.1) := fun hw => by
    obtain ⟨g', e', f', x'⟩ := x_stopH (k := 1) ht n16 x
    have e'' : f_X7_stop g 8 (1 : Int32) (kI g 8 4) = some g' := e'
    unfold f_X7_nameHere_b23 f_X7_nameHere_b56
    rw [if_pos kk8, e'', kb_s, if_pos kk8]
    refine ⟨_, g', rfl, f', fun e he => ?_, fun w he => ?_⟩
    · rw [hw] at he
      cases he
      exact x'
    · rw [hw] at he
      exact nomatch he
  unfold f_X7_nameHere
  rw [if_pos kk8, wh, kb_s, t3]
  by_cases y : tkT (tyN h) n s.1 s.2.1 = 2
  · rw [if_pos (by rw [y]; rfl)]
    have b35 : ¬ wI (tyN h) n s < 22 → ∃ v g', f_X7_nameHere_b35 g 8 = some (v, g') ∧ kfp (fun l _ => l = 8) g g' ∧ (∀ e, wNm (tyN h) n s = .inl e → Rx h g' n (.inl e)) ∧ ∀ w, wNm (tyN h) n s = .inr w → g' = g ∧ v = Int32.ofNat (tkV (tyN h) n s.1) := fun hw => by
      unfold f_X7_nameHere_b35 f_X7_nameHere_b56
      rw [if_pos kk8, t5]
      by_cases z : 6 < tkZ (tyN h) n s.1
      · have ew : wNm (tyN h) n s = .inl (1, blE (tyN h) n s.1 + 6) := by
          unfold wNm
          rw [if_neg (fun u => u y), if_neg hw, if_pos z]
        obtain ⟨g', e', f', x'⟩ := x_stop (k := 1) (pl := blE (tyN h) n s.1 + 6) ht n16 x
        have e'' : f_X7_stop g 8 (1 : Int32) (Int32.ofNat (blE (tyN h) n s.1 + 6)) = some g' := e'
        rw [if_neg (by rw [n32_lel (by omega) (by omega)]; omega), t4, n32_addl, e'', kb_s, if_pos kk8]
        refine ⟨_, g', rfl, f', fun e he => ?_, fun w he => ?_⟩
        · rw [ew] at he
          cases he
          exact x'
        · rw [ew] at he
          exact nomatch he
      · have ew : wNm (tyN h) n s = .inr (wvN (tyN h) (blE (tyN h) n s.1) (tkZ (tyN h) n s.1), tkZ (tyN h) n s.1, nxt (tyN h) n s) := by
          unfold wNm
          rw [if_neg (fun u => u y), if_neg hw, if_neg z]
        rw [if_pos (by rw [n32_lel (by omega) (by omega)]; omega), if_pos kk8]
        refine ⟨_, g, rfl, kfp.rf, fun e he => ?_, fun w he => ⟨rfl, t6⟩⟩
        rw [ew] at he
        exact nomatch he
    by_cases z : wI (tyN h) n s = 27
    · rw [if_pos z, if_pos (by decide)]
      exact b35 (by omega)
    · rw [if_neg z, if_neg (n32_nn (by omega))]
      by_cases u : 22 ≤ wI (tyN h) n s
      · rw [if_pos (by rw [n32_ler (by omega) (by omega)]; exact u)]
        exact b35 (by omega)
      · rw [if_neg (by rw [n32_ler (by omega) (by omega)]; exact u)]
        exact stop0 (by unfold wNm; rw [if_neg (fun u => u y), if_pos (by omega)])
  · rw [if_neg (by rw [n32_eql (by omega) (by omega)]; exact y)]
    exact stop0 (by unfold wNm; rw [if_pos y])
theorem own218 (g : KH) : f_X12_isOwnHere_b218 g 173 = some ((1 : Int32), g) := rfl
theorem own142 (g : KH) : f_X12_isOwnHere_b142 g 173 = some ((1 : Int32), g) := rfl
theorem own66 (g : KH) : f_X12_isOwnHere_b66 g 173 = some ((1 : Int32), g) := rfl
theorem m_isOwnHere {h g : KH} {n : Nat} {s : PS} (ht : Rtape h) (n16 : n ≤ 1600) (m : MdS h g n s) : f_X12_isOwnHere g 173 = some (if wI (tyN h) n s < 22 then 1 else 0, g) := by
  have rg := m.1.1
  obtain ⟨w, hw⟩ : ∃ w, wI (tyN h) n s = w := ⟨_, rfl⟩
  have H : ∀ j, j < 22 → f_X12_isHere g 173 (176 + j) = some (if w = j then 1 else 0, g) := fun j hj => by
    rw [← hw]
    exact m_isHereS ht n16 (m.1.2.2.2.w1 hj) m
  rw [hw]
  have b272 : f_X12_isOwnHere_b272 g = some ((1 : Int32), g) := rfl
  have b223 : f_X12_isOwnHere_b223 g 173 (0 : Int32) = some (if 18 ≤ w ∧ w < 22 then 1 else 0, g) := by
    unfold f_X12_isOwnHere_b223
    rw [if_pos rfl, if_pos kk173, rf173_28 rg, if_pos (show 194 < 999999 by omega), show f_X12_isHere g 173 194 = _ from H 18 (by omega), kb_s, if10, rf173_29 rg, if_pos (show 195 < 999999 by omega), show f_X12_isHere g 173 195 = _ from H 19 (by omega), kb_s, if10, rf173_30 rg, if_pos (show 196 < 999999 by omega), show f_X12_isHere g 173 196 = _ from H 20 (by omega), kb_s, if10, rf173_31 rg, if_pos (show 197 < 999999 by omega), show f_X12_isHere g 173 197 = _ from H 21 (by omega), kb_s, if10, b272]
    repeat' split
    all_goals first | rfl | omega
  have b147 : f_X12_isOwnHere_b147 g 173 (0 : Int32) = some (if 12 ≤ w ∧ w < 22 then 1 else 0, g) := by
    unfold f_X12_isOwnHere_b147
    rw [if_pos rfl, if_pos kk173, rf173_22 rg, if_pos (show 188 < 999999 by omega), show f_X12_isHere g 173 188 = _ from H 12 (by omega), kb_s, if10, rf173_23 rg, if_pos (show 189 < 999999 by omega), show f_X12_isHere g 173 189 = _ from H 13 (by omega), kb_s, if10, rf173_24 rg, if_pos (show 190 < 999999 by omega), show f_X12_isHere g 173 190 = _ from H 14 (by omega), kb_s, if10, rf173_25 rg, if_pos (show 191 < 999999 by omega), show f_X12_isHere g 173 191 = _ from H 15 (by omega), kb_s, if10, rf173_26 rg, if_pos (show 192 < 999999 by omega), show f_X12_isHere g 173 192 = _ from H 16 (by omega), kb_s, if10, rf173_27 rg, if_pos (show 193 < 999999 by omega), show f_X12_isHere g 173 193 = _ from H 17 (by omega), kb_s, if10, b223, own218]
    repeat' split
    all_goals first | rfl | omega
  have b71 : f_X12_isOwnHere_b71 g 173 (0 : Int32) = some (if 6 ≤ w ∧ w < 22 then 1 else 0, g) := by
    unfold f_X12_isOwnHere_b71
    rw [if_pos rfl, if_pos kk173, rf173_16 rg, if_pos (show 182 < 999999 by omega), show f_X12_isHere g 173 182 = _ from H 6 (by omega), kb_s, if10, rf173_17 rg, if_pos (show 183 < 999999 by omega), show f_X12_isHere g 173 183 = _ from H 7 (by omega), kb_s, if10, rf173_18 rg, if_pos (show 184 < 999999 by omega), show f_X12_isHere g 173 184 = _ from H 8 (by omega), kb_s, if10, rf173_19 rg, if_pos (show 185 < 999999 by omega), show f_X12_isHere g 173 185 = _ from H 9 (by omega), kb_s, if10, rf173_20 rg, if_pos (show 186 < 999999 by omega), show f_X12_isHere g 173 186 = _ from H 10 (by omega), kb_s, if10, rf173_21 rg, if_pos (show 187 < 999999 by omega), show f_X12_isHere g 173 187 = _ from H 11 (by omega), kb_s, if10, b147, own142]
    repeat' split
    all_goals first | rfl | omega
  unfold f_X12_isOwnHere
  rw [if_pos kk173, rf173_10 rg, if_pos (show 176 < 999999 by omega), show f_X12_isHere g 173 176 = _ from H 0 (by omega), kb_s, if10, rf173_11 rg, if_pos (show 177 < 999999 by omega), show f_X12_isHere g 173 177 = _ from H 1 (by omega), kb_s, if10, rf173_12 rg, if_pos (show 178 < 999999 by omega), show f_X12_isHere g 173 178 = _ from H 2 (by omega), kb_s, if10, rf173_13 rg, if_pos (show 179 < 999999 by omega), show f_X12_isHere g 173 179 = _ from H 3 (by omega), kb_s, if10, rf173_14 rg, if_pos (show 180 < 999999 by omega), show f_X12_isHere g 173 180 = _ from H 4 (by omega), kb_s, if10, rf173_15 rg, if_pos (show 181 < 999999 by omega), show f_X12_isHere g 173 181 = _ from H 5 (by omega), kb_s, if10, b71, own66]
  repeat' split
  all_goals first | rfl | omega
