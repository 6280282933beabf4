/-! the model: full or not; a name added -/
theorem m_adds {g : KH} (rg : kRefs g) {t k : Nat} (ht : t < 3) (hk : k < 6) (e : kI g 198 t = Int32.ofNat k) (v : Int64) : f_X12_adds g 173 (Int32.ofNat t) v = some (Int32.ofNat k, ksI (ksL g 199 (6 * t + k) v) 198 t (Int32.ofNat (k + 1))) := by
  have r1 : kRefs (ksL g 199 (6 * t + k) v) := rg.sL _ _ _
  have r2 : kRefs (ksI (ksL g 199 (6 * t + k) v) 198 t (Int32.ofNat (k + 1))) := r1.sI _ _ _
  have e1 : kI (ksL g 199 (6 * t + k) v) 198 t = Int32.ofNat k := by rw [kI_sL]; exact e
  have e2 : kI (ksI (ksL g 199 (6 * t + k) v) 198 t (Int32.ofNat (k + 1))) 198 t = Int32.ofNat (k + 1) := by rw [kI_sI, if_pos ⟨rfl, rfl⟩]
  unfold f_X12_adds
  rw [if_pos kk173, rf173_34 rg, if_pos (show 199 < 999999 by omega), rf173_33 rg, if_pos (show 198 < 999999 by omega), if_pos kk198, kn198, if_neg (by rw [n32_cl (by omega)]; exact fun z => z.elim (n32_nn (by omega)) (by omega)), n32_cl (show t < 2147483648 by omega), e, if_pos kk199, kn199, n32_mulr, n32_add, if_neg (by rw [n32_cl (by omega)]; exact fun z => z.elim (n32_nn (by omega)) (by omega)), n32_cl (show 6 * t + k < 2147483648 by omega), kl_e, rf173_33 r1, if_pos (show 198 < 999999 by omega), if_pos kk198, kn198, if_neg (fun z => z.elim (n32_nn (by omega)) (by omega)), e1, n32_addl, kl_e, rf173_33 r2, if_pos (show 198 < 999999 by omega), if_pos kk198, kn198, if_neg (fun z => z.elim (n32_nn (by omega)) (by omega)), e2, n32_subl (by omega)]
  rfl
