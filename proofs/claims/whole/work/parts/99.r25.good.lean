/-! a court that was read, on both sides; a court refused -/
theorem rtf_cg {L : Bool} {cd cd' : Nat → Nat} {i : Nat} {st : List Nat} : ∀ n, (∀ j, j < n → cd (i + j) = cd' (i + j)) → rtf L cd i n st = rtf L cd' i n st
  | 0, _ => rfl
  | n + 1, e => by rw [rtf, rtf, rtf_cg n (fun j hj => e j (by omega)), e n (by omega)]
theorem rtf_b {L : Bool} {cd : Nat → Nat} {n : Nat} {st s : List Nat} (h : rtf L cd 0 n st = some s) {i : Nat} (hi : i < n) : cd i ≤ 10999 := by
  obtain ⟨s1, e1⟩ := rtf_pre n h (i + 1) (by omega)
  obtain ⟨s2, -, e2, -⟩ := rtf_step e1
  rw [Nat.zero_add] at e2
  have := rty_cases e2
  omega
def RP (c : Nat) (h : KH) : Prop := RC h c ∧ Rnames h c ∧ Rrule h c ∧ Ryt h c ∧ RS h ∧ RK h ∧ Rpast h ∧ Rcoming h ∧ Rzero h ∧ Rans h ∧ Rwords h ∧ Rtape h ∧ Rref h ∧ Rseed h ∧ Rfault h ∧ Rimg h
def Wcf (c' l i : Nat) : Prop := l = 8 ∨ (l = 10 ∧ i = 2) ∨ (l = c' ∧ 3 ≤ i ∧ i ≤ 8) ∨ (c' + 2 ≤ l ∧ l ≤ c' + 20) ∨ (l = c' + 21 ∧ i = 2) ∨ l = c' + 22 ∨ l = c' + 25 ∨ (l = 1 ∧ i = 1) ∨ (l = 173 ∧ ((1 ≤ i ∧ i ≤ 8) ∨ i = 32 ∨ (42 ≤ i ∧ i ≤ 44) ∨ (86 ≤ i ∧ i ≤ 90))) ∨ (l = 198 ∧ i < 3) ∨ (l = 199 ∧ i < 18) ∨ (l = 200 ∧ i < 24) ∨ (l = 201 ∧ i < 6) ∨ (l = 202 ∧ i < 10) ∨ (l = 203 ∧ i < 2) ∨ (l = 204 ∧ i = 0) ∨ (l = 205 ∧ i = 0) ∨ (l = 206 ∧ i < 1600) ∨ l = 239 ∨ l = 240 ∨ l = 172 ∨ l = 175
theorem Wcf.k9 {c' l i : Nat} (z : l = 173 ∧ ((1 ≤ i ∧ i ≤ 8) ∨ i = 32 ∨ (42 ≤ i ∧ i ≤ 44) ∨ (86 ≤ i ∧ i ≤ 90))) : Wcf c' l i := Or.inr (Or.inr (Or.inr (Or.inr (Or.inr (Or.inr (Or.inr (Or.inr (Or.inl z))))))))
theorem Wcf.x {c' l i : Nat} (z : Wcl c' l i ∨ (l = 1 ∧ i = 1)) : Wcf c' l i := by
  rcases z with ((z | z | z | z | z | z) | z) | z
  · exact Or.inl z
  · exact Or.inr (Or.inl z)
  · exact Or.inr (Or.inr (Or.inl z))
  · exact Or.inr (Or.inr (Or.inr (Or.inl z)))
  · exact Or.inr (Or.inr (Or.inr (Or.inr (Or.inl z))))
  · exact Or.inr (Or.inr (Or.inr (Or.inr (Or.inr (Or.inl z)))))
  · exact Or.inr (Or.inr (Or.inr (Or.inr (Or.inr (Or.inr (Or.inl z))))))
  · exact Or.inr (Or.inr (Or.inr (Or.inr (Or.inr (Or.inr (Or.inr (Or.inl z)))))))
theorem Wcf.m {c' l i : Nat} (z : Wmc l i ∨ (l = 173 ∧ (i = 7 ∨ i = 8))) : Wcf c' l i := by
  rcases z with (z | z) | z
  · rcases z with z | z | z | z
    · rcases z with z | z | z | z | z | z
      · exact Wcf.k9 (by unfold Wmn Wmp at z; omega)
      · exact Or.inr (Or.inr (Or.inr (Or.inr (Or.inr (Or.inr (Or.inr (Or.inr (Or.inr (Or.inl z)))))))))
      · exact Or.inr (Or.inr (Or.inr (Or.inr (Or.inr (Or.inr (Or.inr (Or.inr (Or.inr (Or.inr (Or.inl z))))))))))
      · exact Or.inr (Or.inr (Or.inr (Or.inr (Or.inr (Or.inr (Or.inr (Or.inr (Or.inr (Or.inr (Or.inr (Or.inl z)))))))))))
      · exact Or.inr (Or.inr (Or.inr (Or.inr (Or.inr (Or.inr (Or.inr (Or.inr (Or.inr (Or.inr (Or.inr (Or.inr (Or.inl z))))))))))))
      · exact Or.inr (Or.inr (Or.inr (Or.inr (Or.inr (Or.inr (Or.inr (Or.inr (Or.inr (Or.inr (Or.inr (Or.inr (Or.inr (Or.inl z)))))))))))))
    · rcases z with z | z | z | z | z
      · rcases z with z | z | z | z
        · exact Wcf.k9 (by unfold Wmp at z; omega)
        · exact Wcf.k9 (by omega)
        · exact Or.inr (Or.inr (Or.inr (Or.inr (Or.inr (Or.inr (Or.inr (Or.inr (Or.inr (Or.inr (Or.inr (Or.inr (Or.inr (Or.inr (Or.inr (Or.inr (Or.inr (Or.inr (Or.inl z))))))))))))))))))
        · exact Or.inr (Or.inr (Or.inr (Or.inr (Or.inr (Or.inr (Or.inr (Or.inr (Or.inr (Or.inr (Or.inr (Or.inr (Or.inr (Or.inr (Or.inr (Or.inr (Or.inr (Or.inr (Or.inr (Or.inl z)))))))))))))))))))
      · exact Wcf.k9 (by omega)
      · exact Or.inr (Or.inr (Or.inr (Or.inr (Or.inr (Or.inr (Or.inr (Or.inr (Or.inr (Or.inr (Or.inr (Or.inr (Or.inr (Or.inr (Or.inr (Or.inl z)))))))))))))))
      · exact Or.inr (Or.inr (Or.inr (Or.inr (Or.inr (Or.inr (Or.inr (Or.inr (Or.inr (Or.inr (Or.inr (Or.inr (Or.inr (Or.inr (Or.inr (Or.inr (Or.inl z))))))))))))))))
      · exact Or.inr (Or.inr (Or.inr (Or.inr (Or.inr (Or.inr (Or.inr (Or.inr (Or.inr (Or.inr (Or.inr (Or.inr (Or.inr (Or.inr (Or.inr (Or.inr (Or.inr (Or.inl z)))))))))))))))))
    · exact Or.inr (Or.inr (Or.inr (Or.inr (Or.inr (Or.inr (Or.inr (Or.inr (Or.inr (Or.inr (Or.inr (Or.inr (Or.inr (Or.inr (Or.inl z))))))))))))))
    · exact Wcf.k9 (by omega)
  · exact Wcf.k9 (by omega)
  · exact Wcf.k9 (by omega)
def cpr (c c' : Nat) : Prop := (c = 12 ∧ c' = 38) ∨ (c = 38 ∧ c' = 12)
theorem court_bad {h h2 : KH} {c c' v : Nat} (rp : RP c h) (cc : cpr c c') (r2 : kRefs h2) (f : kfp (Wcf c') (ksR h 10 1 v) h2) (t : Rtape h2) (rf : Rref h2) (ff : Rfault h2) : RP c h2 := by
  obtain ⟨rc, rn, rr, ry, rs, rk, rpa, rcm, rz, ra, rwd, rt, rre, rsd, rfa, rim⟩ := rp
  have r0 := r10_of f r2
  have rc0 := rc.r10 r0
  have I : ∀ l i, ¬ Wcf c' l i → kI h2 l i = kI h l i := fun l i z => f.2.2.1 l i z
  have law : LawU h h2 := fun l i z => I _ _ (by unfold Wup at z; unfold Wcf; unfold cpr at cc; omega)
  have rn0 : Rnames (ksR h 10 1 v) c := rn
  have rr0 : Rrule (ksR h 10 1 v) c := rr
  have rs0 : RS (ksR h 10 1 v) := rs
  have rk0 : RK (ksR h 10 1 v) := rk
  have rp0 : Rpast (ksR h 10 1 v) := rpa
  have rz0 : Rzero (ksR h 10 1 v) := rz
  have ra0 : Rans (ksR h 10 1 v) := ra
  have rw0 : Rwords (ksR h 10 1 v) := rwd
  have rd0 : Rseed (ksR h 10 1 v) := rsd
  have ri0 : Rimg (ksR h 10 1 v) := rim
  unfold cpr at cc
  refine ⟨rc0.fp f fun l i z w => ?_, rn0.fp f rc0.2.2.2.1 fun l i z w => ?_, rr0.fp f fun l i z w => ?_, ry.up law fun i => I _ _ fun w => ?_, rs0.fp f fun l i z w => ?_, rk0.fp f fun l i z w => ?_, rp0.fp f fun l i z w => ?_, rcm.up law fun l i z => I _ _ fun w => ?_, rz0.fp f fun l i z w => ?_, ra0.fp f fun l i z w => ?_, rw0.fp f fun l i z w => ?_, t, rf, rd0.fp f fun l i z w => ?_, ff, ri0.fp f fun l i z w => ?_⟩
  · unfold Wct at z; unfold Wcf at w; omega
  · unfold Wcf at w; omega
  · unfold Wcf at w; omega
  · unfold Wcf at w; omega
  · unfold Wcf at w; omega
  · unfold Wcf at w; omega
  · unfold Wcf at w; omega
  · unfold Wcf at w; omega
  · unfold Wcf at w; omega
  · unfold Wcf at w; omega
  · unfold Wcf at w; omega
  · unfold Wseed at z; unfold Wcf at w; omega
  · unfold Wcf at w; omega
/-- what was read stands alike on both sides -/
theorem court_rows {h : KH} {c : Nat} {C : CTy} (r : kRefs h) (hc : ctc c) (h5 : kR h 0 5 = c) (cx : Cx h c C) (cs : Cs h C) (wf : wfB C) (z25 : ∀ i, i < 600 → kI h (c + 25) i = 0) : RC h c ∧ Rnames h c ∧ Rrule h c ∧ Ryt h c := by
  obtain ⟨x1, x2, ⟨x3, x4⟩, x5⟩ := cx
  obtain ⟨s1, s2, ⟨s3, s4⟩, s5⟩ := cs
  obtain ⟨w1, w2, ⟨w3, w4, w5⟩, w6⟩ := wf
  have n0 : (sel C 0).length ≤ 6 := w1 0 (by omega)
  have n1 : (sel C 1).length ≤ 6 := w1 1 (by omega)
  have n2 : (sel C 2).length ≤ 5 := w1 2 (by omega)
  have a0 : kI h 198 3 = Int32.ofNat (sel C 0).length := s1 0 (by omega)
  have a1 : kI h 198 4 = Int32.ofNat (sel C 1).length := s1 1 (by omega)
  have a2 : kI h 198 5 = Int32.ofNat (sel C 2).length := s1 2 (by omega)
  have k0 := kN_of a0 (by omega)
  have k1 := kN_of a1 (by omega)
  have k2 := kN_of a2 (by omega)
  have k3 := kN_of s3 (by omega)
  have kf : ∀ s, s < 3 → kN h 198 (3 + s) = (sel C s).length := fun s hs => kN_of (s1 s hs) (by have := w1 s hs; unfold mxS at this; split at this <;> omega)
  refine ⟨⟨r, hc, h5, ⟨⟨cn_of a0 n0 (by omega), (x1 0 (by omega)).trans a0.symm⟩, ⟨cn_of a1 n1 (by omega), (x1 1 (by omega)).trans a1.symm⟩, ⟨cn_of a2 n2 (by omega), (x1 2 (by omega)).trans a2.symm⟩, ⟨cn_of s3 w4 (by omega), by rw [k3]; exact w3, x3.trans s3.symm⟩, cn_of s4 w5 (by omega), x4.trans s4.symm⟩, fun k hk j hj => ?_, fun t ht => ?_, fun m hm j hj => ?_⟩, fun s hs k hk => ?_, ?_, fun _ t ht x hx => Or.inl (z25 _ ?_)⟩
  · rw [k0] at hk
    have wr := w2 0 (by omega) _ (row_mem hk)
    have e1 : kI h 200 (24 + (4 * k + j)) = Int32.ofNat (((sel C 0).getD k (0, 0, [])).2.2.getD j 0) := (s2 0 (by omega) k hk).2 j hj
    rw [← Nat.add_assoc] at e1
    have e2 : kI h (c + 2 + k) (j + 1) = Int32.ofNat (((sel C 0).getD k (0, 0, [])).2.2.getD j 0) := (x2 0 (by omega) k hk).2 j (by rw [wr.2.1]; exact hj)
    have b := (wr.2.2 j hj).2
    have bb : ((spS 0).getD j (0, 0, 0)).2.2 = if j < 2 then 99 else 9 := by
      have ej : j = 0 ∨ j = 1 ∨ j = 2 ∨ j = 3 := by omega
      rcases ej with rfl | rfl | rfl | rfl <;> rfl
    rw [bb] at b
    exact ⟨cn_of e1 b (by split <;> omega), e2.trans e1.symm⟩
  · rw [k1] at ht
    have wr := w2 1 (by omega) _ (row_mem ht)
    have e1 : kI h 201 (6 + (1 * t + 0)) = Int32.ofNat (((sel C 1).getD t (0, 0, [])).2.2.getD 0 0) := (s2 1 (by omega) t ht).2 0 (by show 0 < 1; omega)
    rw [Nat.add_zero, Nat.one_mul] at e1
    have e2 : kI h (c + 9 + t) 1 = Int32.ofNat (((sel C 1).getD t (0, 0, [])).2.2.getD 0 0) := (x2 1 (by omega) t ht).2 0 (by rw [wr.2.1]; show 0 < 1; omega)
    have b : ((sel C 1).getD t (0, 0, [])).2.2.getD 0 0 ≤ 99 := (wr.2.2 0 (by show 0 < 1; omega)).2
    exact ⟨cn_of e1 b (by omega), e2.trans e1.symm⟩
  · rw [k2] at hm
    have wr := w2 2 (by omega) _ (row_mem hm)
    have e1 : kI h 202 (10 + (2 * m + j)) = Int32.ofNat (((sel C 2).getD m (0, 0, [])).2.2.getD j 0) := (s2 2 (by omega) m hm).2 j hj
    rw [← Nat.add_assoc] at e1
    have e2 : kI h (c + 16 + m) (j + 1) = Int32.ofNat (((sel C 2).getD m (0, 0, [])).2.2.getD j 0) := (x2 2 (by omega) m hm).2 j (by rw [wr.2.1]; exact hj)
    have b := wr.2.2 j hj
    have bb : ((spS 2).getD j (0, 0, 0)).2 = (1, 9) := by
      have ej : j = 0 ∨ j = 1 := by omega
      rcases ej with rfl | rfl <;> rfl
    rw [bb] at b
    dsimp only at b
    exact ⟨cn_of e1 b.2 (by omega), by rw [kN_of e1 (by have := b.2; omega)]; exact b.1, e2.trans e1.symm⟩
  · rw [kf s hs] at hk
    have wr := w2 s hs _ (row_mem hk)
    refine ⟨_, _, wr.1, ?_, (x2 s hs k hk).1⟩
    rw [Nat.add_assoc]
    exact (s2 s hs k hk).1
  · cases hC : C.2.2 with
    | none =>
      rw [hC] at x5 s5
      exact Or.inl ⟨x5, s5⟩
    | some d =>
      rw [hC] at x5 s5
      obtain ⟨d16, dt⟩ := w6 d hC
      have rt := rtf_rtl dt
      have ec : ∀ i, i < d.length → cdY h i = d.getD i 0 := fun i hi => kN_of (s5.2.2 i hi) (by have := rtf_b rt hi; omega)
      refine Or.inr ⟨x5.1, s5.1, d.length, d16, s5.2.1, x5.2.1, fun i hi => ⟨cn_of (s5.2.2 i hi) (rtf_b rt hi) (by omega), ?_⟩, ?_⟩
      · rw [ec i hi]
        exact x5.2.2 i hi
      · rw [rtf_cg (cd' := fun i => d.getD i 0) d.length fun j hj => by rw [Nat.zero_add]; exact ec j hj]
        exact rt
  · rw [k1] at ht
    omega
/-- a state of zeros -/
theorem state0 {h : KH} (m : ∀ i, i < 185 → kI h 207 i = 0) (a : ∀ i, i < 3 → kI h 64 i = 0) (b : ∀ t, t < 6 → kI h 65 t = 0 ∧ kI h 66 t = 0) (d : ∀ i, i < 10 → kI h 67 i = 0) : RS h ∧ RK h := by
  have mz : ∀ i, i < 185 → ∀ b, b < 2147483648 → cn h 207 i b := fun i hi b hb => cn_of (n := 0) (m i hi) (Nat.zero_le _) hb
  have mk : ∀ i, i < 185 → kN h 207 i = 0 := fun i hi => kN_of (n := 0) (m i hi) (by omega)
  have k2 : kN h 64 2 = 0 := kN_of (n := 0) (a 2 (by omega)) (by omega)
  refine ⟨⟨⟨mz _ (by omega) _ (by omega), (a 0 (by omega)).trans (m _ (by omega)).symm⟩, ⟨mz _ (by omega) _ (by omega), (a 1 (by omega)).trans (m _ (by omega)).symm⟩, fun t ht => ⟨⟨mz _ (by omega) _ (by omega), (b t ht).1.trans (m _ (by omega)).symm⟩, ⟨mz _ (by omega) _ (by omega), (b t ht).2.trans (m _ (by omega)).symm⟩, fun _ => ⟨mk _ (by omega), mk _ (by omega)⟩⟩, fun i hi => ⟨mz _ (by omega) _ (by omega), (d i hi).trans (m _ (by omega)).symm, fun _ => mk _ (by omega)⟩⟩, ⟨cn_of (n := 0) (a 2 (by omega)) (Nat.zero_le _) (by omega), by rw [k2]; exact Nat.zero_le _⟩, ?_, fun j hj => ?_⟩
  · rw [k2]
    exact m 24 (by omega)
  · rw [k2] at hj
    omega
