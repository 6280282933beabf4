/-! the past stays when only scratch changes -/
theorem Rpast.fp {W : Nat → Nat → Prop} {h h' : KH} (p : Rpast h) (x : kfp W h h') (hd : ∀ l i, (64 ≤ l ∧ l ≤ 67) ∨ (72 ≤ l ∧ l ≤ 154) ∨ l = 217 ∨ (l = 173 ∧ (i = 61 ∨ i = 62)) ∨ (l = 198 ∧ 3 ≤ i) → ¬ W l i) : Rpast h' := by
  obtain ⟨n, a, n20, a20, e1, e2, e3, e4, f⟩ := p
  have I : ∀ l i, (64 ≤ l ∧ l ≤ 67) ∨ (72 ≤ l ∧ l ≤ 154) ∨ l = 217 ∨ (l = 173 ∧ (i = 61 ∨ i = 62)) ∨ (l = 198 ∧ 3 ≤ i) → kI h' l i = kI h l i := fun l i z => x.2.2.1 l i (hd l i z)
  refine ⟨n, a, n20, a20, (I _ _ (by omega)).trans e1, (I _ _ (by omega)).trans e2, (I _ _ (by omega)).trans e3, (I _ _ (by omega)).trans e4, fun k k1 k2 => ?_⟩
  obtain ⟨s, t, u, v⟩ := f k k1 k2
  have ps : ∀ j, 75 ≤ psl a j ∧ psl a j + 3 ≤ 154 := fun j => by
    unfold psl
    have := Nat.mod_lt (a + 20 - j) (show 0 < 20 by omega)
    omega
  have pk := ps k
  have pr : kN h' (ppr a k) 2 = kN h (ppr a k) 2 := by
    unfold ppr
    by_cases y : k = 1
    · rw [if_pos y]; exact kN_same (I _ _ (by omega))
    · rw [if_neg y]
      have := ps (k - 1)
      exact kN_same (I _ _ (by omega))
  have pl : kN h' (psl a k) 2 = kN h (psl a k) 2 := kN_same (I _ _ (by omega))
  have b : Bsame h h' (psl a k) (psl a k) 217 217 (pso a k) (pso a k) :=
    ⟨fun i hi => I _ _ (by omega), fun t ht => ⟨I _ _ (by omega), I _ _ (by omega)⟩, fun i hi => I _ _ (by omega), fun i hi => I _ _ (by omega), I _ _ (by omega), I _ _ (by omega)⟩
  exact ⟨s.move b, t.move b fun j hj i hi => I _ _ (by omega), by rw [pl, pr]; exact u, by rw [pl, pr]; exact v⟩
theorem Rpast.sc {h h' : KH} (p : Rpast h) (x : kfp Wscr h h') : Rpast h' := p.fp x fun l i z => by unfold Wscr; omega
theorem RK.sc {h h' : KH} (p : RK h) (x : kfp Wscr h h') : RK h' := p.fp x fun l i z => by unfold Wscr; omega
/-- how a call ends that works with scratch and acts, or refuses -/
def AftH (h h' : KH) (c : Nat) : Prop := Ryt h' c ∧ Rzero h' ∧ ((kfp (fun l i => Wscr l i ∨ Wref l i) h h' ∧ Rref h') ∨ (RS h' ∧ RK h' ∧ Rpast h' ∧ kI h' 155 3 = 0 ∧ kfp (fun l i => Wscr l i ∨ Wact l i) h h'))
theorem aftH_ref {h q q' : KH} {c : Nat} (hc : ctc c) (hf : Rref h) (s : Scr h q c) (s2 : Scr (ksI q 172 2 (kI q 172 2 + 1)) q' c) : AftH h (ksI q' 175 2 (kI q' 175 2 + 1)) c := by
  have F1 : kfp (fun l i => Wscr l i ∨ Wref l i) h (ksI q 172 2 (kI q 172 2 + 1)) := (s.1.wide fun l i z => Or.inl z).sI _ (Or.inr (Or.inl rfl))
  have F2 : kfp (fun l i => Wscr l i ∨ Wref l i) h q' := F1.tr (s2.1.wide fun l i z => Or.inl z)
  have f3 : kfp (fun l _ => l = 175) q' (ksI q' 175 2 (kI q' 175 2 + 1)) := kfp.rf.sI _ rfl
  refine ⟨s2.2.1.fp f3 fun l i z w => ?_, s2.2.2.fp f3 fun l i z w => by omega, Or.inl ⟨F2.sI _ (Or.inr (Or.inr rfl)), fun j hj => ?_⟩⟩
  · unfold Wlw at z
    have := hc.lt
    rcases hc with rfl | rfl <;> omega
  · have e := hf j hj
    have a2 : kI q' 172 j = kI (ksI q 172 2 (kI q 172 2 + 1)) 172 j := s2.1.2.2.1 _ _ (by unfold Wscr; omega)
    have b2 : ∀ i, kI q' 175 i = kI q 175 i := fun i => by rw [s2.1.2.2.1 _ _ (by unfold Wscr; omega), kI_sI, if_neg (by omega)]
    have a0 : ∀ i, kI q 172 i = kI h 172 i := fun i => s.1.2.2.1 _ _ (by unfold Wscr; omega)
    have b0 : ∀ i, kI q 175 i = kI h 175 i := fun i => s.1.2.2.1 _ _ (by unfold Wscr; omega)
    rw [kI_sI, if_neg (by omega), a2, kI_sI, kI_sI, a0, b2, b0]
    by_cases y : j = 2
    · have e2 := hf 2 (by omega)
      rw [if_pos ⟨rfl, y⟩, if_pos ⟨rfl, y⟩, e2]
    · rw [if_neg (fun z => y z.2), if_neg (fun z => y z.2), a0, b2, b0, e]
