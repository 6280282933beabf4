/-! the class reads a COURT's text -/
def Wcl (c l i : Nat) : Prop := Wcr c l i ∨ l = c + 25
theorem x_courtClear {h : KH} {c : Nat} (hr : kRefs h) (hc : ctc c) : ∃ g, f_X2_clear h c = some g ∧ kfp (Wcl c) h g ∧ Cx g c CT0 ∧ wfC CT0 ∧ ∀ i, i < 600 → kI g (c + 25) i = 0 := by
  have cc : c + 25 < 100 ∧ 12 ≤ c := by rcases hc with rfl | rfl <;> omega
  obtain ⟨g1, eg1⟩ : ∃ g1, g1 = ksI (ksI (ksI (ksI (ksI (ksI h c 3 (0 : Int32)) c 4 (0 : Int32)) c 5 (0 : Int32)) c 6 (50 : Int32)) c 7 (1000 : Int32)) c 8 (0 : Int32) := ⟨_, rfl⟩
  have f1 : kfp (Wcl c) h g1 := by
    rw [eg1]
    exact (((((kfp.rf.sI _ (Or.inl (by unfold Wcr; omega))).sI _ (Or.inl (by unfold Wcr; omega))).sI _ (Or.inl (by unfold Wcr; omega))).sI _ (Or.inl (by unfold Wcr; omega))).sI _ (Or.inl (by unfold Wcr; omega))).sI _ (Or.inl (by unfold Wcr; omega))
  have r1 := hr.fp f1
  obtain ⟨k1, k2⟩ := (ct_kc hc).2.2.2.2.2.2.2
  have f2 := kfill_fp g1 (c + 25) 0 600
  have v3 : kI g1 c 3 = 0 := by rw [eg1]; simp only [kI_sI]; simp
  have v4 : kI g1 c 4 = 0 := by rw [eg1]; simp only [kI_sI]; simp
  have v5 : kI g1 c 5 = 0 := by rw [eg1]; simp only [kI_sI]; simp
  have v6 : kI g1 c 6 = 50 := by rw [eg1]; simp only [kI_sI]; simp
  have v7 : kI g1 c 7 = 1000 := by rw [eg1]; simp only [kI_sI]; simp
  have v8 : kI g1 c 8 = 0 := by rw [eg1]; simp only [kI_sI]; simp
  have I : ∀ i, kI (kfill g1 (c + 25) 0 600) c i = kI g1 c i := fun i => f2.2.2.1 _ _ (by omega)
  have l0 : ∀ s, (sel CT0 s).length = 0 := fun s => by
    unfold sel CT0
    split
    · rfl
    · split <;> rfl
  refine ⟨kfill g1 (c + 25) 0 600, ?_, f1.tr (f2.wide fun l i z => Or.inr z.1), ⟨fun s hs => ?_, fun s hs k hk => ?_, ⟨(I 6).trans v6, (I 7).trans v7⟩, (I 8).trans v8⟩, ⟨fun s hs => ?_, fun s hs r hr => ?_⟩, fun i hi => ?_⟩
  · unfold f_X2_clear
    rw [if_pos (ct_kk hc)]
    simp only [kl_e]
    rw [← eg1, (ct_r r1 hc).2.2.2.2.2, if_pos (show c + 25 < 999999 by omega), x_fill k1 k2 (by omega), kb_s]
  · rw [l0]
    have e : s = 0 ∨ s = 1 ∨ s = 2 := by omega
    rcases e with rfl | rfl | rfl
    · exact (I 3).trans v3
    · exact (I 4).trans v4
    · exact (I 5).trans v5
  · rw [l0] at hk
    omega
  · rw [l0]
    omega
  · have e : sel CT0 s = [] := List.eq_nil_of_length_eq_zero (l0 s)
    rw [e] at hr
    exact absurd hr (by simp)
  · rw [kfill_I, if_pos ⟨rfl, hi⟩]
theorem Xs.kR {h g : KH} {n c : Nat} {R : (Nat × Nat) ⊕ (CTy × PS)} (x : Xs h g n c R) : kRefs g := by
  cases R with
  | inl e => exact x.1.1.1
  | inr p => exact x.1.1.1
theorem x_readInto {h : KH} {n c : Nat} (hr : kRefs h) (ht : Rtape h) (rw0 : Rwords h) (n16 : n ≤ 1600) (hn : kI h 1 1 = Int32.ofNat n) (hc : ctc c) : ∃ m g', f_X3_readInto h 11 c = some (Int32.ofNat m, g') ∧ kfq (Wcl c) h g' ∧ (∀ e, cts (tyN h) n 60 0 CT0 s00 = .inl e → Rx h g' n (.inl e)) ∧ (∀ r, cts (tyN h) n 60 0 CT0 s00 = .inr r → r.1 = m ∧ Cx g' c r.2 ∧ wfC r.2 ∧ kI g' 8 7 = 0 ∧ kI g' 8 8 = -1) ∧ (∀ i, i < 600 → kI g' (c + 25) i = 0) ∧ kRefs g' := by
  have cc : c + 25 < 100 ∧ 12 ≤ c := by rcases hc with rfl | rfl <;> omega
  obtain ⟨g0, e0, f0, cx0, wf0, z0⟩ := x_courtClear hr hc
  have r0 := hr.fp f0
  have I : ∀ l i, l = 1 ∨ l = 2 ∨ l = 9 → kI g0 l i = kI h l i := fun l i z => f0.2.2.1 _ _ (by unfold Wcl Wcr; omega)
  have xr : Xr h g0 n := ⟨r0, (I _ _ (by omega)).trans hn, fun i => I _ _ (by omega), fun j hj => (I _ _ (by omega)).trans (rw0.1 j hj)⟩
  obtain ⟨g1, e1, f1, x1⟩ := x_begin ht n16 xr []
  have r1 := x1.1.1
  have cx1 := cx0.fp f1 (fun l i z w => by omega) wf0
  have xs1 : Xs h g1 n c (.inr (CT0, s00)) := ⟨x1, cx1, wf0⟩
  obtain ⟨r, e2, m, R, m60, p1, p2, p3, p4⟩ := x_ctsLoop ht n16 hc xs1
  obtain ⟨r1', q⟩ := r
  dsimp only at p1 p2 p3
  subst p1
  obtain ⟨g', e3, f3, k1, k2⟩ := x_ctsEnd (m := m) ht n16 hc p3
  rw [p4] at k1 k2
  have F : kfq (Wcl c) h g' := ((f0.q).tr (f1.wide fun l i z => Or.inl (Or.inl z) : kfp (Wcl c) g0 g1).q).tr ((p2.wide fun l i z => Or.inl z).tr (f3.wide fun l i z => Or.inl z : kfp (Wcl c) q g').q)
  refine ⟨m, g', ?_, F, k1, k2, fun i hi => ?_, p3.kR.fp f3⟩
  · unfold f_X3_readInto
    rw [if_pos (ct_kk hc), e0, kb_s, if_pos kk11, rf11_0 r0, if_pos (show 8 < 999999 by omega), if_pos kk8, e1, kb_s, e2, kb_s]
    exact e3
  · rw [f3.2.2.1 _ _ (by unfold Wcr; omega), p2.I (by unfold Wcr; omega), f1.2.2.1 _ _ (by omega)]
    exact z0 i hi
