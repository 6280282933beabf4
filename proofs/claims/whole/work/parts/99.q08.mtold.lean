/-! the model's part, as it was told -/
theorem wNum_nx {b : Nat → Nat} {n lo hi : Nat} {s : PS} {v : Nat × PS} (h : wNum b n lo hi s = .inr v) : v.2 = nxt b n s ∧ tkT b n s.1 s.2.1 = 3 ∧ v.1 ≤ hi := by
  unfold wNum at h
  by_cases a : tkT b n s.1 s.2.1 ≠ 3
  · rw [if_pos a] at h
    exact nomatch h
  · rw [if_neg a] at h
    by_cases c : 4 < tkZ b n s.1
    · rw [if_pos c] at h
      exact nomatch h
    · rw [if_neg c] at h
      by_cases d : tkV b n s.1 < lo ∨ hi < tkV b n s.1
      · rw [if_pos d] at h
        exact nomatch h
      · rw [if_neg d] at h
        cases h
        exact ⟨rfl, by omega, by omega⟩
theorem vcN_lt (L : Bool) (w : Nat) : vcN L w < 48 := by
  unfold vcN
  repeat' split
  all_goals omega
theorem m_told_end {h g g1 : KH} {n : Nat} {L : Bool} {w B : List Nat} {k c : Nat} {s0 s s2 : PS} {a : Nat} (n16 : n ≤ 1600) (q : Qd h g n L w B k a 0 s2) (wf : wfS w) (hc : s2.1 > s.1) (h0 : s0.1 ≤ s.1) (hl : s2.2.2.length + (w ++ B).length ≤ s.1) (F : PR) (hF : F = (dn (tyN h) n L w).1 k (pem c s2)) (f : kfp Wq2 g1 g) : ∃ g', f_X12_qPartTold_b237 g 173 173 (Int32.ofNat c) = some g' ∧ kfp Wq2 g1 g' ∧ ((∃ e, F = .inl e ∧ Qe h g' n 1601 e) ∨ ∃ w' k' a' s', Qd h g' n L w' B k' a' 0 s' ∧ wfS w' ∧ rkN w' ≤ 2 ∧ F = (dn (tyN h) n L w').1 k' s' ∧ s0.1 < s'.1) := by
  obtain ⟨g2, e2, f2, q2⟩ := m_qCode (c := c) n16 q (by omega)
  have q3 : Qd h g2 n L w B k a 0 (pem c s2) := q2.tight (by
    show (s2.2.2 ++ [c]).length + _ ≤ s2.1 + 0
    simp only [List.length_append, List.length_cons, List.length_nil] at hl ⊢
    omega)
  obtain ⟨g3, w3, k3, s3, e3, f3, q4, wf4, rk4, d4, p4, -⟩ := m_qEndsPart n16 q3 wf
  unfold f_X12_qPartTold_b237
  rw [if_pos kk173, e2, kb_s, if_pos kk173, e3, kb_s]
  exact ⟨g3, rfl, (f.tr f2).tr f3, Or.inr ⟨w3, k3, a, s3, q4, wf4, rk4, hF.trans d4, by rw [p4]; show s0.1 < s2.1; omega⟩⟩
theorem m_qPartTold {h g : KH} {n : Nat} {L : Bool} {w B : List Nat} {k a : Nat} {s : PS} (ht : Rtape h) (n16 : n ≤ 1600) (q : Qd h g n L w B k a 0 s) (wf : wfS w) (F : PR) (hF : F = pbd (lvP (tyN h) n L k s) ((dn (tyN h) n L w).1 k)) :
    ∃ g', f_X12_qPartTold g 173 = some g' ∧ kfp Wq2 g g' ∧ ((∃ e, F = .inl e ∧ Qe h g' n 1601 e) ∨ ∃ w' k' a' s', Qd h g' n L w' B k' a' 0 s' ∧ wfS w' ∧ rkN w' ≤ 2 ∧ F = (dn (tyN h) n L w').1 k' s' ∧ s.1 < s'.1) := by
  obtain ⟨g1, e1, f1, hh⟩ := m_partLoop ht n16 q wf F hF
  unfold f_X12_qPartTold
  rw [e1, kb_s]
  unfold f_X12_qPartTold_b186
  rcases hh with ⟨e, he, qe⟩ | ⟨w', k', s', q', wf', hF', sm, hs⟩
  · rw [if_pos kk173, if_neg qe.1.bad]
    exact ⟨g1, rfl, f1, Or.inl ⟨e, he, qe⟩⟩
  · have len := q'.len
    have m' : MdS h g1 n s' := q'.1
    rw [if_pos kk173, q'.1.2.2.1, if_pos rfl, m_qWord0 ht n16 m' q'.2.1, kb_s]
    dsimp only
    rw [lvP_c, prt_sim sm] at hF'
    by_cases v : vcN L (wI (tyN h) n s') = 0
    · simp only [if_pos v]
      rw [if_pos True.intro]
      rw [if_pos v] at hF'
      unfold f_X12_qPartTold_b212
      rw [if_pos rfl, if_pos kk173]
      obtain ⟨vv, g2, a2, e2, f2, m2, v2⟩ := m_number (lo := 0) (hi := 9999) ht n16 (by omega) (by omega) m'
      have e2' : f_X12_number g1 173 (0 : Int32) (9999 : Int32) = some (vv, g2) := e2
      rw [e2', kb_s]
      dsimp only
      cases hw : wNum (tyN h) n 0 9999 s' with
      | inl e =>
        rw [hw] at m2 hF'
        have m2' : Md h g2 n 0 (.inl e) := m2
        have c2 : kI g2 173 86 = Int32.ofNat s'.2.2.length := (f2.2.2.1 _ _ (by unfold Wmp; omega)).trans q'.2.2.1.1
        have e3 := m_qCodeR m2.1.1 c2 (by omega) ((1000 : Int32) + vv)
        obtain ⟨g3, eg3⟩ : ∃ g3, g3 = ksI (ksI g2 239 s'.2.2.length ((1000 : Int32) + vv)) 173 86 (Int32.ofNat (s'.2.2.length + 1)) := ⟨_, rfl⟩
        have f3 : kfp (fun l i => l = 239 ∨ (l = 173 ∧ i = 86)) g2 g3 := by rw [eg3]; exact (kfp.rf.sI _ (by omega)).sI _ (by omega)
        have m3 : Md h g3 n 0 (.inl e) := m2'.fp f3 fun l i z => by omega
        rw [← eg3] at e3
        unfold f_X12_qPartTold_b237
        rw [if_pos kk173, e3, kb_s, if_pos kk173, m_qEndsPart_bad m3, kb_s]
        exact ⟨g3, rfl, (f1.tr (f2.wide fun l i z => Or.inl z)).tr (f3.wide fun l i z => by unfold Wq2; omega), Or.inl ⟨e, hF', m3, s'.2.2.length + 1, by omega, by rw [eg3, kI_sI, if_pos ⟨rfl, rfl⟩]⟩⟩
      | inr r =>
        obtain ⟨v', s2⟩ := r
        obtain ⟨w1, w2, w3⟩ := wNum_nx hw
        have w1' : s2 = nxt (tyN h) n s' := w1
        have pos := nxt_pos (tyN h) len.2 (by rw [w2]; omega)
        rw [← w1'] at pos
        rw [hw] at m2 hF'
        have m2' : Md h g2 n a2 (.inr s2) := m2
        rw [v2 v' s2 hw, show (1000 : Int32) + Int32.ofNat v' = Int32.ofNat (1000 + v') from n32_add 1000 v']
        have q2 := q'.mv f2 m2' (by rw [w1']; rfl) (e' := 0) (by omega)
        exact m_told_end n16 q2 wf' (s := s') (s0 := s) (by omega) hs (by rw [w1']; exact len.1) F hF' (f1.tr (f2.wide fun l i z => Or.inl z))
    · simp only [if_neg v]
      rw [if_neg v] at hF'
      obtain ⟨j1, j2, j3⟩ := qj_vc v
      have w27 : wI (tyN h) n s' ≠ 27 := fun z => v (by rw [z]; exact vcN_27 L)
      have tw := wI_t (b := tyN h) (n := n) (s := s') w27
      have pos := nxt_pos (tyN h) len.2 (by rw [tw]; omega)
      rw [if_neg (by rw [n32_eqm (by omega)]; exact fun z => z)]
      obtain ⟨g2, a2, e2, f2, m2⟩ := m_qAsks (k := vcN L (wI (tyN h) n s') - 40) ht n16 m' (by omega)
      have em : pbd (.inr s') (wW (tyN h) n (qjN (vcN L (wI (tyN h) n s') - 40))) = .inr (nxt (tyN h) n s') := by
        rw [pbd_r, j1]
        unfold wW
        rw [if_pos rfl]
      rw [em] at m2
      rw [e2, kb_s]
      unfold f_X12_qPartTold_b212
      rw [if_neg (by rw [n32_eqm (by omega)]; exact fun z => z), show (40 : Int32) + Int32.ofNat (vcN L (wI (tyN h) n s') - 40) = Int32.ofNat (vcN L (wI (tyN h) n s')) from by rw [n32_addr]; congr 1; omega]
      have q2 := q'.mv f2 m2 rfl (e' := 0) (by omega)
      exact m_told_end n16 q2 wf' (s := s') (s0 := s) (by omega) hs len.1 F hF' (f1.tr (f2.wide fun l i z => Or.inl z))
