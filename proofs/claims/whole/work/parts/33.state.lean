/-! a State at v: times v+1, answers v+2, looks v+3 -/
def St (h : KH) (v : Nat) : Prop := (kkind v = 8 ∧ kR h v 3 = v + 1 ∧ kR h v 4 = v + 2 ∧ kR h v 5 = v + 3) ∧ (kkind (v + 1) = 20 ∧ klen (v + 1) = 6) ∧ (kkind (v + 2) = 20 ∧ klen (v + 2) = 6) ∧ (kkind (v + 3) = 20 ∧ klen (v + 3) = 10) ∧ v < 200
theorem St.same {h h' : KH} {v : Nat} (s : St h v) (hr : ∀ l i, kR h' l i = kR h l i) : St h' v := by
  unfold St
  rw [hr, hr, hr]
  exact s
theorem St.fp {W : Nat → Nat → Prop} {h h' : KH} {v : Nat} (s : St h v) (x : kfp W h h') : St h' v := s.same x.2.1
theorem St64 {h : KH} (hr : kRefs h) : St h 64 := ⟨⟨kk64, rf64_3 hr, rf64_4 hr, rf64_5 hr⟩, ⟨kk65, kn65⟩, ⟨kk66, kn66⟩, ⟨kk67, kn67⟩, by omega⟩
theorem St68 {h : KH} (hr : kRefs h) : St h 68 := ⟨⟨kk68, rf68_3 hr, rf68_4 hr, rf68_5 hr⟩, ⟨kk69, kn69⟩, ⟨kk70, kn70⟩, ⟨kk71, kn71⟩, by omega⟩
theorem St158 {h : KH} (hr : kRefs h) : St h 158 := ⟨⟨kk158, rf158_3 hr, rf158_4 hr, rf158_5 hr⟩, ⟨kk159, kn159⟩, ⟨kk160, kn160⟩, ⟨kk161, kn161⟩, by omega⟩
def xforget (h : KH) (v : Nat) : KH := kfill (kfill h (v + 2) 0 6) (v + 3) 0 10
theorem x_forgetCase {h : KH} {v : Nat} (s : St h v) : f_X8_forgetCase h v = some (xforget h v) := by
  obtain ⟨⟨k0, r3, r4, r5⟩, ⟨k1, n1⟩, ⟨k2, n2⟩, ⟨k3, n3⟩, hv⟩ := id s
  unfold f_X8_forgetCase
  have r5' : kR (kfill h (v + 2) 0 6) v 5 = v + 3 := ((kfill_fp h (v + 2) 0 6).2.1 v 5).trans r5
  rw [if_pos k0, r4, if_pos (by omega), x_fill k2 n2 (by omega), kb_s, r5', if_pos (by omega), x_fill k3 n3 (by omega), kb_s]
  rfl
theorem xforget_fp (h : KH) (v : Nat) : kfp (fun a _ => a = v + 2 ∨ a = v + 3) h (xforget h v) :=
  ((kfill_fp h (v + 2) 0 6).wide fun a b z => Or.inl z.1).tr ((kfill_fp _ (v + 3) 0 10).wide fun a b z => Or.inr z.1)
def xclear (h : KH) (v : Nat) : KH := xforget (kfill (ksI (ksI (ksI h v 0 0) v 1 0) v 2 0) (v + 1) 0 6) v
theorem x_clear {h : KH} {v : Nat} (s : St h v) : f_X8_clear h v = some (xclear h v) := by
  obtain ⟨⟨k0, r3, r4, r5⟩, ⟨k1, n1⟩, ⟨k2, n2⟩, ⟨k3, n3⟩, hv⟩ := id s
  unfold f_X8_clear
  have s3 : St (ksI (ksI (ksI h v 0 0) v 1 0) v 2 0) v := s.same fun _ _ => rfl
  have r3' : kR (ksI (ksI (ksI h v 0 0) v 1 0) v 2 0) v 3 = v + 1 := r3
  rw [if_pos k0, kl_e, kl_e, kl_e, r3', if_pos (by omega), x_fill k1 n1 (by omega), kb_s, x_forgetCase (s3.fp (kfill_fp _ _ _ _)), kb_s]
  rfl
theorem xclear_fp (h : KH) (v : Nat) : kfp (fun a b => (a = v ∧ b < 3) ∨ a = v + 1 ∨ a = v + 2 ∨ a = v + 3) h (xclear h v) := by
  have f1 : kfp (fun a b => (a = v ∧ b < 3) ∨ a = v + 1 ∨ a = v + 2 ∨ a = v + 3) h (ksI (ksI (ksI h v 0 0) v 1 0) v 2 0) := ((kfp.rf.sI _ (Or.inl ⟨rfl, by omega⟩)).sI _ (Or.inl ⟨rfl, by omega⟩)).sI _ (Or.inl ⟨rfl, by omega⟩)
  exact (f1.tr ((kfill_fp _ (v + 1) 0 6).wide fun a b z => Or.inr (Or.inl z.1))).tr ((xforget_fp _ v).wide fun a b z => Or.inr (Or.inr z))
