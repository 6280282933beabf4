/-! a State copied -/
theorem kcp_I (h : KH) (l0 sp l1 dp n a b : Nat) : kI (kcp h l0 sp l1 dp n) a b = if a = l1 ∧ dp ≤ b ∧ b < dp + n then kI h l0 (sp + (b - dp)) else kI h a b := rfl
theorem kcp_fp (h : KH) (l0 sp l1 dp n : Nat) : kfp (fun a _ => a = l1) h (kcp h l0 sp l1 dp n) :=
  ⟨rfl, fun _ _ => rfl, fun a b z => by rw [kcp_I, if_neg (fun y => z y.1)], fun _ _ _ => rfl⟩
def xcopy (h : KH) (v w : Nat) : KH := kcp (kcp (kcp (ksI (ksI (ksI h v 0 (kI h w 0)) v 1 (kI (ksI h v 0 (kI h w 0)) w 1)) v 2 (kI (ksI (ksI h v 0 (kI h w 0)) v 1 (kI (ksI h v 0 (kI h w 0)) w 1)) w 2)) (w + 1) 0 (v + 1) 0 6) (w + 2) 0 (v + 2) 0 6) (w + 3) 0 (v + 3) 0 10
theorem x_copyFrom {h : KH} {v w : Nat} (s : St h v) (u : St h w) : f_X8_copyFrom h v w = some (xcopy h v w) := by
  obtain ⟨⟨k0, r3, r4, r5⟩, ⟨k1, n1⟩, ⟨k2, n2⟩, ⟨k3, n3⟩, hv⟩ := id s
  obtain ⟨⟨k0', r3', r4', r5'⟩, ⟨k1', n1'⟩, ⟨k2', n2'⟩, ⟨k3', n3'⟩, hv'⟩ := id u
  have c0 : (0 : Int32).toNatClampNeg = 0 := rfl
  have c6 : (6 : Int32).toNatClampNeg = 6 := rfl
  have c10 : (10 : Int32).toNatClampNeg = 10 := rfl
  have d0 : ¬ (0 : Int32) < 0 := by decide
  have d6 : ¬ (6 : Int32) < 0 := by decide
  have d10 : ¬ (10 : Int32) < 0 := by decide
  unfold f_X8_copyFrom
  rw [if_pos k0', if_pos k0, kl_e, kl_e, kl_e]
  generalize hh : ksI (ksI (ksI h v 0 (kI h w 0)) v 1 (kI (ksI h v 0 (kI h w 0)) w 1)) v 2 (kI (ksI (ksI h v 0 (kI h w 0)) v 1 (kI (ksI h v 0 (kI h w 0)) w 1)) w 2) = g
  have hg : ∀ l i, kR g l i = kR h l i := fun l i => by rw [← hh]; rfl
  have p3 : kR g v 3 = v + 1 := (hg v 3).trans r3
  have q3 : kR g w 3 = w + 1 := (hg w 3).trans r3'
  rw [p3, q3, if_pos (by omega), if_pos (by omega), if_pos k1', if_pos k1, n1, n1', c0, c6, if_pos ⟨d0, d0, d6, by omega, by omega⟩, kl_e]
  have p4 : kR (kcp g (w + 1) 0 (v + 1) 0 6) v 4 = v + 2 := (hg v 4).trans r4
  have q4 : kR (kcp g (w + 1) 0 (v + 1) 0 6) w 4 = w + 2 := (hg w 4).trans r4'
  rw [p4, q4, if_pos (by omega), if_pos (by omega), if_pos k2', if_pos k2, n2, n2', if_pos ⟨d0, d0, d6, by omega, by omega⟩, kl_e]
  have p5 : kR (kcp (kcp g (w + 1) 0 (v + 1) 0 6) (w + 2) 0 (v + 2) 0 6) v 5 = v + 3 := (hg v 5).trans r5
  have q5 : kR (kcp (kcp g (w + 1) 0 (v + 1) 0 6) (w + 2) 0 (v + 2) 0 6) w 5 = w + 3 := (hg w 5).trans r5'
  rw [p5, q5, if_pos (by omega), if_pos (by omega), if_pos k3', if_pos k3, n3, n3', c10, if_pos ⟨d0, d0, d10, by omega, by omega⟩, kl_e, ← hh]
  rfl
