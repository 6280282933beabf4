theorem hearW {h g : KH} (e : ∀ i, kI g 207 i = kI h 207 i) (law : Law h g) (t v : Nat) : wtN g (tmM g) (upA (anN g) t v) (lkM g) = wtN h (tmM h) (upA (anN h) t v) (lkM h) := by
  have e1 : tmM g = tmM h := by
    funext x
    unfold tmM kN
    rw [e]
  have e2 : anN g = anN h := by
    funext x
    unfold anN kN
    rw [e]
  have e3 : lkM g = lkM h := by
    funext x
    unfold lkM kN
    rw [e]
  rw [law.wt, e1, e2, e3]
theorem hearMS {h g : KH} (e : ∀ i, kI g 207 i = kI h 207 i) (law : Law h g) (ms : MS h) : MS g := by
  obtain ⟨a, b, d, f⟩ := ms
  have k : ∀ {i m}, cn h 207 i m → cn g 207 i m := fun {i m} y => by
    unfold cn kN at y ⊢
    rw [e i]
    exact y
  have nq : ∀ i, kN g 198 i = kN h 198 i := fun i => law.n (by omega) (by omega)
  have kn : ∀ i, kN g 207 i = kN h 207 i := fun i => kN_same (e i)
  refine ⟨k a, k b, fun x hx => ⟨k (d x hx).1, k (d x hx).2.1, fun z => ?_⟩, fun i hi => ⟨k (f i hi).1, fun z => ?_⟩⟩
  · rw [nq] at z
    rw [kn]
    exact (d x hx).2.2 z
  · rw [nq] at z
    rw [kn]
    exact (f i hi).2 z
/-- the class, whether one may hear so -/
theorem x_canHear {h : KH} {c : Nat} (rc : RC h c) (rs : RS h) (rr : Rrule h c) (ry : Ryt h c) (rz : Rzero h) {t z o : Nat} (ht : t < kN h 198 4) (hz : z < 2) (ho : o < 2) (h0 : kN h 207 (2 + 2 * t + 1) = 0) :
    ∃ g, f_X11_canHear h 0 (Int32.ofNat t) (Int32.ofNat z) (Int32.ofNat o) = some (if aT (wtN h (tmM h) (upA (anN h) t (1 + z + 2 * o)) (lkM h)) 72 = 0 then 0 else 1, g) ∧ Scr h g c := by
  obtain ⟨hr, hc, h5, hm, -⟩ := id rc
  have c39 := hc.lt
  have n4 := hm.2.1.1.2
  obtain ⟨g, e, s, w⟩ := x_trialHear rc rs rr ry rz ht (v := 1 + z + 2 * o) (by omega)
  have rg := hr.fp s.1
  have ab := aT_wb (W := wtN h (tmM h) (upA (anN h) t (1 + z + 2 * o)) (lkM h)) (fun w => wt_le rc _ _ _ w)
  have f0 := xcopy_fp h 68 64
  have r0 := hr.fp f0
  obtain ⟨q, eq⟩ : ∃ q, q = ksI (xcopy h 68 64) 70 t (Int32.ofNat (1 + z + 2 * o)) := ⟨_, rfl⟩
  rw [← eq] at e
  have fq : kfp (fun l _ => 68 ≤ l ∧ l ≤ 71) h q := by
    rw [eq]
    exact (f0.wide fun l i z => by omega).sI _ ⟨by omega, by omega⟩
  have rq := hr.fp fq
  have a66 : kI h 66 t = 0 := by
    rw [(rs.a (t := t) (by omega)).2, (rs.a (t := t) (by omega)).1.1, h0]
    rfl
  refine ⟨g, ?_, s⟩
  unfold f_X11_canHear
  rw [if_pos kk0, x_isTest_y rc ht, kb_s, if_neg (show ¬ ((1 : Int32) = 0) by decide), x_isBit, kb_s, if_pos (rgt hz (by omega)), if_neg (show ¬ ((1 : Int32) = 0) by decide), x_isBit, kb_s, if_pos (rgt ho (by omega)), if_neg (show ¬ ((1 : Int32) = 0) by decide), rf0_7 hr, if_pos (show 64 < 999999 by omega), if_pos kk64, rf64_4 hr, if_pos (show 66 < 999999 by omega), if_pos kk66, kn66, if_neg (by rw [n32_cl (by omega)]; exact fun z => z.elim (n32_nn (by omega)) (by omega)), n32_cl (show t < 2147483648 by omega), if_pos a66, rf0_8 hr, if_pos (show 68 < 999999 by omega), if_pos kk68, x_copyFrom (St68 hr) (St64 hr), kb_s, rf0_8 r0, if_pos (show 68 < 999999 by omega), if_pos kk68, rf68_4 r0, if_pos (show 70 < 999999 by omega), if_pos kk70, kn70, if_neg (fun z => z.elim (n32_nn (by omega)) (by omega)), n32_addr, n32_mulr, n32_add, ← eq, kl_e, rf0_11 rq, if_pos (show 162 < 999999 by omega), fq.2.1, h5, if_pos (show c < 999999 by omega), rf0_8 rq, if_pos (show 68 < 999999 by omega), if_pos kk162, e, kb_s, rf0_11 rg, if_pos (show 162 < 999999 by omega), if_pos kk162, x_totalW rg w, kb_s, show (0 : Int64) = Int64.ofNat 0 from rfl]
  by_cases y : aT (wtN h (tmM h) (upA (anN h) t (1 + z + 2 * o)) (lkM h)) 72 = 0
  · rw [if_pos (by rw [lgn_le0 (by omega) (by omega)]; omega), if_pos y]
  · rw [if_neg (by rw [lgn_le0 (by omega) (by omega)]; omega), if_neg y]
