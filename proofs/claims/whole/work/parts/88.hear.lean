/-! what would be left if a test were heard so -/
def upA (A : Nat → Nat) (t v x : Nat) : Nat := if x = t then v else A x
theorem x_trialHear {h : KH} {c : Nat} (rc : RC h c) (rs : RS h) (rr : Rrule h c) (ry : Ryt h c) (rz : Rzero h) {t v : Nat} (ht : t < kN h 198 4) (hv : v ≤ 4) :
    ∃ g, f_X10_weigh (ksI (xcopy h 68 64) 70 t (Int32.ofNat v)) 162 c 68 = some g ∧ Scr h g c ∧ Wst g (wtN h (tmM h) (upA (anN h) t v) (lkM h)) (paN h (tmM h)) 72 := by
  obtain ⟨hr, hc, h5, hm, -⟩ := id rc
  have c39 := hc.lt
  have n4 := hm.2.1.1.2
  obtain ⟨g1, eg1⟩ : ∃ g1, g1 = ksI (xcopy h 68 64) 70 t (Int32.ofNat v) := ⟨_, rfl⟩
  obtain ⟨x1, x2, x3⟩ := xcopy_cells h (v := 68) (w := 64) (by omega)
  obtain ⟨q1, q2⟩ := rs.sv
  have f1 : kfp (fun l _ => 68 ≤ l ∧ l ≤ 71) h g1 := by
    rw [eg1]
    exact ((xcopy_fp h 68 64).wide fun l i z => by omega).sI _ ⟨by omega, by omega⟩
  have F1 : kfp Wscr h g1 := f1.wide fun l i z => by unfold Wscr; omega
  have sv : Sv g1 68 (tmM h) (upA (anN h) t v) (lkM h) := by
    refine ⟨fun x hx => ⟨⟨?_, (q1 x hx).1.2⟩, ?_, ?_⟩, fun i hi => ⟨?_, (q2 i hi).2⟩⟩
    · rw [eg1, kI_sI, if_neg (by omega), (x2 x hx).1]
      exact (q1 x hx).1.1
    · rw [eg1, kI_sI]
      unfold upA
      by_cases y : x = t
      · rw [if_pos ⟨rfl, y⟩, if_pos y]
      · rw [if_neg (fun z => y z.2), if_neg y, (x2 x hx).2]
        exact (q1 x hx).2.1
    · unfold upA
      by_cases y : x = t
      · rw [if_pos y]; exact hv
      · rw [if_neg y]; exact (q1 x hx).2.2
    · rw [eg1, kI_sI, if_neg (by omega), x3 i hi]
      exact (q2 i hi).1
  obtain ⟨g, e, f, y, -, w⟩ := x_weigh (rc.sc F1) (rr.sc hc F1) (ry.fp f1 fun l i z w => by unfold Wlw at z; rcases hc with rfl | rfl <;> omega) (St68 (hr.fp f1)) (by omega) sv
  have law := Law.of (wsn F1)
  rw [law.wt, law.pa] at w
  rw [← eg1]
  refine ⟨g, e, ⟨F1.tr (f.wide fun l i z => Wwg.sc hc z), y, ?_⟩, w⟩
  exact (rz.fp f1 fun l i z w => by omega).fp f fun l i z w => by unfold Wwg at w; rcases hc with rfl | rfl <;> omega
theorem m_trialHear {g : KH} {c : Nat} (rc : RC g c) (ms : MS g) (rr : Rrule g c) (ry : Ryt g c) (rz : Rzero g) {t v : Nat} (ht : t < kN g 198 4) (hv : v ≤ 4) (h0 : kI g 207 (2 + 2 * t + 1) = 0) :
    ∃ p, f_X12_laysWorlds (ksI g 207 (2 + 2 * t + 1) (Int32.ofNat v)) 173 (0 : Int32) = some p ∧ kRefs p ∧ Scr g (ksI p 207 (2 + 2 * t + 1) 0) c ∧ kL p 173 56 = Int64.ofNat (aT (wtN g (tmM g) (upA (anN g) t v) (lkM g)) 72) := by
  obtain ⟨hr, hc, h5, hm, -⟩ := id rc
  have c39 := hc.lt
  have n4 := hm.2.1.1.2
  obtain ⟨q, eq⟩ : ∃ q, q = ksI g 207 (2 + 2 * t + 1) (Int32.ofNat v) := ⟨_, rfl⟩
  have fq : kfp (fun l i => l = 207 ∧ i = 2 + 2 * t + 1) g q := by rw [eq]; exact kfp.rf.sI _ ⟨rfl, rfl⟩
  have N : kfp Wsn g q := fq.wide fun l i z => by unfold Wsn; omega
  have rcq := rc.sn N
  have law := Law.of N
  have cq : ∀ i, i ≠ 2 + 2 * t + 1 → kI q 207 i = kI g 207 i := fun i z => by rw [eq, kI_sI, if_neg (fun y => z y.2)]
  have ct : kI q 207 (2 + 2 * t + 1) = Int32.ofNat v := by rw [eq, kI_sI, if_pos ⟨rfl, rfl⟩]
  have msq : MS q := by
    obtain ⟨a, b, d, e⟩ := ms
    have k : ∀ {i m}, i ≠ 2 + 2 * t + 1 → cn g 207 i m → cn q 207 i m := fun {i m} z y => by
      unfold cn kN at y ⊢
      rw [cq i z]
      exact y
    have nq : ∀ i, kN q 198 i = kN g 198 i := fun i => law.n (by omega) (by omega)
    refine ⟨k (by omega) a, k (by omega) b, fun x hx => ⟨k (by omega) (d x hx).1, ?_, fun z => ?_⟩, fun i hi => ⟨k (by omega) (e i hi).1, fun z => ?_⟩⟩
    · by_cases y : x = t
      · rw [y]; exact cn_of ct hv (by omega)
      · exact k (by omega) (d x hx).2.1
    · rw [nq] at z
      unfold kN
      rw [cq _ (by omega)]
      exact (d x hx).2.2 z
    · rw [nq] at z
      unfold kN
      rw [cq _ (by omega)]
      exact (e i hi).2 z
  obtain ⟨p, e, f, yl, m⟩ := m_laysWorlds rcq (rr.sn hc N) msq (fr := 0) (by omega) (fun z => by omega)
  have eW : wtN q (tmM q) (anN q) (lkM q) = wtN g (tmM g) (upA (anN g) t v) (lkM g) := by
    rw [law.wt]
    have e1 : tmM q = tmM g := by
      funext x
      unfold tmM kN
      rw [cq _ (by omega)]
    have e2 : anN q = upA (anN g) t v := by
      funext x
      unfold upA anN kN
      by_cases y : x = t
      · rw [if_pos y, y, ct, n32_cl (by omega)]
      · rw [if_neg y, cq _ (by omega)]
    have e3 : lkM q = lkM g := by
      funext i
      unfold lkM kN
      rw [cq _ (by omega)]
    rw [e1, e2, e3]
  rw [eW] at m
  have rp := (hr.fp fq).fp f
  have back : kfp Wscr g (ksI p 207 (2 + 2 * t + 1) 0) := by
    refine ⟨f.1.trans fq.1, fun l i => (f.2.1 l i).trans (fq.2.1 l i), fun l i z => ?_, fun l i z => ?_⟩
    · rw [kI_sI]
      by_cases y : l = 207 ∧ i = 2 + 2 * t + 1
      · rw [if_pos y, y.1, y.2, h0]
      · rw [if_neg y, f.2.2.1 _ _ (fun w => z (Wmw.sc w)), fq.2.2.1 _ _ y]
    · rw [kL_sI, f.2.2.2 _ _ (fun w => z (Wmw.sc w)), eq, kL_sI]
  rw [← eq]
  have fb : kfp (fun l i => Wmw l i ∨ l = 207) g (ksI p 207 (2 + 2 * t + 1) 0) := ((fq.wide fun l i z => Or.inr z.1).tr (f.wide fun l i z => Or.inl z)).sI _ (Or.inr rfl)
  refine ⟨p, e, rp, ⟨back, ?_, ?_⟩, m.2.1⟩
  · exact ry.fp fb fun l i z w => by unfold Wlw at z; unfold Wmw at w; rcases hc with rfl | rfl <;> omega
  · exact rz.fp fb fun l i z w => by unfold Wmw at w; omega
