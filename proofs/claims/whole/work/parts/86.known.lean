/-! KNOWN: RIGHT by one test, nothing else heard -/
def Wsn (l i : Nat) : Prop := Wscr l i ∨ (l = 207 ∧ i < 24)
theorem Rrule.sn {h h' : KH} {c : Nat} (hc : ctc c) (rr : Rrule h c) (x : kfp Wsn h h') : Rrule h' c := rr.fp x fun l i z => by
  unfold Wsn Wscr
  rcases hc with rfl | rfl <;> omega
theorem RC.sn {h h' : KH} {c : Nat} (rc : RC h c) (x : kfp Wsn h h') : RC h' c := rc.fp x fun l i z y => by
  rcases y with y | y
  · exact Wct.sc rc.2.1 z y
  · have := rc.2.1.lt
    unfold Wct at z
    omega
theorem Law.of {h h' : KH} (x : kfp Wsn h h') : Law h h' := fun l i a b => x.2.2.1 l i (by unfold Wsn Wscr; omega)
theorem wsn {h h' : KH} (x : kfp Wscr h h') : kfp Wsn h h' := x.wide fun _ _ z => Or.inl z
/-- the times of a trial -/
def oneT (t a x : Nat) : Nat := if x = t then a else 0
theorem x_trial {h : KH} {c : Nat} (rc : RC h c) (rr : Rrule h c) (ry : Ryt h c) (rz : Rzero h) {t a : Nat} (ht : t < kN h 198 4) (ha : a ≤ 99) :
    ∃ g, f_X10_weigh (ksI (xclear h 68) 69 t (Int32.ofNat a)) 162 c 68 = some g ∧ Scr h g c ∧ Wst g (wtN h (oneT t a) (fun _ => 0) (fun _ => 0)) (paN h (oneT t a)) 72 := by
  obtain ⟨hr, hc, h5, hm, -⟩ := id rc
  have c39 := hc.lt
  have n4 := hm.2.1.1.2
  obtain ⟨g1, eg1⟩ : ∃ g1, g1 = ksI (xclear h 68) 69 t (Int32.ofNat a) := ⟨_, rfl⟩
  obtain ⟨x1, x2, x3⟩ := xclear_I h 68
  have f1 : kfp (fun l _ => 68 ≤ l ∧ l ≤ 71) h g1 := by
    rw [eg1]
    exact ((xclear_fp h 68).wide fun l i z => by omega).sI _ ⟨by omega, by omega⟩
  have F1 : kfp Wscr h g1 := f1.wide fun l i z => by unfold Wscr; omega
  have sv : Sv g1 68 (oneT t a) (fun _ => 0) (fun _ => 0) := by
    refine ⟨fun x hx => ⟨⟨?_, ?_⟩, ?_, by omega⟩, fun i hi => ⟨?_, by omega⟩⟩
    · rw [eg1, kI_sI]
      unfold oneT
      by_cases y : x = t
      · rw [if_pos ⟨rfl, y⟩, if_pos y]
      · rw [if_neg (fun z => y z.2), if_neg y]
        exact (x2 x hx).1
    · unfold oneT
      by_cases y : x = t
      · rw [if_pos y]; exact ha
      · rw [if_neg y]; omega
    · rw [eg1, kI_sI, if_neg (by omega)]
      exact (x2 x hx).2
    · rw [eg1, kI_sI, if_neg (by omega)]
      exact x3 i hi
  obtain ⟨g, e, f, y, -, w⟩ := x_weigh (rc.sc F1) (rr.sc hc F1) (ry.fp f1 fun l i z w => by unfold Wlw at z; rcases hc with rfl | rfl <;> omega) (St68 (hr.fp f1)) (by omega) sv
  have law := Law.of (wsn F1)
  rw [law.wt, law.pa] at w
  rw [← eg1]
  refine ⟨g, e, ⟨F1.tr (f.wide fun l i z => Wwg.sc hc z), y, ?_⟩, w⟩
  exact (rz.fp f1 fun l i z w => by omega).fp f fun l i z w => by unfold Wwg at w; rcases hc with rfl | rfl <;> omega
/-- the model lays a State with nothing heard, aside from the one that is -/
theorem m_trial {h g : KH} {c : Nat} (rc : RC h c) (rs : RS h) (rr : Rrule h c) (sc : Scr h g c) {t a : Nat} (ht : t < kN h 198 4) (ha : a ≤ 99) :
    ∃ p0 p1 p2 p3 T, f_X12_putsAside g 173 = some p0 ∧ f_X12_begins (ksI p0 207 (2 + 2 * t) (Int32.ofNat a)) 173 = some p1 ∧ f_X12_laysWorlds p1 173 (1 : Int32) = some p2 ∧ f_X12_takesBack p2 173 = some p3 ∧ kRefs p0 ∧ Scr h p3 c ∧ T t = a ∧ (∀ x, x < 6 → T x ≤ 99) ∧
      (∀ w, w < 72 → kL p3 213 w = Int64.ofNat (wtN h T (fun _ => 0) (fun _ => 0) w)) ∧ kL p3 173 56 = Int64.ofNat (aT (wtN h T (fun _ => 0) (fun _ => 0)) 72) ∧ ∀ s, s < 2 ^ kN h 198 4 → ∀ w v, vW h w → vW h v → (kX (paN h T) s w = kX (paN h T) s v ↔ mK p3 s w = mK p3 s v) := by
  obtain ⟨hr, hc, h5, hm, -⟩ := id rc
  have c39 := hc.lt
  have n4 := hm.2.1.1.2
  have rg := hr.fp sc.1
  have rsg := rs.sc sc.1
  obtain ⟨p0, e0, f0, z0⟩ := m_putsAside rg
  have r0 := rg.fp f0
  obtain ⟨q, eq⟩ : ∃ q, q = ksI p0 207 (2 + 2 * t) (Int32.ofNat a) := ⟨_, rfl⟩
  have fq : kfp (fun l i => (l = 208 ∨ l = 207) ∧ i < 24) g q := by
    rw [eq]
    exact (f0.wide fun l i z => by omega).sI _ ⟨by omega, by omega⟩
  have rq := rg.fp fq
  obtain ⟨p1, e1, f1, z1, z2⟩ := m_begins rq
  have F1 : kfp (fun l i => (l = 208 ∨ l = 207) ∧ i < 24) g p1 := fq.tr (f1.wide fun l i z => by omega)
  have N1 : kfp Wsn h p1 := (wsn sc.1).tr (F1.wide fun l i z => by unfold Wsn Wscr; omega)
  have rc1 := rc.sn N1
  have rr1 := rr.sn hc N1
  have law1 := Law.of N1
  have n41 : kN p1 198 4 = kN h 198 4 := law1.n (by omega) (by omega)
  -- the times the model works with
  have tk : ∀ x, x < 6 → kI p1 207 (2 + 2 * x) = Int32.ofNat (if x = t then a else tmM h x) := fun x hx => by
    rw [f1.2.2.1 _ _ (by omega), eq, kI_sI]
    by_cases y : x = t
    · rw [if_pos ⟨rfl, by omega⟩, if_pos y]
    · rw [if_neg (by omega), if_neg y, f0.2.2.1 _ _ (by omega), sc.1.2.2.1 _ _ (by unfold Wscr; omega)]
      exact (rs.t hx).1.1
  have tl : ∀ x, x < 6 → (if x = t then a else tmM h x) ≤ 99 := fun x hx => by
    by_cases y : x = t
    · rw [if_pos y]; exact ha
    · rw [if_neg y]; exact (rs.t hx).1.2
  have tm : ∀ x, x < 6 → tmM p1 x = if x = t then a else tmM h x := fun x hx => by
    have := tl x hx
    unfold tmM
    show (kI p1 207 (2 + 2 * x)).toNatClampNeg = _
    rw [tk x hx, n32_cl (by omega)]
    rfl
  have same : ∀ i, i < 2 → kI p1 207 i = kI h 207 i := fun i hi => by rw [f1.2.2.1 _ _ (by omega), eq, kI_sI, if_neg (by omega), f0.2.2.1 _ _ (by omega), sc.1.2.2.1 _ _ (by unfold Wscr; omega)]
  have an : ∀ x, x < 6 → anN p1 x = 0 := fun x hx => by
    unfold anN
    show (kI p1 207 (2 + 2 * x + 1)).toNatClampNeg = _
    rw [z1 x hx]
    rfl
  have lk : ∀ i, i < 10 → lkM p1 i = 0 := fun i hi => by
    unfold lkM
    show (kI p1 207 (14 + i)).toNatClampNeg = _
    rw [z2 i hi]
    rfl
  have ms1 : MS p1 := by
    refine ⟨cn_of (n := kN h 207 0) (by rw [same 0 (by omega)]; exact rs.c.1.1) rs.c.1.2 (by omega), cn_of (n := kN h 207 1) (by rw [same 1 (by omega)]; exact rs.h.1.1) rs.h.1.2 (by omega), fun x hx => ⟨cn_of (tk x hx) (tl x hx) (by omega), cn_of (n := 0) (z1 x hx) (by omega) (by omega), fun _ => an x hx⟩, fun i hi => ⟨cn_of (n := 0) (z2 i hi) (by omega) (by omega), fun _ => lk i hi⟩⟩
  obtain ⟨p2, e2, f2, y2, m2⟩ := m_laysWorlds rc1 rr1 ms1 (fr := 1) (by omega) (fun _ => ⟨an, lk⟩)
  have r2 := (rq.fp f1).fp f2
  obtain ⟨p3, e3, f3, z3⟩ := m_takesBack r2
  have back : ∀ i, i < 24 → kI p3 207 i = kI h 207 i := fun i hi => by
    rw [z3 i hi, f2.2.2.1 _ _ (by unfold Wmw; omega), f1.2.2.1 _ _ (by omega), eq, kI_sI, if_neg (by omega), z0 i hi, sc.1.2.2.1 _ _ (by unfold Wscr; omega)]
  have N3 : kfp Wsn h p3 := (N1.tr (f2.wide fun l i z => Or.inl (Wmw.sc z))).tr (f3.wide fun l i z => Or.inr z)
  have F3 : kfp Wscr h p3 := ⟨N3.1, N3.2.1, fun l i z => by
    by_cases y : l = 207 ∧ i < 24
    · rw [y.1]; exact back i y.2
    · exact N3.2.2.1 l i (fun w => w.elim z y), fun l i z => by
    by_cases y : l = 207 ∧ i < 24
    · rw [f3.2.2.2 l i (by sorry)]
      sorry
    · exact N3.2.2.2 l i (fun w => w.elim z y)⟩
  sorry
