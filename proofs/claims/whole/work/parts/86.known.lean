/-! KNOWN: RIGHT by one test, nothing else heard -/
def Wsn (l i : Nat) : Prop := Wscr l i ∨ (l = 207 ∧ i < 24)
theorem Rrule.sn {h h' : KH} {c : Nat} (hc : ctc c) (rr : Rrule h c) (x : kfp Wsn h h') : Rrule h' c := rr.fp x fun l i z => by
  unfold Wsn Wscr
  rcases hc with rfl | rfl <;> omega
theorem RC.sn {h h' : KH} {c : Nat} (rc : RC h c) (x : kfp Wsn h h') : RC h' c := rc.fp x fun l i z y => by
  rcases y with y | y
  · exact Wct.sc rc.2.1 z y
  · have := rc.2.1.lt
    unfold Wct at z
    omega
theorem Law.of {h h' : KH} (x : kfp Wsn h h') : Law h h' := fun l i a b => x.2.2.1 l i (by unfold Wsn Wscr; omega)
theorem wsn {h h' : KH} (x : kfp Wscr h h') : kfp Wsn h h' := x.wide fun _ _ z => Or.inl z
/-- the times of a trial -/
def oneT (t a x : Nat) : Nat := if x = t then a else 0
theorem x_trial {h : KH} {c : Nat} (rc : RC h c) (rr : Rrule h c) (ry : Ryt h c) (rz : Rzero h) {t a : Nat} (ht : t < kN h 198 4) (ha : a ≤ 99) :
    ∃ g, f_X10_weigh (ksI (xclear h 68) 69 t (Int32.ofNat a)) 162 c 68 = some g ∧ Scr h g c ∧ Wst g (wtN h (oneT t a) (fun _ => 0) (fun _ => 0)) (paN h (oneT t a)) 72 := by
  obtain ⟨hr, hc, h5, hm, -⟩ := id rc
  have c39 := hc.lt
  have n4 := hm.2.1.1.2
  obtain ⟨g1, eg1⟩ : ∃ g1, g1 = ksI (xclear h 68) 69 t (Int32.ofNat a) := ⟨_, rfl⟩
  obtain ⟨x1, x2, x3⟩ := xclear_I h 68
  have f1 : kfp (fun l _ => 68 ≤ l ∧ l ≤ 71) h g1 := by
    rw [eg1]
    exact ((xclear_fp h 68).wide fun l i z => by omega).sI _ ⟨by omega, by omega⟩
  have F1 : kfp Wscr h g1 := f1.wide fun l i z => by unfold Wscr; omega
  have sv : Sv g1 68 (oneT t a) (fun _ => 0) (fun _ => 0) := by
    refine ⟨fun x hx => ⟨⟨?_, ?_⟩, ?_, Nat.zero_le _⟩, fun i hi => ⟨?_, Nat.zero_le _⟩⟩
    · rw [eg1, kI_sI]
      unfold oneT
      by_cases y : x = t
      · rw [if_pos ⟨rfl, y⟩, if_pos y]
      · rw [if_neg (fun z => y z.2), if_neg y]
        exact (x2 x hx).1
    · unfold oneT
      by_cases y : x = t
      · rw [if_pos y]; exact ha
      · rw [if_neg y]; omega
    · rw [eg1, kI_sI, if_neg (by omega)]
      exact (x2 x hx).2
    · rw [eg1, kI_sI, if_neg (by omega)]
      exact x3 i hi
  obtain ⟨g, e, f, y, -, w⟩ := x_weigh (rc.sc F1) (rr.sc hc F1) (ry.fp f1 fun l i z w => by unfold Wlw at z; rcases hc with rfl | rfl <;> omega) (St68 (hr.fp f1)) (by omega) sv
  have law := Law.of (wsn F1)
  rw [law.wt, law.pa] at w
  rw [← eg1]
  refine ⟨g, e, ⟨F1.tr (f.wide fun l i z => Wwg.sc hc z), y, ?_⟩, w⟩
  exact (rz.fp f1 fun l i z w => by omega).fp f fun l i z w => by unfold Wwg at w; rcases hc with rfl | rfl <;> omega
theorem m_beginsL {h : KH} (hr : kRefs h) : ∃ h', f_X12_begins h 173 = some h' ∧ ∀ l i, kL h' l i = kL h l i := by
  obtain ⟨g, e1, f1, z1⟩ := kloop_inv (body := f_X12_begins_l2 173) (fun k s => s.1 = Int32.ofNat k ∧ kRefs s.2 ∧ ∀ l i, kL s.2 l i = kL h l i) (fun r => kRefs r ∧ ∀ l i, kL r l i = kL h l i) 6 (s0 := ((0 : Int32), h)) (by omega) ⟨rfl, hr, fun _ _ => rfl⟩ (fun k s hk hP => by
      obtain ⟨s1, q⟩ := s
      obtain ⟨p1, r2, p3⟩ := hP
      dsimp only at p1 r2 p3
      subst p1
      have f : kfp (fun _ _ => True) q (ksI q 207 (2 + 2 * k + 1) 0) := kfp.rf.sI _ trivial
      refine ⟨(Int32.ofNat (k + 1), ksI q 207 (2 + 2 * k + 1) 0), ?_, rfl, r2.fp f, fun l i => (kL_sI).trans (p3 l i)⟩
      unfold f_X12_begins_l2
      dsimp only
      rw [ifP (n32_ler (by omega) (by omega)), if_neg (by omega), if_pos kk173, rf173_45 r2, if_pos (by omega), if_pos kk207, kn207, n32_mulr, n32_addr, n32_addl, if_neg (by rw [n32_cl (by omega)]; exact fun z => z.elim (n32_nn (by omega)) (by omega)), n32_cl (by omega), kl_e, kl_e, n32_addl]) (fun s hP => by
      obtain ⟨s1, q⟩ := s
      obtain ⟨p1, p2, p3⟩ := hP
      dsimp only at p1 p2 p3
      subst p1
      refine ⟨q, ?_, p2, p3⟩
      unfold f_X12_begins_l2
      dsimp only
      rw [if_pos (by decide)])
  obtain ⟨g2, e2, z2⟩ := kloop_inv (body := f_X12_begins_l29 173) (fun k s => s.1 = Int32.ofNat k ∧ kRefs s.2 ∧ ∀ l i, kL s.2 l i = kL h l i) (fun r => ∀ l i, kL r l i = kL h l i) 10 (s0 := ((0 : Int32), g)) (by omega) ⟨rfl, f1, z1⟩ (fun k s hk hP => by
      obtain ⟨s1, q⟩ := s
      obtain ⟨p1, r2, p3⟩ := hP
      dsimp only at p1 r2 p3
      subst p1
      have f : kfp (fun _ _ => True) q (ksI q 207 (14 + k) 0) := kfp.rf.sI _ trivial
      refine ⟨(Int32.ofNat (k + 1), ksI q 207 (14 + k) 0), ?_, rfl, r2.fp f, fun l i => (kL_sI).trans (p3 l i)⟩
      unfold f_X12_begins_l29
      dsimp only
      rw [ifP (n32_ler (by omega) (by omega)), if_neg (by omega), if_pos kk173, rf173_45 r2, if_pos (by omega), if_pos kk207, kn207, n32_addr, if_neg (by rw [n32_cl (by omega)]; exact fun z => z.elim (n32_nn (by omega)) (by omega)), n32_cl (by omega), kl_e, kl_e, n32_addl]) (fun s hP => by
      obtain ⟨s1, q⟩ := s
      obtain ⟨p1, p2, p3⟩ := hP
      dsimp only at p1 p2 p3
      subst p1
      refine ⟨q, ?_, p3⟩
      unfold f_X12_begins_l29
      dsimp only
      rw [if_pos (by decide)])
  refine ⟨g2, ?_, z2⟩
  unfold f_X12_begins
  rw [e1, kb_s, e2, kb_s]
/-- the model lays a State with nothing heard, aside from the one that is -/
theorem m_trial {h g : KH} {c : Nat} (rc : RC h c) (rs : RS h) (rr : Rrule h c) (sc : Scr h g c) {t a : Nat} (ht : t < kN h 198 4) (ha : a ≤ 99) :
    ∃ p0 p1 p2 p3 T, f_X12_putsAside g 173 = some p0 ∧ f_X12_begins (ksI p0 207 (2 + 2 * t) (Int32.ofNat a)) 173 = some p1 ∧ f_X12_laysWorlds p1 173 (1 : Int32) = some p2 ∧ f_X12_takesBack p2 173 = some p3 ∧ kRefs p0 ∧ Scr h p3 c ∧ T t = a ∧ (∀ x, x < 6 → T x ≤ 99) ∧
      (∀ w, w < 72 → kL p3 213 w = Int64.ofNat (wtN h T (fun _ => 0) (fun _ => 0) w)) ∧ kL p3 173 56 = Int64.ofNat (aT (wtN h T (fun _ => 0) (fun _ => 0)) 72) ∧ ∀ s, s < 2 ^ kN h 198 4 → ∀ w v, vW h w → vW h v → (kX (paN h T) s w = kX (paN h T) s v ↔ mK p3 s w = mK p3 s v) := by
  obtain ⟨hr, hc, h5, hm, -⟩ := id rc
  have c39 := hc.lt
  have n4 := hm.2.1.1.2
  have rg := hr.fp sc.1
  have rsg := rs.sc sc.1
  obtain ⟨p0, e0, f0, z0, L0⟩ := m_putsAside rg
  have r0 := rg.fp f0
  obtain ⟨q, eq⟩ : ∃ q, q = ksI p0 207 (2 + 2 * t) (Int32.ofNat a) := ⟨_, rfl⟩
  have fq : kfp (fun l i => (l = 208 ∨ l = 207) ∧ i < 24) g q := by
    rw [eq]
    exact (f0.wide fun l i z => by omega).sI _ ⟨by omega, by omega⟩
  have rq := rg.fp fq
  obtain ⟨p1, e1, f1, z1, z2⟩ := m_begins rq
  have L1 : ∀ l i, kL p1 l i = kL q l i := by
    obtain ⟨p1', e1', L⟩ := m_beginsL rq
    rw [e1] at e1'
    cases e1'
    exact L
  have F1 : kfp (fun l i => (l = 208 ∨ l = 207) ∧ i < 24) g p1 := fq.tr (f1.wide fun l i z => by omega)
  have N1 : kfp Wsn h p1 := (wsn sc.1).tr (F1.wide fun l i z => by unfold Wsn Wscr; omega)
  have rc1 := rc.sn N1
  have rr1 := rr.sn hc N1
  have law1 := Law.of N1
  have n41 : kN p1 198 4 = kN h 198 4 := law1.n (by omega) (by omega)
  -- the times the model works with
  have tk : ∀ x, x < 6 → kI p1 207 (2 + 2 * x) = Int32.ofNat (if x = t then a else tmM h x) := fun x hx => by
    rw [f1.2.2.1 _ _ (by omega), eq, kI_sI]
    by_cases y : x = t
    · rw [if_pos ⟨rfl, by omega⟩, if_pos y]
    · rw [if_neg (by omega), if_neg y, f0.2.2.1 _ _ (by omega), sc.1.2.2.1 _ _ (by unfold Wscr; omega)]
      exact (rs.t hx).1.1
  have tl : ∀ x, x < 6 → (if x = t then a else tmM h x) ≤ 99 := fun x hx => by
    by_cases y : x = t
    · rw [if_pos y]; exact ha
    · rw [if_neg y]; exact (rs.t hx).1.2
  have tm : ∀ x, x < 6 → tmM p1 x = if x = t then a else tmM h x := fun x hx => by
    have := tl x hx
    unfold tmM
    show (kI p1 207 (2 + 2 * x)).toNatClampNeg = _
    rw [tk x hx, n32_cl (by omega)]
    rfl
  have same : ∀ i, i < 2 → kI p1 207 i = kI h 207 i := fun i hi => by rw [f1.2.2.1 _ _ (by omega), eq, kI_sI, if_neg (by omega), f0.2.2.1 _ _ (by omega), sc.1.2.2.1 _ _ (by unfold Wscr; omega)]
  have an : ∀ x, x < 6 → anN p1 x = 0 := fun x hx => by
    unfold anN
    show (kI p1 207 (2 + 2 * x + 1)).toNatClampNeg = _
    rw [z1 x hx]
    rfl
  have lk : ∀ i, i < 10 → lkM p1 i = 0 := fun i hi => by
    unfold lkM
    show (kI p1 207 (14 + i)).toNatClampNeg = _
    rw [z2 i hi]
    rfl
  have ms1 : MS p1 := by
    refine ⟨cn_of (n := kN h 207 0) (by rw [same 0 (by omega)]; exact rs.c.1.1) rs.c.1.2 (by omega), cn_of (n := kN h 207 1) (by rw [same 1 (by omega)]; exact rs.h.1.1) rs.h.1.2 (by omega), fun x hx => ⟨cn_of (tk x hx) (tl x hx) (by omega), cn_of (n := 0) (z1 x hx) (by omega) (by omega), fun _ => an x hx⟩, fun i hi => ⟨cn_of (n := 0) (z2 i hi) (by omega) (by omega), fun _ => lk i hi⟩⟩
  obtain ⟨p2, e2, f2, y2, m2⟩ := m_laysWorlds rc1 rr1 ms1 (fr := 1) (by omega) (fun _ => ⟨an, lk⟩)
  have r2 := (rq.fp f1).fp f2
  obtain ⟨p3, e3, f3, z3, L3⟩ := m_takesBack r2
  have back : ∀ i, i < 24 → kI p3 207 i = kI h 207 i := fun i hi => by
    rw [z3 i hi, f2.2.2.1 _ _ (by unfold Wmw; omega), f1.2.2.1 _ _ (by omega), eq, kI_sI, if_neg (by omega), z0 i hi, sc.1.2.2.1 _ _ (by unfold Wscr; omega)]
  have N3 : kfp Wsn h p3 := (N1.tr (f2.wide fun l i z => Or.inl (Wmw.sc z))).tr (f3.wide fun l i z => Or.inr z)
  have F3 : kfp Wscr h p3 := ⟨N3.1, N3.2.1, fun l i z => by
    by_cases y : l = 207 ∧ i < 24
    · rw [y.1]; exact back i y.2
    · exact N3.2.2.1 l i (fun w => w.elim z y), fun l i z => by
    by_cases y : l = 207 ∧ i < 24
    · rw [L3, f2.2.2.2 _ _ (by unfold Wmw; omega), L1, eq, kL_sI, L0, sc.1.2.2.2 _ _ (by unfold Wscr; omega)]
    · exact N3.2.2.2 l i (fun w => w.elim z y)⟩
  have W1 : wtN p1 (tmM p1) (anN p1) (lkM p1) = wtN h (tmM p1) (fun _ => 0) (fun _ => 0) := by
    rw [law1.wt]
    exact wtN_fresh rc an (fun _ _ => rfl) lk
  rw [W1] at m2
  have tl1 : ∀ x, x < 6 → tmM p1 x ≤ 99 := fun x hx => by rw [tm x hx]; exact tl x hx
  refine ⟨p0, p1, p2, p3, tmM p1, e0, by rw [← eq]; exact e1, e2, e3, r0, ⟨F3, ?_, ?_⟩, ?_, tl1, fun w hw => ?_, ?_, fun s hs w v hw hv => ?_⟩
  · have y1 := sc.2.1.fp F1 fun l i z w => by unfold Wlw at z; rcases hc with rfl | rfl <;> omega
    have y2 := y1.fp f2 fun l i z w => by unfold Wlw at z; unfold Wmw at w; rcases hc with rfl | rfl <;> omega
    exact y2.fp f3 fun l i z w => by unfold Wlw at z; rcases hc with rfl | rfl <;> omega
  · have y1 := sc.2.2.fp F1 fun l i z w => by omega
    have y2 := y1.fp f2 fun l i z w => by unfold Wmw at w; omega
    exact y2.fp f3 fun l i z w => by omega
  · rw [tm t (by omega), if_pos rfl]
  · rw [L3]; exact m2.1 w hw
  · rw [L3]; exact m2.2.1
  · have k := key_eq rc1 tl1 rr1 (g := p3) (fun x hx => by rw [f3.2.2.1 _ _ (by omega)]; exact m2.2.2 x hx.2.2 hx.1 hx.2.1) (s := s) (by rw [n41]; exact hs) (w := w) (v := v) (by unfold vW at hw ⊢; rw [law1.n (by omega) (by omega)]; exact hw) (by unfold vW at hv ⊢; rw [law1.n (by omega) (by omega)]; exact hv)
    rw [law1.pa] at k
    exact k
