/-! the class weighs all WORLDS -/
/-- Arrays.fill of a long[] -/
def kfillL (h : KH) (l : Nat) (v : Int64) : Nat → KH
  | 0 => h
  | n + 1 => ksL (kfillL h l v n) l n v
theorem kfillL_L (h : KH) (l : Nat) (v : Int64) (a b : Nat) : ∀ n, kL (kfillL h l v n) a b = if a = l ∧ b < n then v else kL h a b
  | 0 => by
    rw [if_neg (by omega)]
    rfl
  | n + 1 => by
    show kL (ksL _ _ _ _) a b = _
    rw [kL_sL]
    by_cases h1 : a = l ∧ b = n
    · rw [if_pos h1, if_pos (by omega)]
    · rw [if_neg h1, kfillL_L h l v a b n]
      by_cases h2 : a = l ∧ b < n
      · rw [if_pos h2, if_pos (by omega)]
      · rw [if_neg h2, if_neg (by omega)]
theorem kfillL_fp (h : KH) (l : Nat) (v : Int64) : ∀ n, kfp (fun a b => a = l ∧ b < n) h (kfillL h l v n)
  | 0 => kfp.rf
  | n + 1 => ((kfillL_fp h l v n).wide fun a b z => ⟨z.1, by omega⟩).sL v ⟨rfl, by omega⟩
theorem x_fillL {h : KH} {l N : Nat} (hk : kkind l = 21) (hn : klen l = N) (hN : N < 9999) (v : Int64) : f_J7_fill_d0a16 h l v = some (kfillL h l v N) := by
  unfold f_J7_fill_d0a16
  rw [if_pos hk, kl_e, hn]
  have e : kloop (f_J7_fill_d0a16_l6 l v (Int32.ofNat N)) KF ((0 : Int32), h) = some (kfillL h l v N) :=
    kloop_for (body := f_J7_fill_d0a16_l6 l v (Int32.ofNat N)) (fun k => (Int32.ofNat k, kfillL h l v k)) N (kfillL h l v N) (by omega) (fun k hk2 => by
      unfold f_J7_fill_d0a16_l6
      dsimp only
      rw [if_neg (by rw [n32_le (by omega) (by omega)]; omega), if_pos hk, hn, if_neg (by rw [n32_cl (by omega)]; exact fun z => z.elim (n32_nn (by omega)) (by omega)), kl_e, kl_e, n32_cl (by omega), n32_addl]
      rfl) (by
      unfold f_J7_fill_d0a16_l6
      dsimp only
      rw [if_pos (by rw [n32_le (by omega) (by omega)]; omega)])
  rw [e, kb_s]
theorem Aw.same {h g g' : KH} {T : Nat → Nat} {n : Nat} (a : Aw h g T n) (e : ∀ i, kI g' 167 i = kI g 167 i) : Aw h g' T n := fun who hw => by rw [e]; exact a who hw
def Wput (l i : Nat) : Prop := (163 ≤ l ∧ l ≤ 166) ∨ (l = 162 ∧ i = 3)
/-- one KIND of 0, all KINDS of 1 -/
theorem x_wgOne {h g : KH} {c v : Nat} (rc : RC h c) (rr : Rrule h c) (fg : kfp (Wwg c) h g) (st : St h v) (hv : 64 ≤ v ∧ v + 3 < 162) {T A L : Nat → Nat} (sv : Sv h v T A L) (aw : Aw h g T (kN h 198 4)) {tr z : Nat} (htr : tr < 2) (hz : z < kN h 198 3)
    {F v4 : Int64} {f : Nat} (hf : f = if tr = 0 then kN h 203 2 else 100 - kN h 203 2) (hF : F = Int64.ofNat (f * fcN h T A L 0 z (1 - tr))) (x : Wst g (wtN h T A L) (paN h T) ((tr * 6 + z) * 6)) :
    ∃ g', kloop (f_X10_weigh_l160 162 c v (Int32.ofNat tr) v4 (Int32.ofNat z) F) KF ((0 : Int32), g) = some g' ∧ kfp Wput g g' ∧ Wst g' (wtN h T A L) (paN h T) ((tr * 6 + z) * 6 + 6) := by
  obtain ⟨hr, hc, h5, hm, -⟩ := id rc
  have c39 := hc.lt
  have n3 := hm.1.1.2
  have f99 : f ≤ 99 := by
    have f1 := hm.2.2.2.1.1.2
    have f2 := hm.2.2.2.1.2.1
    rw [hf]
    by_cases y : tr = 0
    · rw [if_pos y]; exact f1
    · rw [if_neg y]; omega
  have fl := fcN_le rc T A L (cl := 0) (k := z) (tr := 1 - tr) hz (by omega)
  have hl : f * fcN h T A L 0 z (1 - tr) ≤ 52612659 := Nat.le_trans (Nat.mul_le_mul f99 fl) (by omega)
  have ew : ∀ o, o < 6 → wtN h T A L ((tr * 6 + z) * 6 + o) = if o < kN h 198 3 then f * fcN h T A L 0 z (1 - tr) * fcN h T A L 1 o tr else 0 := fun o ho => by
    unfold wtN
    rw [show ((tr * 6 + z) * 6 + o) / 6 % 6 = z by omega, show ((tr * 6 + z) * 6 + o) % 6 = o by omega, show ((tr * 6 + z) * 6 + o) / 36 = tr by omega, ← hf]
    by_cases y : o < kN h 198 3
    · rw [if_pos ⟨hz, y, by omega⟩, if_pos y]
    · rw [if_neg (fun q => y q.2.1), if_neg y]
  by_cases h0 : f * fcN h T A L 0 z (1 - tr) = 0
  · refine ⟨g, ?_, kfp.rf, x.skips 6 fun w w1 w2 => ?_⟩
    · refine kloop_end (n := 999999) ?_
      unfold f_X10_weigh_l160
      dsimp only
      have e3 : kI g c 3 = Int32.ofNat (kN h 198 3) := (fg.2.2.1 _ _ (by unfold Wwg; omega)).trans (hm.1.2.trans hm.1.1.1)
      rw [if_pos (ct_kk hc), e3]
      by_cases y : Int32.ofNat (kN h 198 3) ≤ 0
      · rw [if_pos y]
      · rw [if_neg y, hF, h0, if_pos (by decide)]
    · have := ew (w - (tr * 6 + z) * 6) (by omega)
      rw [show (tr * 6 + z) * 6 + (w - (tr * 6 + z) * 6) = w by omega, h0, Nat.zero_mul] at this
      rw [this]
      by_cases y : w - (tr * 6 + z) * 6 < kN h 198 3
      · rw [if_pos y]
      · rw [if_neg y]
  · obtain ⟨g', e, f', w'⟩ := kloop_inv (body := f_X10_weigh_l160 162 c v (Int32.ofNat tr) v4 (Int32.ofNat z) F) (fun o s => s.1 = Int32.ofNat o ∧ kfp Wput g s.2 ∧ Wst s.2 (wtN h T A L) (paN h T) ((tr * 6 + z) * 6 + o)) (fun r => kfp Wput g r ∧ Wst r (wtN h T A L) (paN h T) ((tr * 6 + z) * 6 + kN h 198 3)) (kN h 198 3) (s0 := ((0 : Int32), g)) (by omega) ⟨rfl, kfp.rf, x⟩ (fun o s ho hP => by
        obtain ⟨s1, q⟩ := s
        obtain ⟨p1, p2, p3⟩ := hP
        dsimp only at p1 p2 p3
        subst p1
        have fq : kfp (Wwg c) h q := fg.tr (p2.wide fun l i y => by unfold Wput at y; unfold Wwg; omega)
        have rq := hr.fp fq
        have awq : Aw h q T (kN h 198 4) := aw.same fun i => p2.2.2.1 _ _ (by unfold Wput; omega)
        have fac := x_factor rc rr fq st hv sv awq (cl := 1) (k := o) (tr := tr) (by omega) ho htr
        have f2l := fcN_le rc T A L (cl := 1) (k := o) (tr := tr) ho htr
        obtain ⟨q', z1, z2, z3⟩ := x_put10 rc rq awq (tr := tr) (z := z) (o := o) htr (by omega) (by omega) rfl p3
        rw [ew o (by omega), if_pos ho] at z1
        have e3 : kI q c 3 = Int32.ofNat (kN h 198 3) := (fq.2.2.1 _ _ (by unfold Wwg; omega)).trans (hm.1.2.trans hm.1.1.1)
        have b200 : ∀ w : Int32, w = Int32.ofNat tr → f_X10_weigh_b200 q 162 c v (Int32.ofNat tr) v4 (Int32.ofNat z) F (Int32.ofNat o) 162 (Int32.ofNat tr) (Int32.ofNat z) (Int32.ofNat o) F 162 c v (1 : Int32) (Int32.ofNat o) w = some (.inl (Int32.ofNat (o + 1), q')) := fun w hw => by
          unfold f_X10_weigh_b200
          rw [hw, if_pos kk162, show (1 : Int32) = Int32.ofNat 1 from rfl, fac, kb_s, if_pos kk162, hF, n64_mul, z1, kb_s, kl_e, n32_add]
        refine ⟨(Int32.ofNat (o + 1), q'), ?_, rfl, p2.tr (z2.wide fun l i y => y), z3⟩
        unfold f_X10_weigh_l160
        dsimp only
        rw [if_pos (ct_kk hc), e3, if_neg (by rw [n32_le (by omega) (by omega)]; omega), if_neg (by rw [hF, show (0 : Int64) = Int64.ofNat 0 from rfl, lgn_le0 (by omega) (by omega)]; omega)]
        by_cases y : tr = 1
        · rw [if_pos (by rw [y]; rfl), b200 1 (by rw [y]; rfl)]
        · rw [if_neg (by rw [n32_eql (by omega) (by omega)]; exact y), b200 0 (by rw [show tr = 0 by omega]; rfl)]) (fun s hP => by
        obtain ⟨s1, q⟩ := s
        obtain ⟨p1, p2, p3⟩ := hP
        dsimp only at p1 p2 p3
        subst p1
        have fq : kfp (Wwg c) h q := fg.tr (p2.wide fun l i y => by unfold Wput at y; unfold Wwg; omega)
        have e3 : kI q c 3 = Int32.ofNat (kN h 198 3) := (fq.2.2.1 _ _ (by unfold Wwg; omega)).trans (hm.1.2.trans hm.1.1.1)
        refine ⟨q, ?_, p2, p3⟩
        unfold f_X10_weigh_l160
        dsimp only
        rw [if_pos (ct_kk hc), e3, if_pos (by rw [n32_le (by omega) (by omega)]; omega)])
    refine ⟨g', e, f', ?_⟩
    have := w'.skips (6 - kN h 198 3) (fun w w1 w2 => by
      have q := ew (w - (tr * 6 + z) * 6) (by omega)
      rw [show (tr * 6 + z) * 6 + (w - (tr * 6 + z) * 6) = w by omega, if_neg (by omega)] at q
      exact q)
    rw [show (tr * 6 + z) * 6 + kN h 198 3 + (6 - kN h 198 3) = (tr * 6 + z) * 6 + 6 by omega] at this
    exact this
/-- all KINDS of 0 -/
theorem x_wgTwo {h g : KH} {c v : Nat} (rc : RC h c) (rr : Rrule h c) (fg : kfp (Wwg c) h g) (st : St h v) (hv : 64 ≤ v ∧ v + 3 < 162) {T A L : Nat → Nat} (sv : Sv h v T A L) (aw : Aw h g T (kN h 198 4)) {tr : Nat} (htr : tr < 2)
    {F : Int64} {f : Nat} (hf : f = if tr = 0 then kN h 203 2 else 100 - kN h 203 2) (hF : F = Int64.ofNat f) (x : Wst g (wtN h T A L) (paN h T) (tr * 36)) :
    ∃ g', kloop (f_X10_weigh_l125 162 c v (Int32.ofNat tr) F) KF ((0 : Int32), g) = some g' ∧ kfp Wput g g' ∧ Wst g' (wtN h T A L) (paN h T) (tr * 36 + 36) := by
  obtain ⟨hr, hc, h5, hm, -⟩ := id rc
  have c39 := hc.lt
  have n3 := hm.1.1.2
  obtain ⟨g', e, f', w'⟩ := kloop_inv (body := f_X10_weigh_l125 162 c v (Int32.ofNat tr) F) (fun z s => s.1 = Int32.ofNat z ∧ kfp Wput g s.2 ∧ Wst s.2 (wtN h T A L) (paN h T) ((tr * 6 + z) * 6)) (fun r => kfp Wput g r ∧ Wst r (wtN h T A L) (paN h T) ((tr * 6 + kN h 198 3) * 6)) (kN h 198 3) (s0 := ((0 : Int32), g)) (by omega) ⟨rfl, kfp.rf, by rw [show (tr * 6 + 0) * 6 = tr * 36 by omega]; exact x⟩ (fun z s hz hP => by
      obtain ⟨s1, q⟩ := s
      obtain ⟨p1, p2, p3⟩ := hP
      dsimp only at p1 p2 p3
      subst p1
      have fq : kfp (Wwg c) h q := fg.tr (p2.wide fun l i y => by unfold Wput at y; unfold Wwg; omega)
      have awq : Aw h q T (kN h 198 4) := aw.same fun i => p2.2.2.1 _ _ (by unfold Wput; omega)
      have fac := x_factor rc rr fq st hv sv awq (cl := 0) (k := z) (tr := 1 - tr) (by omega) hz (by omega)
      obtain ⟨q', z1, z2, z3⟩ := x_wgOne rc rr fq st hv sv awq htr hz (v4 := F) (F := Int64.ofNat (f * fcN h T A L 0 z (1 - tr))) hf rfl p3
      have e3 : kI q c 3 = Int32.ofNat (kN h 198 3) := (fq.2.2.1 _ _ (by unfold Wwg; omega)).trans (hm.1.2.trans hm.1.1.1)
      have b151 : ∀ w : Int32, w = Int32.ofNat (1 - tr) → f_X10_weigh_b151 q 162 c v (Int32.ofNat tr) F (Int32.ofNat z) F 162 c v (0 : Int32) (Int32.ofNat z) w = some (.inl (Int32.ofNat (z + 1), q')) := fun w hw => by
        unfold f_X10_weigh_b151 f_X10_weigh_b213
        rw [hw, if_pos kk162, show (0 : Int32) = Int32.ofNat 0 from rfl, fac, kb_s, kl_e, hF, n64_mul]
        rw [hF] at z1
        rw [show (Int32.ofNat 0) = (0 : Int32) from rfl, z1, kb_s, kl_e, n32_addl]
      refine ⟨(Int32.ofNat (z + 1), q'), ?_, rfl, p2.tr z2, by rw [show (tr * 6 + (z + 1)) * 6 = (tr * 6 + z) * 6 + 6 by omega]; exact z3⟩
      unfold f_X10_weigh_l125
      dsimp only
      rw [if_pos (ct_kk hc), e3, if_neg (by rw [n32_le (by omega) (by omega)]; omega)]
      by_cases y : tr = 0
      · rw [if_pos (by rw [y]; rfl), b151 1 (by rw [y]; rfl)]
      · rw [if_neg (by rw [n32_ne0 (by omega)]; exact y), b151 0 (by rw [show tr = 1 by omega]; rfl)]) (fun s hP => by
      obtain ⟨s1, q⟩ := s
      obtain ⟨p1, p2, p3⟩ := hP
      dsimp only at p1 p2 p3
      subst p1
      have fq : kfp (Wwg c) h q := fg.tr (p2.wide fun l i y => by unfold Wput at y; unfold Wwg; omega)
      have e3 : kI q c 3 = Int32.ofNat (kN h 198 3) := (fq.2.2.1 _ _ (by unfold Wwg; omega)).trans (hm.1.2.trans hm.1.1.1)
      refine ⟨q, ?_, p2, p3⟩
      unfold f_X10_weigh_l125
      dsimp only
      rw [if_pos (ct_kk hc), e3, if_pos (by rw [n32_le (by omega) (by omega)]; omega)])
  refine ⟨g', e, f', ?_⟩
  have := w'.skips ((6 - kN h 198 3) * 6) (fun w w1 w2 => by
    unfold wtN
    rw [if_neg (fun q => by omega)])
  rw [show (tr * 6 + kN h 198 3) * 6 + (6 - kN h 198 3) * 6 = tr * 36 + 36 by omega] at this
  exact this
theorem x_weigh {h : KH} {c v : Nat} (rc : RC h c) (rr : Rrule h c) (ry : Ryt h c) (st : St h v) (hv : 64 ≤ v ∧ v + 3 < 162) {T A L : Nat → Nat} (sv : Sv h v T A L) :
    ∃ h', f_X10_weigh h 162 c v = some h' ∧ kfp (Wwg c) h h' ∧ Ryt h' c ∧ Aw h h' T (kN h 198 4) ∧ Wst h' (wtN h T A L) (paN h T) 72 := by
  obtain ⟨hr, hc, h5, hm, -⟩ := id rc
  have c39 := hc.lt
  obtain ⟨g0, g1, e0, e1, f1, y1, aw1⟩ := x_weighA rc rr ry st T (fun t ht => (sv.1 t ht).1) hv.2 hv.1
  have F1 : kfp (Wwg c) h g1 := f1.wide fun l i y => by unfold Wyb at y; unfold Wwg; omega
  obtain ⟨g2, e2⟩ : ∃ g, g = ksI g1 162 3 0 := ⟨_, rfl⟩
  have F2 : kfp (Wwg c) h g2 := by rw [e2]; exact F1.sI _ (by unfold Wwg; omega)
  have r2 := hr.fp F2
  have f3 := kfillL_fp g2 163 0 72
  have F3 : kfp (Wwg c) h (kfillL g2 163 0 72) := F2.tr (f3.wide fun l i y => by unfold Wwg; omega)
  have r3 := hr.fp F3
  have f4 := kfillL_fp (kfillL g2 163 0 72) 166 0 2
  have F4 : kfp (Wwg c) h (kfillL (kfillL g2 163 0 72) 166 0 2) := F3.tr (f4.wide fun l i y => by unfold Wwg; omega)
  obtain ⟨g4, e4⟩ : ∃ g, g = kfillL (kfillL g2 163 0 72) 166 0 2 := ⟨_, rfl⟩
  have aw4 : Aw h g4 T (kN h 198 4) := aw1.same fun i => by rw [e4, f4.2.2.1 _ _ (by omega), f3.2.2.1 _ _ (by omega), e2, kI_sI, if_neg (by omega)]
  have W4 : Wst g4 (wtN h T A L) (paN h T) 0 := by
    rw [e4]
    refine ⟨?_, fun w hw => ?_, fun i hi => absurd hi (Nat.not_lt_zero _), fun w hw => (by cases hw), ?_, ?_⟩
    · rw [f4.2.2.1 _ _ (by omega), f3.2.2.1 _ _ (by omega), e2, kI_sI, if_pos ⟨rfl, rfl⟩]
      rfl
    · rw [f4.2.2.2 _ _ (by omega), kfillL_L, if_pos ⟨rfl, hw⟩, if_neg (by omega)]
      rfl
    · rw [kfillL_L, if_pos ⟨rfl, by omega⟩]
      rfl
    · rw [kfillL_L, if_pos ⟨rfl, by omega⟩]
      rfl
  rw [← e4] at F4
  obtain ⟨g5, e5, f5, w5⟩ := kloop_inv (body := f_X10_weigh_l95 162 c v) (fun tr s => s.1 = Int32.ofNat tr ∧ kfp Wput g4 s.2 ∧ Wst s.2 (wtN h T A L) (paN h T) (tr * 36)) (fun r => kfp Wput g4 r ∧ Wst r (wtN h T A L) (paN h T) 72) 2 (s0 := ((0 : Int32), g4)) (by omega) ⟨rfl, kfp.rf, W4⟩ (fun tr s htr hP => by
      obtain ⟨s1, q⟩ := s
      obtain ⟨p1, p2, p3⟩ := hP
      dsimp only at p1 p2 p3
      subst p1
      have fq : kfp (Wwg c) h q := F4.tr (p2.wide fun l i y => by unfold Wput at y; unfold Wwg; omega)
      have awq : Aw h q T (kN h 198 4) := aw4.same fun i => p2.2.2.1 _ _ (by unfold Wput; omega)
      obtain ⟨b1, b2, b3⟩ := hm.2.2.2.1
      have b4 := b1.2
      have e6 : kI q c 6 = Int32.ofNat (kN h 203 2) := (fq.2.2.1 _ _ (by unfold Wwg; omega)).trans (b3.trans b1.1)
      obtain ⟨q', z1, z2, z3⟩ := x_wgTwo rc rr fq st hv sv awq htr (F := Int64.ofNat (if tr = 0 then kN h 203 2 else 100 - kN h 203 2)) rfl rfl p3
      refine ⟨(Int32.ofNat (tr + 1), q'), ?_, rfl, p2.tr z2, by rw [show (tr + 1) * 36 = tr * 36 + 36 by omega]; exact z3⟩
      unfold f_X10_weigh_l95 f_X10_weigh_b120
      dsimp only
      rw [if_neg (by rw [n32_ler (by omega) (by omega)]; omega), if_pos (ct_kk hc), if_pos (ct_kk hc), e6, n32_subr (by omega), n32_toI64 (by omega), n32_toI64 (by omega)]
      by_cases y : tr = 0
      · rw [if_pos y] at z1
        rw [if_pos (by rw [y]; rfl), z1, kb_s, kl_e, n32_addl]
      · rw [if_neg y] at z1
        rw [if_neg (by rw [n32_ne0 (by omega)]; exact y), z1, kb_s, kl_e, n32_addl]) (fun s hP => by
      obtain ⟨s1, q⟩ := s
      obtain ⟨p1, p2, p3⟩ := hP
      dsimp only at p1 p2 p3
      subst p1
      refine ⟨q, ?_, p2, p3⟩
      unfold f_X10_weigh_l95
      dsimp only
      rw [if_pos (by decide)])
  have F5 : kfp (Wwg c) h g5 := F4.tr (f5.wide fun l i y => by unfold Wput at y; unfold Wwg; omega)
  refine ⟨g5, ?_, F5, ?_, aw4.same fun i => f5.2.2.1 _ _ (by unfold Wput; omega), w5⟩
  · unfold f_X10_weigh
    rw [if_pos kk162, rf162_5 hr, if_pos (show 167 < 999999 by omega), e0, kb_s, e1, kb_s, ← e2, kl_e, rf162_0 r2, if_pos (show 163 < 999999 by omega), x_fillL kk163 kn163 (by omega), kb_s, rf162_4 r3, if_pos (show 166 < 999999 by omega), x_fillL kk166 kn166 (by omega), kb_s, ← e4, e5, kb_s]
  · have f25 : kfp (fun l i => (163 ≤ l ∧ l ≤ 166) ∨ (l = 162 ∧ i = 3)) g1 g5 := by
      have a : kfp (fun l i => (163 ≤ l ∧ l ≤ 166) ∨ (l = 162 ∧ i = 3)) g1 g4 := by
        rw [e4, e2]
        rw [e2] at f3 f4
        exact ((kfp.rf.sI _ (by omega)).tr (f3.wide fun l i y => by omega)).tr (f4.wide fun l i y => by omega)
      exact a.tr (f5.wide fun l i y => y)
    exact y1.fp f25 fun l i y w => by
      unfold Wlw at y
      rcases hc with rfl | rfl <;> omega
