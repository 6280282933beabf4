/-! frames by place; the tape, what was refused, the seed: the relation's first parts, and the calls that touch these alone -/
def kfp (W : Nat → Nat → Prop) (h h' : KH) : Prop := h'.1 = h.1 ∧ (∀ l i, kR h' l i = kR h l i) ∧ (∀ l i, ¬ W l i → kI h' l i = kI h l i) ∧ ∀ l i, ¬ W l i → kL h' l i = kL h l i
theorem kfp.rf {W : Nat → Nat → Prop} {h : KH} : kfp W h h := ⟨rfl, fun _ _ => rfl, fun _ _ _ => rfl, fun _ _ _ => rfl⟩
theorem kfp.tr {W : Nat → Nat → Prop} {a b c : KH} (x : kfp W a b) (y : kfp W b c) : kfp W a c :=
  ⟨y.1.trans x.1, fun l i => (y.2.1 l i).trans (x.2.1 l i), fun l i z => (y.2.2.1 l i z).trans (x.2.2.1 l i z), fun l i z => (y.2.2.2 l i z).trans (x.2.2.2 l i z)⟩
theorem kfp.wide {V W : Nat → Nat → Prop} {a b : KH} (x : kfp V a b) (h : ∀ l i, V l i → W l i) : kfp W a b := ⟨x.1, x.2.1, fun l i z => x.2.2.1 l i fun y => z (h l i y), fun l i z => x.2.2.2 l i fun y => z (h l i y)⟩
theorem kfp.sI {W : Nat → Nat → Prop} {h h' : KH} (x : kfp W h h') {l i : Nat} (v : Int32) (hl : W l i) : kfp W h (ksI h' l i v) := by
  refine ⟨x.1, x.2.1, fun a b z => ?_, x.2.2.2⟩
  rw [kI_sI, if_neg (fun (y : a = l ∧ b = i) => z (y.1 ▸ y.2 ▸ hl))]
  exact x.2.2.1 a b z
theorem kfp.sL {W : Nat → Nat → Prop} {h h' : KH} (x : kfp W h h') {l i : Nat} (v : Int64) (hl : W l i) : kfp W h (ksL h' l i v) := by
  refine ⟨x.1, x.2.1, x.2.2.1, fun a b z => ?_⟩
  rw [kL_sL, if_neg (fun (y : a = l ∧ b = i) => z (y.1 ▸ y.2 ▸ hl))]
  exact x.2.2.2 a b z
theorem kRefs.fp {W : Nat → Nat → Prop} {h h' : KH} (hr : kRefs h) (x : kfp W h h') : kRefs h' := hr.same x.1 x.2.1
/-- the tape: its length, its bytes -/
def Rtape (h : KH) : Prop := (∃ t : Nat, t ≤ 1600 ∧ kI h 1 1 = Int32.ofNat t ∧ kI h 173 1 = Int32.ofNat t) ∧ ∀ i, i < 1600 → kI h 174 i = kI h 2 i &&& (255 : Int32)
def Wtape (l i : Nat) : Prop := (l = 1 ∧ i = 1) ∨ l = 2 ∨ (l = 173 ∧ i = 1) ∨ l = 174
/-- what was refused -/
def Rref (h : KH) : Prop := ∀ j, j < 6 → kI h 172 j = kI h 175 j
def Wref (l _ : Nat) : Prop := l = 172 ∨ l = 175
/-- the seed -/
def Rseed (h : KH) : Prop := 0 ≤ (kI h 0 14).toInt ∧ kL h 173 63 = (kI h 0 14).toInt64
def Wseed (l i : Nat) : Prop := (l = 0 ∧ i = 14) ∨ (l = 173 ∧ i = 63)
theorem Rtape.fp {W : Nat → Nat → Prop} {h h' : KH} (r : Rtape h) (x : kfp W h h') (hd : ∀ l i, Wtape l i → ¬ W l i) : Rtape h' := by
  obtain ⟨⟨t, h1, h2, h3⟩, h4⟩ := r
  refine ⟨⟨t, h1, (x.2.2.1 _ _ (hd 1 1 (Or.inl ⟨rfl, rfl⟩))).trans h2, (x.2.2.1 _ _ (hd 173 1 (Or.inr (Or.inr (Or.inl ⟨rfl, rfl⟩))))).trans h3⟩, fun i hi => ?_⟩
  rw [x.2.2.1 174 i (hd 174 i (Or.inr (Or.inr (Or.inr rfl)))), x.2.2.1 2 i (hd 2 i (Or.inr (Or.inl rfl)))]
  exact h4 i hi
theorem Rref.fp {W : Nat → Nat → Prop} {h h' : KH} (r : Rref h) (x : kfp W h h') (hd : ∀ l i, Wref l i → ¬ W l i) : Rref h' := by
  intro j hj
  rw [x.2.2.1 172 j (hd 172 j (Or.inl rfl)), x.2.2.1 175 j (hd 175 j (Or.inr rfl))]
  exact r j hj
theorem Rseed.fp {W : Nat → Nat → Prop} {h h' : KH} (r : Rseed h) (x : kfp W h h') (hd : ∀ l i, Wseed l i → ¬ W l i) : Rseed h' := by
  unfold Rseed
  rw [x.2.2.1 0 14 (hd 0 14 (Or.inl ⟨rfl, rfl⟩)), x.2.2.2 173 63 (hd 173 63 (Or.inr ⟨rfl, rfl⟩))]
  exact r
/-- one refusal more, on both sides -/
theorem Rref_more {h : KH} (r : Rref h) (j : Nat) : Rref (ksI (ksI h 172 j (kI h 172 j + 1)) 175 j (kI (ksI h 172 j (kI h 172 j + 1)) 175 j + 1)) := by
  intro k hk
  have e : kI (ksI h 172 j (kI h 172 j + 1)) 175 j = kI h 175 j := by rw [kI_sI, if_neg (by omega)]
  rw [e, kI_sI, if_neg (by omega), kI_sI, kI_sI]
  by_cases z : k = j
  · subst z
    rw [if_pos ⟨rfl, rfl⟩, if_pos ⟨rfl, rfl⟩, r k hk]
  · rw [if_neg (fun y => z y.2), if_neg (fun y => z y.2), kI_sI, if_neg (by omega)]
    exact r k hk
theorem fp_more (h : KH) (j : Nat) : kfp Wref h (ksI (ksI h 172 j (kI h 172 j + 1)) 175 j (kI (ksI h 172 j (kI h 172 j + 1)) 175 j + 1)) := (kfp.rf.sI _ (Or.inl rfl)).sI _ (Or.inr rfl)
theorem c_seed {h : KH} (a : Int32) (hr : kRefs h) (hf : Rref h) (hs : Rseed h) : ∃ r h1 h2, f_X11_seed h 0 a = some (r, h1) ∧ f_X12_seed h1 173 a = some (r, h2) ∧ Rref h2 ∧ Rseed h2 ∧ kfp (fun l i => Wref l i ∨ Wseed l i) h h2 := by
  by_cases h0 : 0 ≤ a.toInt
  · refine ⟨1, ksI h 0 14 a, ksL (ksI h 0 14 a) 173 63 a.toInt64, by rw [x_seed hr, if_pos h0], by rw [m_seed (hr.sI _ _ _), if_pos h0], ?_⟩
    have fp : kfp Wseed h (ksL (ksI h 0 14 a) 173 63 a.toInt64) := (kfp.rf.sI _ (Or.inl ⟨rfl, rfl⟩)).sL _ (Or.inr ⟨rfl, rfl⟩)
    refine ⟨hf.fp fp (fun l i z y => ?_), ⟨h0, rfl⟩, fp.wide fun l i z => Or.inr z⟩
    rcases z with z | z <;> rcases y with y | y <;> omega
  · refine ⟨0, _, _, by rw [x_seed hr, if_neg h0], by rw [m_seed (hr.sI _ _ _), if_neg h0], Rref_more hf 5, hs.fp (fp_more h 5) (fun l i z y => ?_), (fp_more h 5).wide fun l i z => Or.inl z⟩
    rcases z with z | z <;> rcases y with y | y <;> omega
theorem Wtape_ref {l i : Nat} (z : Wtape l i) : ¬ Wref l i := by
  intro y
  rcases z with z | z | z | z <;> rcases y with y | y <;> omega
theorem c_end {h : KH} (a : Int32) (hr : kRefs h) (ht : Rtape h) (hf : Rref h) : ∃ r h1 h2, f_X11_end h 0 a = some (r, h1) ∧ f_X12_end h1 173 a = some (r, h2) ∧ Rtape h2 ∧ Rref h2 ∧ kfp (fun l i => Wtape l i ∨ Wref l i) h h2 := by
  obtain ⟨⟨t, h16, hx, hm⟩, hby⟩ := id ht
  by_cases h0 : 0 ≤ a.toInt ∧ a.toInt ≤ t
  · have fp : kfp Wtape h (ksI (ksI h 1 1 a) 173 1 a) := (kfp.rf.sI _ (Or.inl ⟨rfl, rfl⟩)).sI _ (Or.inr (Or.inr (Or.inl ⟨rfl, rfl⟩)))
    have hm1 : kI (ksI h 1 1 a) 173 1 = Int32.ofNat t := by rw [kI_sI, if_neg (by omega), hm]
    obtain ⟨ea, la⟩ := n32_of (v := a) (by rw [i0_lt]; omega)
    refine ⟨1, _, _, by rw [cx_end hr hx h16, if_pos h0], by rw [cm_end (hr.sI _ _ _) hm1 h16, if_pos h0], ⟨⟨a.toNatClampNeg, ?_, ?_, ?_⟩, fun i hi => ?_⟩, hf.fp fp (fun l i z y => Wtape_ref y z), fp.wide fun l i z => Or.inl z⟩
    · have := (cl_lt h0.1 1601)
      omega
    · rw [kI_sI, if_neg (by omega), kI_sI, if_pos ⟨rfl, rfl⟩]
      exact ea
    · rw [kI_sI, if_pos ⟨rfl, rfl⟩]
      exact ea
    · rw [kI_sI, if_neg (by omega), kI_sI, if_neg (by omega), kI_sI, if_neg (by omega), kI_sI, if_neg (by omega)]
      exact hby i hi
  · have hm1 : kI (ksI h 172 0 (kI h 172 0 + 1)) 173 1 = Int32.ofNat t := by rw [kI_sI, if_neg (by omega), hm]
    exact ⟨0, _, _, by rw [cx_end hr hx h16, if_neg h0], by rw [cm_end (hr.sI _ _ _) hm1 h16, if_neg h0], ht.fp (fp_more h 0) (fun l i z y => Wtape_ref z y), Rref_more hf 0, (fp_more h 0).wide fun l i z => Or.inr z⟩
theorem xadd1_fp (h : KH) (t : Nat) (v sh : Int32) : kfp Wtape h (xadd1 h t v sh) := (kfp.rf.sI _ (Or.inr (Or.inl rfl))).sI _ (Or.inl ⟨rfl, rfl⟩)
theorem xadd_fp (h : KH) (t : Nat) (v : Int32) : kfp Wtape h (xadd h t v) := (((xadd1_fp _ _ _ _).tr (xadd1_fp _ _ _ _)).tr (xadd1_fp _ _ _ _)).tr (xadd1_fp _ _ _ _)
theorem xfeed_fp (h : KH) (t : Nat) (a b c d e : Int32) : kfp Wtape h (xfeed h t a b c d e) := ((((xadd_fp _ _ _).tr (xadd_fp _ _ _)).tr (xadd_fp _ _ _)).tr (xadd_fp _ _ _)).tr (xadd_fp _ _ _)
def Wxt (l i : Nat) : Prop := (l = 1 ∧ i = 1) ∨ l = 2
theorem xfeed_fp2 (h : KH) (t : Nat) (a b c d e : Int32) : kfp Wxt h (xfeed h t a b c d e) := by
  have h1 : ∀ (h : KH) (t : Nat) (v sh : Int32), kfp Wxt h (xadd1 h t v sh) := fun h t v sh => (kfp.rf.sI _ (Or.inr rfl)).sI _ (Or.inl ⟨rfl, rfl⟩)
  have h4 : ∀ (h : KH) (t : Nat) (v : Int32), kfp Wxt h (xadd h t v) := fun h t v => (((h1 _ _ _ _).tr (h1 _ _ _ _)).tr (h1 _ _ _ _)).tr (h1 _ _ _ _)
  exact ((((h4 _ _ _).tr (h4 _ _ _)).tr (h4 _ _ _)).tr (h4 _ _ _)).tr (h4 _ _ _)
def Wmt (l i : Nat) : Prop := (l = 173 ∧ i = 1) ∨ l = 174
theorem mfeed_fp (h : KH) (t : Nat) (a b c d e : Int32) : ∀ k, kfp Wmt h (mfeed h t a b c d e k)
  | 0 => kfp.rf
  | k + 1 => ((mfeed_fp h t a b c d e k).sI _ (Or.inr rfl)).sI _ (Or.inl ⟨rfl, rfl⟩)
theorem c_feed {h : KH} (a b c d e : Int32) (hr : kRefs h) (ht : Rtape h) (hf : Rref h) : ∃ r h1 h2, f_X11_feed h 0 a b c d e = some (r, h1) ∧ f_X12_feed h1 173 a b c d e = some (r, h2) ∧ Rtape h2 ∧ Rref h2 ∧ kfp (fun l i => Wtape l i ∨ Wref l i) h h2 := by
  obtain ⟨⟨t, h16, hx, hm⟩, hby⟩ := id ht
  by_cases h0 : t + 20 ≤ 1600
  · have f1 := xfeed_fp2 h t a b c d e
    have r1 := hr.fp f1
    have hm1 : kI (xfeed h t a b c d e) 173 1 = Int32.ofNat t := by rw [f1.2.2.1 173 1 (fun z => by rcases z with z | z <;> omega), hm]
    have f2 := mfeed_fp (xfeed h t a b c d e) t a b c d e 20
    have fp : kfp Wtape h (mfeed (xfeed h t a b c d e) t a b c d e 20) := (f1.wide fun l i z => by
      rcases z with z | z
      · exact Or.inl z
      · exact Or.inr (Or.inl z)).tr (f2.wide fun l i z => Or.inr (Or.inr z))
    refine ⟨_, _, _, by rw [x_feed hr hx h16, if_pos h0], by rw [m_feed r1 hm1 h16, if_pos h0], ⟨⟨t + 20, h0, ?_, mfeed_len hm1 a b c d e 20⟩, fun i hi => ?_⟩, hf.fp fp (fun l i z y => Wtape_ref y z), fp.wide fun l i z => Or.inl z⟩
    · rw [f2.2.2.1 1 1 (fun z => by rcases z with z | z <;> omega)]
      exact xadd_len _ _ _
    · rw [mfeed_byte _ _ _ _ _ _ _ _ _ (Nat.le_refl 20), f2.2.2.1 2 i (fun z => by rcases z with z | z <;> omega), xfeed_byte, f1.2.2.1 174 i (fun z => by rcases z with z | z <;> omega), hby i hi]
  · have hm1 : kI (ksI h 172 0 (kI h 172 0 + 1)) 173 1 = Int32.ofNat t := by rw [kI_sI, if_neg (by omega), hm]
    exact ⟨-1, _, _, by rw [x_feed hr hx h16, if_neg h0], by rw [m_feed (hr.sI _ _ _) hm1 h16, if_neg h0], ht.fp (fp_more h 0) (fun l i z y => Wtape_ref z y), Rref_more hf 0, (fp_more h 0).wide fun l i z => Or.inr z⟩
