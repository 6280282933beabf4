/-! the tape: end, feed -/
theorem cx_end {h : KH} (hr : kRefs h) {t : Nat} (ht : kI h 1 1 = Int32.ofNat t) (h16 : t ≤ 1600) (a : Int32) : f_X11_end h 0 a = some (if 0 ≤ a.toInt ∧ a.toInt ≤ t then (1, ksI h 1 1 a) else (0, ksI h 172 0 (kI h 172 0 + 1))) := by
  have hb : f_X11_end_b15 h 0 = some (0, ksI h 172 0 (kI h 172 0 + 1)) := by
    unfold f_X11_end_b15
    rw [if_pos kk0, show (0 : Int32) = Int32.ofNat 0 from rfl, x_refuse hr (by omega), kb_s]
  unfold f_X11_end
  by_cases h1 : a < 0
  · rw [if_pos h1, hb, if_neg]
    rw [i0_lt] at h1
    omega
  · rw [if_neg h1]
    simp only [kk0, rf0_0 hr, kk1, if_true, Nat.reduceLT, ht, kl_e, hb]
    rw [i0_lt] at h1
    by_cases h2 : a ≤ Int32.ofNat t
    · rw [if_pos h2, if_pos]
      rw [Int32.le_iff_toInt_le, n32_toInt (by omega)] at h2
      omega
    · rw [if_neg h2, if_neg]
      rw [Int32.le_iff_toInt_le, n32_toInt (by omega)] at h2
      omega
theorem cm_end {h : KH} (hr : kRefs h) {t : Nat} (ht : kI h 173 1 = Int32.ofNat t) (h16 : t ≤ 1600) (a : Int32) : f_X12_end h 173 a = some (if 0 ≤ a.toInt ∧ a.toInt ≤ t then (1, ksI h 173 1 a) else (0, ksI h 175 0 (kI h 175 0 + 1))) := by
  have hb : f_X12_end_b12 h 173 = some (0, ksI h 175 0 (kI h 175 0 + 1)) := by
    unfold f_X12_end_b12
    simp only [kk173, rf173_9 hr, kk175, kn175, if_true, Nat.reduceLT, kl_e]
    rfl
  unfold f_X12_end
  by_cases h1 : a < 0
  · rw [if_pos h1, hb, if_neg]
    rw [i0_lt] at h1
    omega
  · rw [if_neg h1]
    simp only [kk173, if_true, ht, kl_e, hb]
    rw [i0_lt] at h1
    by_cases h2 : a ≤ Int32.ofNat t
    · rw [if_pos h2, if_pos]
      rw [Int32.le_iff_toInt_le, n32_toInt (by omega)] at h2
      omega
    · rw [if_neg h2, if_neg]
      rw [Int32.le_iff_toInt_le, n32_toInt (by omega)] at h2
      omega
/-- a byte as the class writes it -/
def tby (v sh : Int32) : Int32 := vp_nar .byte (((v >>> (sh &&& 31))).toInt8.toInt32)
theorem x_addTurn {h : KH} (hr : kRefs h) {t : Nat} (ht : kI h 1 1 = Int32.ofNat t) (h16 : t < 1600) (v sh : Int32) (hs : ¬ sh < 0) : f_X9_addNumber_l3 1 v (sh, h) = some (.inl (sh + (-8 : Int32), ksI (ksI h 2 t (tby v sh)) 1 1 (Int32.ofNat (t + 1)))) := by
  unfold f_X9_addNumber_l3
  dsimp only
  rw [if_neg hs]
  simp only [kk1, rf1_0 hr, kk2, kn2, if_true, Nat.reduceLT, ht, kl_e]
  rw [if_neg, if_neg, n32_cl (by omega)]
  · unfold f_X9_addNumber_b42
    rw [kl_e]
    have e : kI (ksI h 2 t (vp_nar .byte (((v >>> (sh &&& 31))).toInt8.toInt32))) 1 1 = Int32.ofNat t := by
      rw [kI_sI, if_neg (by omega), ht]
    rw [e, show Int32.ofNat t + (1 : Int32) = Int32.ofNat (t + 1) from n32_add t 1]
    rfl
  · rw [n32_cl (by omega)]
    exact fun z => z.elim (n32_nn (by omega)) (by omega)
  · rw [n32_le (by omega) (by omega)]
    omega
def xadd1 (h : KH) (t : Nat) (v sh : Int32) : KH := ksI (ksI h 2 t (tby v sh)) 1 1 (Int32.ofNat (t + 1))
theorem xadd1_refs {h : KH} (hr : kRefs h) (t : Nat) (v sh : Int32) : kRefs (xadd1 h t v sh) := (hr.sI _ _ _).sI _ _ _
theorem xadd1_len (h : KH) (t : Nat) (v sh : Int32) : kI (xadd1 h t v sh) 1 1 = Int32.ofNat (t + 1) := by
  unfold xadd1
  rw [kI_sI, if_pos ⟨rfl, rfl⟩]
def xadd (h : KH) (t : Nat) (v : Int32) : KH := xadd1 (xadd1 (xadd1 (xadd1 h t v 24) (t + 1) v 16) (t + 2) v 8) (t + 3) v 0
theorem x_addTurn2 {h : KH} (hr : kRefs h) {t : Nat} (ht : kI h 1 1 = Int32.ofNat t) (h16 : t < 1600) (v : Int32) {sh sh' : Int32} (hs : ¬ sh < 0) (he : sh + (-8 : Int32) = sh') : f_X9_addNumber_l3 1 v (sh, h) = some (.inl (sh', xadd1 h t v sh)) := by
  rw [x_addTurn hr ht h16 v sh hs, he]
  rfl
theorem x_addNumber {h : KH} (hr : kRefs h) {t : Nat} (ht : kI h 1 1 = Int32.ofNat t) (h16 : t + 4 ≤ 1600) (v : Int32) : f_X9_addNumber h 1 v = some (xadd h t v) := by
  unfold f_X9_addNumber
  have r1 := xadd1_refs hr t v 24
  have r2 := xadd1_refs r1 (t + 1) v 16
  have r3 := xadd1_refs r2 (t + 2) v 8
  have e0 := x_addTurn2 hr ht (by omega) v (sh := 24) (sh' := 16) (by decide) (by decide)
  have e1 := x_addTurn2 r1 (xadd1_len h t v 24) (by omega) v (sh := 16) (sh' := 8) (by decide) (by decide)
  have e2 := x_addTurn2 r2 (xadd1_len _ (t + 1) v 16) (by omega) v (sh := 8) (sh' := 0) (by decide) (by decide)
  have e3 := x_addTurn2 r3 (xadd1_len _ (t + 2) v 8) (by omega) v (sh := 0) (sh' := -8) (by decide) (by decide)
  have e4 : f_X9_addNumber_l3 1 v ((-8 : Int32), xadd h t v) = some (.inr (xadd h t v)) := by
    unfold f_X9_addNumber_l3
    dsimp only
    rw [if_pos (by decide)]
  have k : kloop (f_X9_addNumber_l3 1 v) KF ((24 : Int32), h) = some (xadd h t v) :=
    (kloop_go (n := 999999) e0).trans ((kloop_go (n := 999998) e1).trans ((kloop_go (n := 999997) e2).trans ((kloop_go (n := 999996) e3).trans (kloop_end (n := 999995) e4))))
  rw [k, kb_s]
theorem xadd_refs {h : KH} (hr : kRefs h) (t : Nat) (v : Int32) : kRefs (xadd h t v) := xadd1_refs (xadd1_refs (xadd1_refs (xadd1_refs hr _ _ _) _ _ _) _ _ _) _ _ _
theorem xadd_len (h : KH) (t : Nat) (v : Int32) : kI (xadd h t v) 1 1 = Int32.ofNat (t + 4) := xadd1_len _ _ _ _
def xfeed (h : KH) (t : Nat) (a b c d e : Int32) : KH := xadd (xadd (xadd (xadd (xadd h t a) (t + 4) b) (t + 8) c) (t + 12) d) (t + 16) e
theorem x_feed {h : KH} (hr : kRefs h) {t : Nat} (ht : kI h 1 1 = Int32.ofNat t) (h16 : t ≤ 1600) (a b c d e : Int32) : f_X11_feed h 0 a b c d e = some (if t + 20 ≤ 1600 then (Int32.ofNat (t + 20), xfeed h t a b c d e) else (-1, ksI h 172 0 (kI h 172 0 + 1))) := by
  unfold f_X11_feed
  simp only [kk0, rf0_0 hr, kk1, if_true, Nat.reduceLT, ht]
  rw [show Int32.ofNat t + (20 : Int32) = Int32.ofNat (t + 20) from n32_add t 20, show (1600 : Int32) = Int32.ofNat 1600 from rfl]
  by_cases h2 : t + 20 ≤ 1600
  · rw [if_pos ((n32_le (by omega) (by omega)).mpr h2), if_pos h2]
    have r1 := xadd_refs hr t a
    have r2 := xadd_refs r1 (t + 4) b
    have r3 := xadd_refs r2 (t + 8) c
    have r4 := xadd_refs r3 (t + 12) d
    have r5 := xadd_refs r4 (t + 16) e
    rw [x_addNumber hr ht (by omega) a, kb_s]
    simp only [rf0_0 r1, kk1, if_true, Nat.reduceLT]
    rw [x_addNumber r1 (xadd_len h t a) (by omega) b, kb_s]
    simp only [rf0_0 r2, kk1, if_true, Nat.reduceLT]
    rw [x_addNumber r2 (xadd_len _ (t + 4) b) (by omega) c, kb_s]
    simp only [rf0_0 r3, kk1, if_true, Nat.reduceLT]
    rw [x_addNumber r3 (xadd_len _ (t + 8) c) (by omega) d, kb_s]
    simp only [rf0_0 r4, kk1, if_true, Nat.reduceLT]
    rw [x_addNumber r4 (xadd_len _ (t + 12) d) (by omega) e, kb_s]
    simp only [rf0_0 r5, kk1, if_true, Nat.reduceLT]
    rw [xadd_len _ (t + 16) e]
    rfl
  · rw [if_neg (fun z => h2 ((n32_le (by omega) (by omega)).mp z)), if_neg h2, show (0 : Int32) = Int32.ofNat 0 from rfl, x_refuse hr (by omega), kb_s]
/-- the model's k-th byte of five numbers -/
def mby (a b c d e : Int32) (k : Nat) : Int32 := ((if k < 4 then a else if k < 8 then b else if k < 12 then c else if k < 16 then d else e) >>> (((8 : Int32) * ((3 : Int32) - (Int32.ofNat k - Int32.ofNat k / (4 : Int32) * (4 : Int32)))) &&& 31)) &&& (255 : Int32)
def mfeed (h : KH) (t : Nat) (a b c d e : Int32) : Nat → KH
  | 0 => h
  | k + 1 => ksI (ksI (mfeed h t a b c d e k) 174 (t + k) (mby a b c d e k)) 173 1 (Int32.ofNat (t + k + 1))
theorem mfeed_refs {h : KH} (hr : kRefs h) (t : Nat) (a b c d e : Int32) : ∀ k, kRefs (mfeed h t a b c d e k)
  | 0 => hr
  | k + 1 => ((mfeed_refs hr t a b c d e k).sI _ _ _).sI _ _ _
theorem mfeed_len {h : KH} {t : Nat} (ht : kI h 173 1 = Int32.ofNat t) (a b c d e : Int32) : ∀ k, kI (mfeed h t a b c d e k) 173 1 = Int32.ofNat (t + k)
  | 0 => ht
  | k + 1 => by
    show kI (ksI _ _ _ _) 173 1 = _
    rw [kI_sI, if_pos ⟨rfl, rfl⟩]
    rfl
theorem m_feedTurn {h : KH} (hr : kRefs h) {t k : Nat} (ht : kI h 173 1 = Int32.ofNat (t + k)) (h16 : t + k < 1600) (hk : k < 20) (a b c d e : Int32) : f_X12_feed_l28 173 a b c d e (Int32.ofNat k, h) = some (.inl (Int32.ofNat (k + 1), ksI (ksI h 174 (t + k) (mby a b c d e k)) 173 1 (Int32.ofNat (t + k + 1)))) := by
  have hb : ∀ w : Int32, f_X12_feed_b81 h 173 a b c d e (Int32.ofNat k) w = some (.inl (Int32.ofNat (k + 1), ksI (ksI h 174 (t + k) ((w >>> (((8 : Int32) * ((3 : Int32) - (Int32.ofNat k - Int32.ofNat k / (4 : Int32) * (4 : Int32)))) &&& 31)) &&& (255 : Int32))) 173 1 (Int32.ofNat (t + k + 1)))) := by
    intro w
    unfold f_X12_feed_b81
    simp only [kk173, rf173_0 hr, kk174, kn174, if_true, Nat.reduceLT, ht, kl_e]
    rw [if_neg, n32_cl (by omega), kI_sI, if_neg (by omega), ht, show Int32.ofNat (t + k) + (1 : Int32) = Int32.ofNat (t + k + 1) from n32_add (t + k) 1, show Int32.ofNat k + (1 : Int32) = Int32.ofNat (k + 1) from n32_add k 1]
    rw [n32_cl (by omega)]
    exact fun z => z.elim (n32_nn (by omega)) (by omega)
  unfold f_X12_feed_l28
  dsimp only
  rw [show (20 : Int32) = Int32.ofNat 20 from rfl, show (4 : Int32) = Int32.ofNat 4 from rfl, show (8 : Int32) = Int32.ofNat 8 from rfl, show (12 : Int32) = Int32.ofNat 12 from rfl, show (16 : Int32) = Int32.ofNat 16 from rfl]
  simp only [n32_le (show 20 < 2147483648 by omega) (show k < 2147483648 by omega), n32_le (show 4 < 2147483648 by omega) (show k < 2147483648 by omega), n32_le (show 8 < 2147483648 by omega) (show k < 2147483648 by omega), n32_le (show 12 < 2147483648 by omega) (show k < 2147483648 by omega), n32_le (show 16 < 2147483648 by omega) (show k < 2147483648 by omega), hb]
  unfold mby
  rw [if_neg (by omega)]
  by_cases h4 : k < 4
  · rw [if_neg (by omega), if_pos h4]
  · rw [if_pos (by omega), if_neg h4]
    by_cases h8 : k < 8
    · rw [if_neg (by omega), if_pos h8]
    · rw [if_pos (by omega), if_neg h8]
      by_cases h12 : k < 12
      · rw [if_neg (by omega), if_pos h12]
      · rw [if_pos (by omega), if_neg h12]
        by_cases h16 : k < 16
        · rw [if_neg (by omega), if_pos h16]
        · rw [if_pos (by omega), if_neg h16]
theorem m_feed {h : KH} (hr : kRefs h) {t : Nat} (ht : kI h 173 1 = Int32.ofNat t) (h16 : t ≤ 1600) (a b c d e : Int32) : f_X12_feed h 173 a b c d e = some (if t + 20 ≤ 1600 then (Int32.ofNat (t + 20), mfeed h t a b c d e 20) else (-1, ksI h 175 0 (kI h 175 0 + 1))) := by
  unfold f_X12_feed
  simp only [kk173, if_true, ht]
  rw [show Int32.ofNat t + (20 : Int32) = Int32.ofNat (t + 20) from n32_add t 20, show (1600 : Int32) = Int32.ofNat 1600 from rfl]
  by_cases h2 : t + 20 ≤ 1600
  · rw [if_pos ((n32_le (by omega) (by omega)).mpr h2), if_pos h2]
    have k : kloop (f_X12_feed_l28 173 a b c d e) KF ((0 : Int32), h) = some (mfeed h t a b c d e 20) :=
      kloop_for (body := f_X12_feed_l28 173 a b c d e) (fun k => (Int32.ofNat k, mfeed h t a b c d e k)) 20 (mfeed h t a b c d e 20) (by omega) (fun k hk => m_feedTurn (mfeed_refs hr t a b c d e k) (mfeed_len ht a b c d e k) (by omega) hk a b c d e) (by
        unfold f_X12_feed_l28
        dsimp only
        rw [if_pos (by decide)])
    rw [k, kb_s, mfeed_len ht]
  · rw [if_neg (fun z => h2 ((n32_le (by omega) (by omega)).mp z)), if_neg h2]
    simp only [rf173_9 hr, kk175, kn175, if_true, Nat.reduceLT, kl_e]
    rfl
