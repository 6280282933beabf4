/-! the model: words, signs and numbers taken or missed -/
/-- the scanner stands at what comes next -/
def MdS (h g : KH) (n : Nat) (s : PS) : Prop := Md h g n (blE (tyN h) n s.1) (.inr s)
theorem m_isLetter_m (h : KH) : f_X12_isLetter h (-1) = some 0 := by
  unfold f_X12_isLetter
  rw [if_pos (by decide)]
theorem m_isDigit_m (h : KH) : f_X12_isDigit h (-1) = some 0 := by
  unfold f_X12_isDigit
  rw [if_pos (by decide)]
theorem m_isHereB {h g : KH} {n w j : Nat} {s : PS} (ht : Rtape h) (n16 : n ≤ 1600) (wd : Wd g w j) (m : MdS h g n s) (v : Int32) (hv : v = lkI (tyN h) n s.1) :
    (kb (f_X12_isLetter g v) fun r7 => if r7 = 0 then some ((0 : Int32), g) else if (kI g 173 2) = (kI g 173 4) then some ((0 : Int32), g) else kl (kI g 173 2) fun x12 => kb (kloop (f_X12_isHere_l35 g 173 w) KF x12) fun e14 => f_X12_isHere_b61 g 173 w e14) = some (if wI (tyN h) n s = j then 1 else 0, g) := by
  have gl := m_glue n16 m
  obtain ⟨m1, m2, m3, m4, m5, m6, m7, m8, m9⟩ := id m
  obtain ⟨j27, w1, w2, w3, w4⟩ := wd
  obtain ⟨d1, d2, d3, d4⟩ := wdL_nm j j27
  have bl := blE_at (tyN h) m2
  have rg := m1.1
  obtain ⟨S, hS⟩ : ∃ S, blE (tyN h) n s.1 = S := ⟨_, rfl⟩
  rw [hS] at bl gl m7
  have weq := wI_eq (h := h) (n := n) (s := s) j27
  rw [hv]
  unfold lkI
  rw [hS]
  by_cases y : n ≤ S
  · have t1 : tkT (tyN h) n s.1 s.2.1 = 1 := by unfold tkT; rw [hS, if_pos y]
    rw [if_pos y, m_isLetter_m, kb_s, if_pos rfl, if_neg (fun z => by have := (weq.mp z).1; omega)]
  · have tb := m_byte ht m1 (i := S) (by omega)
    rw [if_neg y, m_isLetter g tb.2, kb_s, if10]
    by_cases l : isLt (tyN h S) = true
    · rw [if_pos l]
      by_cases q : s.2.1 = true ∧ S = s.1
      · have t5 : tkT (tyN h) n s.1 s.2.1 = 5 := by unfold tkT; rw [hS, if_neg y, if_pos l, if_pos q]
        rw [if_pos (gl.mpr q), if_neg (fun z => by have := (weq.mp z).1; omega)]
      · have t2 : tkT (tyN h) n s.1 s.2.1 = 2 := by unfold tkT; rw [hS, if_neg y, if_pos l, if_neg q]
        obtain ⟨a1, a2, a3, a4⟩ := wdE_at (tyN h) (n := n) (s := S) (by omega) l
        obtain ⟨E, hE⟩ : ∃ E, wdE (tyN h) n S = E := ⟨_, rfl⟩
        rw [hE] at a1 a2 a3 a4
        have tv : tkV (tyN h) n s.1 = flN (wvN (tyN h) S (E - S)) (E - S) := by unfold tkV tkZ; rw [hS, if_neg y, if_pos l, if_neg y, if_pos l, hE]
        have we := word_eq (b := tyN h) (c := fun i => (wdL j).getD i 0) (s := S) (k := E - S) (m := (wdL j).length) (fun i hi => a3 _ (by omega) (by omega)) (by omega) d4 d2 d3
        rw [← d1, ← tv] at we
        have body : ∀ k, S + k ≤ E → f_X12_isHere_l35 g 173 w (Int32.ofNat (S + k)) = if S + k < n ∧ isLt (tyN h (S + k)) = true then some (.inl (Int32.ofNat (S + (k + 1)))) else some (.inr (Int32.ofNat (S + k))) := fun k hk => by
          unfold f_X12_isHere_l35
          rw [if_pos kk173, m1.2.1]
          by_cases z : n ≤ S + k
          · rw [if_pos (by rw [n32_le (by omega) (by omega)]; exact z), if_neg (fun u => by have := u.1; omega)]
          · have tb := m_byte ht m1 (i := S + k) (by omega)
            rw [if_neg (by rw [n32_le (by omega) (by omega)]; exact z), rf173_0 rg, if_pos (show 174 < 999999 by omega), if_pos kk174, kn174, if_neg (by rw [n32_cl (by omega)]; exact fun z => z.elim (n32_nn (by omega)) (by omega)), n32_cl (show S + k < 2147483648 by omega), tb.1, m_isLetter g tb.2, kb_s, if10, n32_addl, kl_e]
            by_cases u : isLt (tyN h (S + k)) = true
            · rw [if_pos u, if_pos ⟨by omega, u⟩]
              rfl
            · rw [if_neg u, if_neg (fun v => u v.2)]
        have e35 := kloop_for (body := f_X12_isHere_l35 g 173 w) (fun k => Int32.ofNat (S + k)) (E - S) (Int32.ofNat E) (by omega) (fun k hk => by
          rw [body k (by omega), if_pos ⟨by omega, a3 _ (by omega) (by omega)⟩]) (by
          rw [body (E - S) (by omega), show S + (E - S) = E by omega, if_neg a4])
        have e35' : kloop (f_X12_isHere_l35 g 173 w) KF (Int32.ofNat S) = some (Int32.ofNat E) := e35
        rw [if_neg (fun z => q (gl.mp z)), m7, kl_e, e35', kb_s]
        unfold f_X12_isHere_b61
        rw [if_pos kk173, if_pos w1, m7, n32_sub (by omega), w2]
        by_cases z : E - S = (wdL j).length
        · obtain ⟨r, er, hr⟩ := kloop_up (body := f_X12_isHere_l76 g 173 w) (fun k => Int32.ofNat k) (fun k => ∀ i, i < k → tyN h (S + i) = (wdL j).getD i 0) (fun r => ((∀ i, i < (wdL j).length → tyN h (S + i) = (wdL j).getD i 0) ∧ r = .inl ()) ∨ (¬ (∀ i, i < (wdL j).length → tyN h (S + i) = (wdL j).getD i 0) ∧ r = .inr ((0 : Int32), g))) (a := 0) (N := (wdL j).length) (by omega) (by omega) (fun i hi => absurd hi (Nat.not_lt_zero _)) (fun k _ hk hJ => by
            have tb := m_byte ht m1 (i := S + k) (by omega)
            have cl := isLt_b (d4 k hk)
            unfold f_X12_isHere_l76
            rw [if_pos w1, w2, if_neg (by rw [n32_le (by omega) (by omega)]; omega), if_pos kk173, rf173_0 rg, if_pos (show 174 < 999999 by omega), if_pos kk174, kn174, m7, n32_add, if_neg (by rw [n32_cl (by omega)]; exact fun z => z.elim (n32_nn (by omega)) (by omega)), n32_cl (show S + k < 2147483648 by omega), if_neg (by rw [n32_cl (by omega)]; exact fun z => z.elim (n32_nn (by omega)) (by omega)), n32_cl (show k < 2147483648 by omega), tb.1, w4 k hk, n32_addl, kl_e, kout2_s]
            have tbl := tb.2
            by_cases u : tyN h (S + k) = (wdL j).getD k 0
            · refine Or.inr ⟨by rw [if_pos (by rw [u])], fun i hi => ?_⟩
              by_cases x : i = k
              · rw [x]; exact u
              · exact hJ i (by omega)
            · exact Or.inl ⟨_, by rw [if_neg (by rw [n32_eq (by omega) (by omega)]; exact u)], Or.inr ⟨fun a => u (a k hk), rfl⟩⟩) (fun hJ => by
            refine ⟨.inl (), ?_, Or.inl ⟨hJ, rfl⟩⟩
            unfold f_X12_isHere_l76
            rw [if_pos w1, w2, if_pos (by rw [n32_le (by omega) (by omega)]; omega)])
          have er' : kloop (f_X12_isHere_l76 g 173 w) KF (0 : Int32) = some r := er
          rw [if_pos (by rw [z]), er', kb_s]
          rcases hr with ⟨h1, h2⟩ | ⟨h1, h2⟩
          · rw [h2, ksum_l, if_pos (weq.mpr ⟨t2, we.mpr ⟨z, h1⟩⟩)]
          · rw [h2, ksum_r, if_neg (fun u => h1 (we.mp (weq.mp u).2).2)]
        · rw [if_neg (by rw [n32_eq (by omega) (by omega)]; exact z), if_neg (fun u => z (we.mp (weq.mp u).2).1)]
    · have t2 : tkT (tyN h) n s.1 s.2.1 ≠ 2 := by
        unfold tkT
        rw [hS, if_neg y, if_neg l]
        split
        · split <;> omega
        · omega
      rw [if_neg l, if_neg (fun z => t2 (weq.mp z).1)]
theorem m_isHere {h g : KH} {n a w j : Nat} {s : PS} (ht : Rtape h) (n16 : n ≤ 1600) (wd : Wd g w j) (m : Md h g n a (.inr s)) : ∃ g', f_X12_isHere g 173 w = some (if wI (tyN h) n s = j then 1 else 0, g') ∧ kfp Wmp g g' ∧ MdS h g' n s := by
  obtain ⟨g', e, f, m'⟩ := m_look0 ht n16 m
  have wd' : Wd g' w j := ⟨wd.1, wd.2.1, wd.2.2.1, wd.2.2.2.1, fun i hi => (f.2.2.1 _ _ (fun z => wd.2.2.2.1 z.1)).trans (wd.2.2.2.2 i hi)⟩
  refine ⟨g', ?_, f, m'⟩
  unfold f_X12_isHere
  rw [if_pos kk173, m.2.2.1, if_pos rfl, e, kb_s]
  exact m_isHereB ht n16 wd' m' _ rfl
/-- where the scanner stands right, nothing moves -/
theorem m_look0S {h g : KH} {n : Nat} {s : PS} (ht : Rtape h) (n16 : n ≤ 1600) (m : MdS h g n s) : f_X12_look0 g 173 = some (lkI (tyN h) n s.1, g) := by
  obtain ⟨m1, m2, m3, m4, m5, m6, m7, m8, m9⟩ := id m
  obtain ⟨⟨a1, a2⟩, a3, a4⟩ := skN_at (c := fun i => isBl (tyN h i)) (n := n) n s.1 (by omega)
  obtain ⟨S, hS⟩ : ∃ S, blE (tyN h) n s.1 = S := ⟨_, rfl⟩
  have a5 : skN (fun i => isBl (tyN h i)) n n s.1 = S := hS
  rw [a5] at a1 a2 a4
  have a2 := a2 m2
  rw [hS] at m7
  have st : f_X12_look0_l0 173 g = some (.inr g) := by
    unfold f_X12_look0_l0
    rw [if_pos kk173, m7, m1.2.1]
    by_cases y : n ≤ S
    · rw [if_pos (by rw [n32_le (by omega) (by omega)]; exact y)]
    · have tb := m_byte ht m1 (i := S) (by omega)
      have tl := tb.2
      have nb : ¬ isBl (tyN h S) = true := fun z => a4 ⟨by omega, z⟩
      unfold isBl at nb
      rw [decide_eq_true_eq] at nb
      rw [if_neg (by rw [n32_le (by omega) (by omega)]; exact y), rf173_0 m1.1, if_pos (show 174 < 999999 by omega), if_pos kk174, kn174, if_neg (by rw [n32_cl (by omega)]; exact fun z => z.elim (n32_nn (by omega)) (by omega)), n32_cl (show S < 2147483648 by omega), tb.1, if_neg (by rw [n32_eql (by omega) (by omega)]; omega), if_neg (by rw [n32_eql (by omega) (by omega)]; omega)]
  obtain ⟨g', e, f, -⟩ := m_look0 ht n16 m
  have lp := kloop_for (body := f_X12_look0_l0 173) (fun _ => g) 0 g (by omega) (fun k hk => absurd hk (Nat.not_lt_zero _)) st
  have lp' : kloop (f_X12_look0_l0 173) KF g = some g := lp
  unfold f_X12_look0 at e ⊢
  rw [lp', kb_s]
  unfold f_X12_look0_b52 lkI
  rw [if_pos kk173, m7, m1.2.1, hS]
  by_cases y : n ≤ S
  · rw [if_pos (by rw [n32_le (by omega) (by omega)]; exact y), if_pos y]
  · have tb := m_byte ht m1 (i := S) (by omega)
    rw [if_neg (by rw [n32_le (by omega) (by omega)]; exact y), rf173_0 m1.1, if_pos (show 174 < 999999 by omega), if_pos kk174, kn174, if_neg (by rw [n32_cl (by omega)]; exact fun z => z.elim (n32_nn (by omega)) (by omega)), n32_cl (show S < 2147483648 by omega), tb.1, if_neg y]
theorem m_isHereS {h g : KH} {n w j : Nat} {s : PS} (ht : Rtape h) (n16 : n ≤ 1600) (wd : Wd g w j) (m : MdS h g n s) : f_X12_isHere g 173 w = some (if wI (tyN h) n s = j then 1 else 0, g) := by
  unfold f_X12_isHere
  rw [if_pos kk173, m.2.2.1, if_pos rfl, m_look0S ht n16 m, kb_s]
  exact m_isHereB ht n16 wd m _ rfl
theorem tkE_w {b : Nat → Nat} {n : Nat} {s : PS} (t : tkT b n s.1 s.2.1 = 2) : tkE b n s.1 = wdE b n (blE b n s.1) ∧ blE b n s.1 < n ∧ isLt (b (blE b n s.1)) = true := by
  unfold tkT at t
  unfold tkE
  by_cases y : n ≤ blE b n s.1
  · rw [if_pos y] at t
    omega
  · rw [if_neg y] at t ⊢
    by_cases l : isLt (b (blE b n s.1)) = true
    · rw [if_pos l]
      exact ⟨rfl, by omega, l⟩
    · rw [if_neg l] at t
      split at t
      · split at t <;> omega
      · omega
/-- a word taken: the scanner behind it -/
theorem m_takenW {h g : KH} {n w j : Nat} {s : PS} (ht : Rtape h) (n16 : n ≤ 1600) (wd : Wd g w j) (m : MdS h g n s) (hw : wI (tyN h) n s = j) : ∃ g', (kl (ksI g 173 2 ((kI g 173 2) + (Int32.ofNat (klen w)))) fun h8 => kl (ksI h8 173 4 (kI h8 173 2)) fun h11 => some ((1 : Int32), h11)) = some (1, g') ∧ kfp Wmp g g' ∧ Md h g' n (tkE (tyN h) n s.1) (.inr (nxt (tyN h) n s)) := by
  obtain ⟨m1, m2, m3, m4, m5, m6, m7, m8, m9⟩ := id m
  obtain ⟨j27, w1, w2, w3, w4⟩ := wd
  obtain ⟨d1, d2, d3, d4⟩ := wdL_nm j j27
  obtain ⟨t2, nv⟩ := (wI_eq (h := h) j27).mp hw
  obtain ⟨e1, e2, e3⟩ := tkE_w t2
  obtain ⟨a1, a2, a3, a4⟩ := wdE_at (tyN h) (n := n) e2 e3
  have we := word_eq (b := tyN h) (c := fun i => (wdL j).getD i 0) (s := blE (tyN h) n s.1) (k := wdE (tyN h) n (blE (tyN h) n s.1) - blE (tyN h) n s.1) (m := (wdL j).length) (fun i hi => a3 _ (by omega) (by omega)) (by omega) d4 d2 d3
  have tv : tkV (tyN h) n s.1 = flN (wvN (tyN h) (blE (tyN h) n s.1) (wdE (tyN h) n (blE (tyN h) n s.1) - blE (tyN h) n s.1)) (wdE (tyN h) n (blE (tyN h) n s.1) - blE (tyN h) n s.1) := by unfold tkV tkZ; rw [if_neg (by omega), if_pos e3, if_neg (by omega), if_pos e3]
  rw [← d1, ← tv] at we
  have len := (we.mp nv).1
  have te := tkE_at (tyN h) m2 s.2.1
  have eE : blE (tyN h) n s.1 + (wdL j).length = tkE (tyN h) n s.1 := by rw [e1]; omega
  have f : kfp Wmp g (ksI (ksI g 173 2 (Int32.ofNat (tkE (tyN h) n s.1))) 173 4 (Int32.ofNat (tkE (tyN h) n s.1))) := (kfp.rf.sI _ (by unfold Wmp; omega)).sI _ (by unfold Wmp; omega)
  have gn : (nxt (tyN h) n s).2.1 = true := decide_eq_true (Or.inl t2)
  have I : ∀ i, i ≠ 2 → i ≠ 4 → kI (ksI (ksI g 173 2 (Int32.ofNat (tkE (tyN h) n s.1))) 173 4 (Int32.ofNat (tkE (tyN h) n s.1))) 173 i = kI g 173 i := fun i x y => by rw [kI_sI, if_neg (by omega), kI_sI, if_neg (by omega)]
  refine ⟨_, ?_, f, m1.fp f fun l i z => by unfold Wmp; omega, te.2.1, (I _ (by omega) (by omega)).trans m3, (I _ (by omega) (by omega)).trans m4, Nat.le_refl _, (blE_at (tyN h) te.2.1).1, ?_, fun _ => by rw [kI_sI, if_pos ⟨rfl, rfl⟩]; rfl, fun z => by rw [gn] at z; cases z⟩
  · rw [m7, w2, n32_add, eE, kl_e, kI_sI, if_pos ⟨rfl, rfl⟩, kl_e]
  · rw [kI_sI, if_neg (by omega), kI_sI, if_pos ⟨rfl, rfl⟩]
theorem m_takes {h g : KH} {n a w j : Nat} {s : PS} (ht : Rtape h) (n16 : n ≤ 1600) (wd : Wd g w j) (m : Md h g n a (.inr s)) : ∃ g', f_X12_takes g 173 w = some (if wI (tyN h) n s = j then 1 else 0, g') ∧ kfp Wmp g g' ∧ (wI (tyN h) n s = j → Md h g' n (tkE (tyN h) n s.1) (.inr (nxt (tyN h) n s))) ∧ (wI (tyN h) n s ≠ j → MdS h g' n s) := by
  obtain ⟨g1, e1, f1, m1⟩ := m_isHere ht n16 wd m
  have wd1 : Wd g1 w j := ⟨wd.1, wd.2.1, wd.2.2.1, wd.2.2.2.1, fun i hi => (f1.2.2.1 _ _ (fun z => wd.2.2.2.1 z.1)).trans (wd.2.2.2.2 i hi)⟩
  unfold f_X12_takes
  rw [if_pos kk173, e1, kb_s, if10]
  by_cases y : wI (tyN h) n s = j
  · obtain ⟨g2, e2, f2, m2⟩ := m_takenW ht n16 wd1 m1 y
    rw [if_pos y, if_pos wd.2.1, e2, if_pos y]
    exact ⟨g2, rfl, f1.tr f2, fun _ => m2, fun z => absurd y z⟩
  · rw [if_neg y, if_neg y]
    exact ⟨g1, rfl, f1, fun z => absurd z y, fun _ => m1⟩
theorem m_fail {h g : KH} {n a k pl : Nat} {s : PS} (m : Md h g n a (.inr s)) (k1 : 1 ≤ k) (k5 : k ≤ 5) : ∃ g', f_X12_fail g 173 (Int32.ofNat k) (Int32.ofNat pl) = some g' ∧ kfp Wmp g g' ∧ Md h g' n 0 (.inl (k, pl)) := by
  have f : kfp Wmp g (ksI (ksI g 173 5 (Int32.ofNat k)) 173 6 (Int32.ofNat pl)) := (kfp.rf.sI _ (by unfold Wmp; omega)).sI _ (by unfold Wmp; omega)
  refine ⟨_, ?_, f, m.1.fp f fun l i z => by unfold Wmp; omega, k1, k5, ?_, ?_⟩
  · unfold f_X12_fail
    rw [if_pos kk173, m.2.2.1, if_pos rfl, kl_e, kl_e]
  · rw [kI_sI, if_neg (by omega), kI_sI, if_pos ⟨rfl, rfl⟩]
  · rw [kI_sI, if_pos ⟨rfl, rfl⟩]
theorem Md.bad {h g : KH} {n a : Nat} {e : Nat × Nat} (m : Md h g n a (.inl e)) : ¬ kI g 173 5 = 0 := by
  obtain ⟨-, m2, m3, m4, -⟩ := m
  rw [m4, n32_ne0 (by omega)]
  omega
/-- the same, with a place that is where it stands -/
theorem m_failS {h g : KH} {n k : Nat} {s : PS} (m : MdS h g n s) (k1 : 1 ≤ k) (k5 : k ≤ 5) : ∃ g', f_X12_fail g 173 (Int32.ofNat k) (kI g 173 2) = some g' ∧ kfp Wmp g g' ∧ Md h g' n 0 (pft (tyN h) n k s) := by
  rw [m.2.2.2.2.2.2.1]
  exact m_fail m k1 k5
theorem m_asks {h g : KH} {n a w j : Nat} {r : PR} (ht : Rtape h) (n16 : n ≤ 1600) (wd : Wd g w j) (m : Md h g n a r) : ∃ g' a', f_X12_asks g 173 w = some g' ∧ kfp Wmp g g' ∧ Md h g' n a' (pbd r (wW (tyN h) n j)) := by
  unfold f_X12_asks
  cases r with
  | inl e =>
    rw [if_pos kk173, if_neg m.bad]
    exact ⟨g, a, rfl, kfp.rf, m⟩
  | inr s =>
    obtain ⟨g1, e1, f1, m1, m2⟩ := m_takes ht n16 wd m
    rw [if_pos kk173, m.2.2.1, if_pos rfl, e1, kb_s, if10, pbd_r]
    unfold wW
    by_cases y : wI (tyN h) n s = j
    · exact ⟨g1, tkE (tyN h) n s.1, by rw [if_pos y], f1, by rw [if_pos y]; exact m1 y⟩
    · obtain ⟨g2, e2, f2, m3⟩ := m_failS (k := 1) (m2 y) (by omega) (by omega)
      have e2' : f_X12_fail g1 173 (1 : Int32) (kI g1 173 2) = some g2 := e2
      rw [if_neg y, e2', kb_s, if_neg y]
      exact ⟨g2, 0, rfl, f1.tr f2, m3⟩
/-- signs: neither letters nor digits -/
def isSg (c : Nat) : Prop := c < 256 ∧ isLt c = false ∧ isDg c = false
theorem lkI_sg {b : Nat → Nat} {n p c : Nat} (g : Bool) (hb : blE b n p < n → b (blE b n p) < 256) (hc : isSg c) : lkI b n p = Int32.ofNat c ↔ tkT b n p g = 4 ∧ tkV b n p = c := by
  obtain ⟨c1, c2, c3⟩ := hc
  unfold lkI tkT tkV
  by_cases y : n ≤ blE b n p
  · rw [if_pos y, if_pos y]
    exact ⟨fun z => absurd z.symm (by rw [n32_eqm (by omega)]; exact fun q => q), fun z => by omega⟩
  · have l := hb (by omega)
    rw [if_neg y, if_neg y, if_neg y, n32_eq (by omega) (by omega)]
    constructor
    · intro z
      rw [z, c2, c3]
      exact ⟨rfl, rfl⟩
    · intro ⟨z1, z2⟩
      by_cases u : isLt (b (blE b n p)) = true
      · rw [if_pos u] at z1
        split at z1 <;> omega
      · rw [if_neg u] at z1 z2
        by_cases v : isDg (b (blE b n p)) = true
        · rw [if_pos v] at z1
          split at z1 <;> omega
        · rw [if_neg v] at z2
          exact z2
theorem tkE_s {b : Nat → Nat} {n p : Nat} {g : Bool} (t : tkT b n p g = 4) : tkE b n p = blE b n p + 1 ∧ blE b n p < n := by
  unfold tkT at t
  unfold tkE
  by_cases y : n ≤ blE b n p
  · rw [if_pos y] at t
    omega
  · rw [if_neg y] at t ⊢
    by_cases l : isLt (b (blE b n p)) = true
    · rw [if_pos l] at t
      split at t <;> omega
    · rw [if_neg l] at t ⊢
      by_cases d : isDg (b (blE b n p)) = true
      · rw [if_pos d] at t
        split at t <;> omega
      · rw [if_neg d]
        exact ⟨rfl, by omega⟩
/-- a sign taken: the scanner behind it -/
theorem m_takenS {h g : KH} {n c : Nat} {s : PS} (n16 : n ≤ 1600) (m : MdS h g n s) (t : tkT (tyN h) n s.1 s.2.1 = 4 ∧ tkV (tyN h) n s.1 = c) : ksI g 173 2 (kI g 173 2 + (1 : Int32)) = ksI g 173 2 (Int32.ofNat (tkE (tyN h) n s.1)) ∧ kfp Wmp g (ksI g 173 2 (Int32.ofNat (tkE (tyN h) n s.1))) ∧ Md h (ksI g 173 2 (Int32.ofNat (tkE (tyN h) n s.1))) n (tkE (tyN h) n s.1) (.inr (nxt (tyN h) n s)) := by
  obtain ⟨m1, m2, m3, m4, m5, m6, m7, m8, m9⟩ := id m
  obtain ⟨e1, e2⟩ := tkE_s t.1
  have te := tkE_at (tyN h) m2 s.2.1
  have f : kfp Wmp g (ksI g 173 2 (Int32.ofNat (tkE (tyN h) n s.1))) := kfp.rf.sI _ (by unfold Wmp; omega)
  have I : ∀ i, i ≠ 2 → kI (ksI g 173 2 (Int32.ofNat (tkE (tyN h) n s.1))) 173 i = kI g 173 i := fun i x => by rw [kI_sI, if_neg (by omega)]
  have gn : (nxt (tyN h) n s).2.1 = false := decide_eq_false (by omega)
  have pos := (te.2.2 (by omega)).1
  refine ⟨by rw [m7, n32_addl, e1], f, m1.fp f fun l i z => by unfold Wmp; omega, te.2.1, (I _ (by omega)).trans m3, (I _ (by omega)).trans m4, Nat.le_refl _, (blE_at (tyN h) te.2.1).1, by rw [kI_sI, if_pos ⟨rfl, rfl⟩], (fun z => by rw [gn] at z; cases z), fun _ => ?_⟩
  rw [I _ (by omega)]
  cases hg : s.2.1 with
  | true => exact Or.inr ⟨s.1, pos, m8 hg⟩
  | false =>
    rcases m9 hg with y | ⟨x, x1, x2⟩
    · exact Or.inl y
    · exact Or.inr ⟨x, by show x < tkE (tyN h) n s.1; omega, x2⟩
theorem Md.byte {h g : KH} {n a : Nat} {s : PS} (ht : Rtape h) (n16 : n ≤ 1600) (m : Md h g n a (.inr s)) : blE (tyN h) n s.1 < n → tyN h (blE (tyN h) n s.1) < 256 := fun y => (ht.ty (i := blE (tyN h) n s.1) (by omega)).2.1
theorem m_takesSign {h g : KH} {n a c : Nat} {s : PS} (ht : Rtape h) (n16 : n ≤ 1600) (hc : isSg c) (m : Md h g n a (.inr s)) : ∃ g', f_X12_takesSign g 173 (Int32.ofNat c) = some (if tkT (tyN h) n s.1 s.2.1 = 4 ∧ tkV (tyN h) n s.1 = c then 1 else 0, g') ∧ kfp Wmp g g' ∧ ((tkT (tyN h) n s.1 s.2.1 = 4 ∧ tkV (tyN h) n s.1 = c) → Md h g' n (tkE (tyN h) n s.1) (.inr (nxt (tyN h) n s))) ∧ (¬ (tkT (tyN h) n s.1 s.2.1 = 4 ∧ tkV (tyN h) n s.1 = c) → MdS h g' n s) := by
  obtain ⟨g1, e1, f1, m1⟩ := m_look0 ht n16 m
  have sg := lkI_sg s.2.1 (Md.byte ht n16 m) hc
  unfold f_X12_takesSign
  rw [if_pos kk173, m.2.2.1, if_pos rfl, e1, kb_s]
  by_cases y : tkT (tyN h) n s.1 s.2.1 = 4 ∧ tkV (tyN h) n s.1 = c
  · obtain ⟨u1, u2, u3⟩ := m_takenS n16 m1 y
    rw [if_pos (sg.mpr y), u1, kl_e, if_pos y]
    exact ⟨_, rfl, f1.tr u2, fun _ => u3, fun z => absurd y z⟩
  · rw [if_neg (fun z => y (sg.mp z)), if_neg y]
    exact ⟨g1, rfl, f1, fun z => absurd z y, fun _ => m1⟩
theorem m_asksSign {h g : KH} {n a c : Nat} {r : PR} (ht : Rtape h) (n16 : n ≤ 1600) (hc : isSg c) (m : Md h g n a r) : ∃ g' a', f_X12_asksSign g 173 (Int32.ofNat c) = some g' ∧ kfp Wmp g g' ∧ Md h g' n a' (pbd r (wS (tyN h) n c)) := by
  unfold f_X12_asksSign
  cases r with
  | inl e =>
    rw [if_pos kk173, if_neg m.bad]
    exact ⟨g, a, rfl, kfp.rf, m⟩
  | inr s =>
    obtain ⟨g1, e1, f1, m1, m2⟩ := m_takesSign ht n16 hc m
    rw [if_pos kk173, m.2.2.1, if_pos rfl, e1, kb_s, if10, pbd_r]
    unfold wS
    by_cases y : tkT (tyN h) n s.1 s.2.1 = 4 ∧ tkV (tyN h) n s.1 = c
    · exact ⟨g1, tkE (tyN h) n s.1, by rw [if_pos y], f1, by rw [if_pos y]; exact m1 y⟩
    · obtain ⟨g2, e2, f2, m3⟩ := m_failS (k := 1) (m2 y) (by omega) (by omega)
      have e2' : f_X12_fail g1 173 (1 : Int32) (kI g1 173 2) = some g2 := e2
      rw [if_neg y, e2', kb_s, if_neg y]
      exact ⟨g2, 0, rfl, f1.tr f2, m3⟩
