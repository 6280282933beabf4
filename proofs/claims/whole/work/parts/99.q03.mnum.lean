/-! the model: numbers, values' words -/
theorem m_number {h g : KH} {n a lo hi : Nat} {s : PS} (ht : Rtape h) (n16 : n ≤ 1600) (hlo : lo < 10000) (hhi : hi < 10000) (m : Md h g n a (.inr s)) : ∃ v g' a', f_X12_number g 173 (Int32.ofNat lo) (Int32.ofNat hi) = some (v, g') ∧ kfp Wmp g g' ∧ Md h g' n a' (nbd (wNum (tyN h) n lo hi s)) ∧ ∀ w s', wNum (tyN h) n lo hi s = .inr (w, s') → v = Int32.ofNat w := by
  obtain ⟨g1, e1, f1, m1⟩ := m_look0 ht n16 m
  have m1' : MdS h g1 n s := m1
  have gl := m_glue n16 m1
  obtain ⟨u1, u2, u3, u4, u5, u6, u7, u8, u9⟩ := id m1
  have bl := blE_at (tyN h) u2
  have tb := tk_b ht n16 u2 s.2.1
  obtain ⟨S, hS⟩ : ∃ S, blE (tyN h) n s.1 = S := ⟨_, rfl⟩
  rw [hS] at bl u7 gl
  have b30 : ∃ v g' a', f_X12_number_b30 g1 173 = some (v, g') ∧ kfp Wmp g1 g' ∧ Md h g' n a' (.inl (1, S)) := by
    obtain ⟨g2, e2, f2, m2⟩ := m_failS (k := 1) m1' (by omega) (by omega)
    have e2' : f_X12_fail g1 173 (1 : Int32) (kI g1 173 2) = some g2 := e2
    unfold f_X12_number_b30
    rw [if_pos kk173, e2', kb_s]
    unfold pft at m2
    rw [hS] at m2
    exact ⟨_, g2, 0, rfl, f2, m2⟩
  have no : tkT (tyN h) n s.1 s.2.1 ≠ 3 → wNum (tyN h) n lo hi s = .inl (1, S) := fun z => by
    unfold wNum
    rw [if_pos z, hS]
  unfold f_X12_number
  rw [if_pos kk173, m.2.2.1, if_pos rfl, e1, kb_s]
  dsimp only
  unfold lkI
  rw [hS]
  have early : tkT (tyN h) n s.1 s.2.1 ≠ 3 → ∃ v g' a', f_X12_number_b30 g1 173 = some (v, g') ∧ kfp Wmp g g' ∧ Md h g' n a' (nbd (wNum (tyN h) n lo hi s)) ∧ ∀ w s', wNum (tyN h) n lo hi s = .inr (w, s') → v = Int32.ofNat w := fun z => by
    obtain ⟨v, g', a', k1, k2, k3⟩ := b30
    rw [no z]
    exact ⟨v, g', a', k1, f1.tr k2, k3, fun w s' q => by cases q⟩
  by_cases y : n ≤ S
  · have t1 : tkT (tyN h) n s.1 s.2.1 = 1 := by unfold tkT; rw [hS, if_pos y]
    rw [if_pos y, m_isDigit_m, kb_s, if_pos rfl]
    exact early (by omega)
  · have tc := m_byte ht u1 (i := S) (by omega)
    rw [if_neg y, m_isDigit g1 tc.2, kb_s, if10]
    by_cases d : isDg (tyN h S) = true
    · have nl : ¬ isLt (tyN h S) = true := by
        unfold isDg at d
        unfold isLt
        rw [decide_eq_true_eq] at d ⊢
        omega
      rw [if_pos d]
      by_cases q : s.2.1 = true ∧ S = s.1
      · have t5 : tkT (tyN h) n s.1 s.2.1 = 5 := by unfold tkT; rw [hS, if_neg y, if_neg nl, if_pos d, if_pos q]
        rw [if_pos (gl.mpr q)]
        exact early (by omega)
      · have t3 : tkT (tyN h) n s.1 s.2.1 = 3 := by unfold tkT; rw [hS, if_neg y, if_neg nl, if_pos d, if_neg q]
        obtain ⟨a1, a2, a3, a4⟩ := dgE_at (tyN h) (n := n) (s := S) (by omega) d
        obtain ⟨E, hE⟩ : ∃ E, dgE (tyN h) n S = E := ⟨_, rfl⟩
        rw [hE] at a1 a2 a3 a4
        have tz : tkZ (tyN h) n s.1 = E - S := by unfold tkZ; rw [hS, if_neg y, if_neg nl, if_pos d, hE]
        have tv : tkV (tyN h) n s.1 = nvN (tyN h) S (E - S) := by unfold tkV; rw [hS, if_neg y, if_neg nl, if_pos d, tz]
        have te : tkE (tyN h) n s.1 = E := by unfold tkE; rw [hS, if_neg y, if_neg nl, if_pos d, hE]
        have v9 := tb.2.2.2.2 t3
        rw [tv] at v9
        -- one turn
        have base : ∀ k q, k ≤ 4 → S + k ≤ E → kfp (fun l i => l = 173 ∧ i = 2) g1 q → kI q 173 2 = Int32.ofNat (S + k) → f_X12_number_l49 173 (Int32.ofNat lo) (Int32.ofNat hi) (Int32.ofNat S) (Int32.ofNat (nvN (tyN h) S k), q) = if S + k < n ∧ isDg (tyN h (S + k)) = true then (if k = 4 then kout2 (kb (f_X12_fail q 173 (1 : Int32) (Int32.ofNat (S + k))) fun r16 => some ((0 : Int32), r16)) else some (.inl (Int32.ofNat (nvN (tyN h) S (k + 1)), ksI q 173 2 (Int32.ofNat (S + k + 1))))) else some (.inr (.inl (Int32.ofNat (nvN (tyN h) S k), q))) := fun k q hk hE f ek => by
          have rq := u1.1.fp f
          unfold f_X12_number_l49
          dsimp only
          rw [if_pos kk173, ek, f.2.2.1 _ _ (by omega), u1.2.1]
          by_cases z : n ≤ S + k
          · rw [if_pos (by rw [n32_le (by omega) (by omega)]; exact z), if_neg (fun w => by have := w.1; omega)]
          · have td := m_byte ht u1 (i := S + k) (by omega)
            rw [if_neg (by rw [n32_le (by omega) (by omega)]; exact z), rf173_0 rq, if_pos (show 174 < 999999 by omega), if_pos kk174, kn174, if_neg (by rw [n32_cl (by omega)]; exact fun z => z.elim (n32_nn (by omega)) (by omega)), n32_cl (show S + k < 2147483648 by omega), f.2.2.1 _ _ (by omega), td.1, m_isDigit q td.2, kb_s, if10]
            by_cases w : isDg (tyN h (S + k)) = true
            · have w' := w
              unfold isDg at w'
              rw [decide_eq_true_eq] at w'
              rw [if_pos w, if_pos (show S + k < n ∧ isDg (tyN h (S + k)) = true from ⟨by omega, w⟩), n32_sub (by omega), show S + k - S = k by omega]
              by_cases k4 : k = 4
              · rw [if_pos (by rw [k4]; rfl), if_pos k4]
              · rw [if_neg (by rw [n32_eql (by omega) (by omega)]; exact k4), if_neg k4, n32_mulr, n32_add, n32_subl (by omega), kl_e, n32_addl, kl_e, nvN, if_pos (by omega), show 10 * nvN (tyN h) S k + tyN h (S + k) - 48 = nvN (tyN h) S k * 10 + (tyN h (S + k) - 48) by omega]
            · rw [if_neg w, if_neg (fun x => w x.2)]
        obtain ⟨r, er, hr⟩ := kloop_inv (body := f_X12_number_l49 173 (Int32.ofNat lo) (Int32.ofNat hi) (Int32.ofNat S)) (fun k x => x.1 = Int32.ofNat (nvN (tyN h) S k) ∧ kfp (fun l i => l = 173 ∧ i = 2) g1 x.2 ∧ kI x.2 173 2 = Int32.ofNat (S + k)) (fun r => (E - S ≤ 4 ∧ ∃ q, r = .inl (Int32.ofNat (nvN (tyN h) S (E - S)), q) ∧ kfp (fun l i => l = 173 ∧ i = 2) g1 q ∧ kI q 173 2 = Int32.ofNat E) ∨ (4 < E - S ∧ ∃ q, r = .inr ((0 : Int32), q) ∧ kfp Wmp g1 q ∧ Md h q n 0 (.inl (1, S + 4)))) (min (E - S) 4) (s0 := ((0 : Int32), g1)) (by omega) ⟨rfl, kfp.rf, u7⟩ (fun k x hk hP => by
          obtain ⟨x1, q⟩ := x
          obtain ⟨p1, p2, p3⟩ := hP
          dsimp only at p1 p2 p3
          subst p1
          refine ⟨(Int32.ofNat (nvN (tyN h) S (k + 1)), ksI q 173 2 (Int32.ofNat (S + k + 1))), ?_, rfl, p2.sI _ ⟨rfl, rfl⟩, by rw [kI_sI, if_pos ⟨rfl, rfl⟩]; rfl⟩
          rw [base k q (by omega) (by omega) p2 p3, if_pos ⟨by omega, a3 _ (by omega) (by omega)⟩, if_neg (by omega)]) (fun x hP => by
          obtain ⟨x1, q⟩ := x
          obtain ⟨p1, p2, p3⟩ := hP
          dsimp only at p1 p2 p3
          subst p1
          by_cases z : E - S ≤ 4
          · rw [Nat.min_eq_left z] at p3 ⊢
            rw [show S + (E - S) = E by omega] at p3
            refine ⟨_, ?_, Or.inl ⟨z, q, rfl, p2, p3⟩⟩
            rw [base (E - S) q z (by omega) p2 (by rw [show S + (E - S) = E by omega]; exact p3), show S + (E - S) = E by omega, if_neg a4]
          · rw [Nat.min_eq_right (by omega)] at p3 ⊢
            have mq : Md h q n (S + 4) (.inr (S + 4, false, ([] : List Nat))) → True := fun _ => trivial
            have fl : kfp Wmp q (ksI (ksI q 173 5 (Int32.ofNat 1)) 173 6 (Int32.ofNat (S + 4))) := (kfp.rf.sI _ (by unfold Wmp; omega)).sI _ (by unfold Wmp; omega)
            have ef : f_X12_fail q 173 (1 : Int32) (Int32.ofNat (S + 4)) = some (ksI (ksI q 173 5 (Int32.ofNat 1)) 173 6 (Int32.ofNat (S + 4))) := by
              unfold f_X12_fail
              rw [if_pos kk173, p2.2.2.1 _ _ (by omega), u3, if_pos rfl, kl_e, kl_e]
              rfl
            refine ⟨_, by rw [base 4 q (by omega) (by omega) p2 p3, if_pos ⟨by omega, a3 _ (by omega) (by omega)⟩, if_pos rfl, ef, kb_s, kout2_s], Or.inr ⟨by omega, _, rfl, (p2.wide fun l i z => by unfold Wmp; omega).tr fl, ?_⟩⟩
            have mq : Ms h q n := u1.fp p2 fun l i z => by omega
            refine ⟨mq.fp fl fun l i z => by unfold Wmp; omega, by show 1 ≤ 1; omega, by show 1 ≤ 5; omega, ?_, ?_⟩
            · rw [kI_sI, if_neg (by omega), kI_sI, if_pos ⟨rfl, rfl⟩]
            · rw [kI_sI, if_pos ⟨rfl, rfl⟩])
        rw [if_neg (fun z => q (gl.mp z)), u7, kl_e, er, kb_s]
        unfold wNum
        rw [if_neg (show ¬ tkT (tyN h) n s.1 s.2.1 ≠ 3 from fun z => z t3), tz, tv, hS]
        rcases hr with ⟨z, q, er2, fq, eq⟩ | ⟨z, q, er2, fq, mq⟩
        · rw [er2, ksum_l, if_neg (show ¬ 4 < E - S by omega)]
          dsimp only
          obtain ⟨q2, eq2⟩ : ∃ q2, q2 = ksI q 173 4 (Int32.ofNat E) := ⟨_, rfl⟩
          have fq2 : kfp Wmp g1 q2 := by rw [eq2]; exact (fq.wide fun l i z => by unfold Wmp; omega).sI _ (by unfold Wmp; omega)
          have I : ∀ i, i ≠ 2 → i ≠ 4 → kI q2 173 i = kI g1 173 i := fun i x1 x2 => by rw [eq2, kI_sI, if_neg (by omega), fq.2.2.1 _ _ (by omega)]
          have gn : (nxt (tyN h) n s).2.1 = true := decide_eq_true (Or.inr t3)
          have m2 : Md h q2 n E (.inr (nxt (tyN h) n s)) := by
            refine ⟨u1.fp fq2 fun l i z => by unfold Wmp; omega, by show tkE (tyN h) n s.1 ≤ n; omega, (I _ (by omega) (by omega)).trans u3, (I _ (by omega) (by omega)).trans u4, by show tkE (tyN h) n s.1 ≤ E; omega, ?_, ?_, fun _ => ?_, fun z => by rw [gn] at z; cases z⟩
            · show E ≤ blE (tyN h) n (tkE (tyN h) n s.1)
              rw [te]
              exact (blE_at (tyN h) a2).1
            · rw [eq2, kI_sI, if_neg (by omega)]; exact eq
            · rw [eq2, kI_sI, if_pos ⟨rfl, rfl⟩]
              show _ = Int32.ofNat (tkE (tyN h) n s.1)
              rw [te]
          have l1 : ((Int32.ofNat lo).toInt64).toInt = (lo : Int) := by rw [n32_toI64 (by omega), n64_toInt (by omega)]
          have l2 : ((Int32.ofNat hi).toInt64).toInt = (hi : Int) := by rw [n32_toI64 (by omega), n64_toInt (by omega)]
          unfold f_X12_number_b129
          rw [if_pos kk173, eq, ← eq2, kl_e]
          by_cases w : nvN (tyN h) S (E - S) < lo ∨ hi < nvN (tyN h) S (E - S)
          · obtain ⟨q3, e3, f3, m3⟩ := m_fail (k := 2) (pl := S) m2 (by omega) (by omega)
            have e3' : f_X12_fail q2 173 (2 : Int32) (Int32.ofNat S) = some q3 := e3
            rw [isIn_n _ l1 l2 (by rw [n32_toInt (by omega)]; omega), kb_s, if_pos rfl, e3', kb_s, if_pos w]
            exact ⟨_, q3, 0, rfl, (f1.tr fq2).tr f3, m3, fun w s' q => by cases q⟩
          · rw [isIn_y _ l1 l2 (by rw [n32_toInt (by omega)]; omega), kb_s, if_neg (by decide), if_neg w]
            exact ⟨_, q2, E, rfl, f1.tr fq2, m2, fun w s' q => by cases q; rfl⟩
        · rw [er2, ksum_r, if_pos z]
          exact ⟨_, q, 0, rfl, f1.tr fq, mq, fun w s' q => by cases q⟩
    · have t3 : tkT (tyN h) n s.1 s.2.1 ≠ 3 := by
        unfold tkT
        rw [hS, if_neg y]
        by_cases l : isLt (tyN h S) = true
        · rw [if_pos l]
          split <;> omega
        · rw [if_neg l, if_neg d]
          omega
      rw [if_neg d]
      exact early t3
theorem m_number_l {h g : KH} {n a : Nat} {e : Nat × Nat} (m : Md h g n a (.inl e)) (x y : Int32) : f_X12_number g 173 x y = some (0, g) := by
  unfold f_X12_number
  rw [if_pos kk173, if_neg m.bad]
/-- which of the model's words of values -/
def qwN (w : Nat) : Nat := if w = 1 then 0 else if w = 2 then 1 else if w = 6 then 2 else if w = 11 then 3 else if w = 12 then 4 else if w = 13 then 5 else if w = 14 then 6 else if w = 15 then 7 else if w = 8 then 8 else 9
theorem m_isAllowed {g : KH} {L : Bool} (hL : kI g 173 44 = (if L = true then 1 else 0)) {k : Nat} (hk : k < 100) : f_X12_isAllowed g 173 (Int32.ofNat k) = some (if (L = true ∧ k < 5) ∨ (L = false ∧ (k = 2 ∨ k = 3 ∨ 5 ≤ k)) then 1 else 0) := by
  unfold f_X12_isAllowed f_X12_isAllowed_b35
  rw [if_pos kk173, hL]
  cases L with
  | true =>
    rw [if_pos rfl, if_neg (by decide)]
    by_cases y : 5 ≤ k
    · rw [if_pos (by rw [n32_ler (by omega) (by omega)]; exact y), if_neg (by intro z; rcases z with z | z; omega; cases z.1)]
    · rw [if_neg (by rw [n32_ler (by omega) (by omega)]; exact y), if_pos (Or.inl ⟨rfl, by omega⟩)]
  | false =>
    have ff : ¬ ((false : Bool) = true) := by decide
    rw [if_neg ff, if_pos rfl]
    by_cases y2 : k = 2
    · rw [if_pos (by rw [y2]; rfl), if_pos (Or.inr ⟨rfl, Or.inl y2⟩)]
    · rw [if_neg (by rw [n32_eql (by omega) (by omega)]; exact y2)]
      by_cases y3 : k = 3
      · rw [if_pos (by rw [y3]; rfl), if_pos (Or.inr ⟨rfl, Or.inr (Or.inl y3)⟩)]
      · rw [if_neg (by rw [n32_eql (by omega) (by omega)]; exact y3)]
        by_cases y4 : k ≤ 4
        · rw [if_pos (by rw [n32_lel (by omega) (by omega)]; exact y4), if_neg (by intro z; rcases z with z | z; exact ff z.1; omega)]
        · rw [if_neg (by rw [n32_lel (by omega) (by omega)]; exact y4), if_pos (Or.inr ⟨rfl, Or.inr (Or.inr (by omega))⟩)]
theorem m_qWordHere {h g : KH} {n : Nat} {s : PS} (ht : Rtape h) (n16 : n ≤ 1600) (m : MdS h g n s) : f_X12_qWordHere g 173 = some (if qwN (wI (tyN h) n s) = 9 then -1 else Int32.ofNat (qwN (wI (tyN h) n s)), g) := by
  have rg := m.1.1
  have rw' := m.1.2.2.2
  have w0 : Wd g 230 1 := rw'.w2 (q := 12) (by omega)
  have h0 := m_isHereS ht n16 w0 m
  have w1 : Wd g 231 2 := rw'.w2 (q := 13) (by omega)
  have h1 := m_isHereS ht n16 w1 m
  have w2 : Wd g 232 6 := rw'.w2 (q := 14) (by omega)
  have h2 := m_isHereS ht n16 w2 m
  have w3 : Wd g 233 11 := rw'.w2 (q := 15) (by omega)
  have h3 := m_isHereS ht n16 w3 m
  have w4 : Wd g 234 12 := rw'.w2 (q := 16) (by omega)
  have h4 := m_isHereS ht n16 w4 m
  have w5 : Wd g 235 13 := rw'.w2 (q := 17) (by omega)
  have h5 := m_isHereS ht n16 w5 m
  have w6 : Wd g 236 14 := rw'.w2 (q := 18) (by omega)
  have h6 := m_isHereS ht n16 w6 m
  have w7 : Wd g 237 15 := rw'.w2 (q := 19) (by omega)
  have h7 := m_isHereS ht n16 w7 m
  have w8 : Wd g 238 8 := rw'.w2 (q := 20) (by omega)
  have h8 := m_isHereS ht n16 w8 m
  unfold f_X12_qWordHere qwN
  obtain ⟨w, hw⟩ : ∃ w, wI (tyN h) n s = w := ⟨_, rfl⟩
  rw [hw] at h0
  rw [hw] at h1
  rw [hw] at h2
  rw [hw] at h3
  rw [hw] at h4
  rw [hw] at h5
  rw [hw] at h6
  rw [hw] at h7
  rw [hw] at h8
  rw [hw, if_pos kk173]
  rw [rf173_76 rg, if_pos (show 230 < 999999 by omega), h0, kb_s, if10]
  by_cases y0 : w = 1
  · subst y0
    rfl
  simp only [if_neg y0]
  rw [rf173_77 rg, if_pos (show 231 < 999999 by omega), h1, kb_s, if10]
  by_cases y1 : w = 2
  · subst y1
    rfl
  simp only [if_neg y1]
  rw [rf173_78 rg, if_pos (show 232 < 999999 by omega), h2, kb_s, if10]
  by_cases y2 : w = 6
  · subst y2
    rfl
  simp only [if_neg y2]
  rw [rf173_79 rg, if_pos (show 233 < 999999 by omega), h3, kb_s, if10]
  by_cases y3 : w = 11
  · subst y3
    rfl
  simp only [if_neg y3]
  rw [rf173_80 rg, if_pos (show 234 < 999999 by omega), h4, kb_s, if10]
  by_cases y4 : w = 12
  · subst y4
    rfl
  simp only [if_neg y4]
  rw [rf173_81 rg, if_pos (show 235 < 999999 by omega), h5, kb_s, if10]
  by_cases y5 : w = 13
  · subst y5
    rfl
  simp only [if_neg y5]
  rw [rf173_82 rg, if_pos (show 236 < 999999 by omega), h6, kb_s, if10]
  by_cases y6 : w = 14
  · subst y6
    rfl
  simp only [if_neg y6]
  rw [rf173_83 rg, if_pos (show 237 < 999999 by omega), h7, kb_s, if10]
  by_cases y7 : w = 15
  · subst y7
    rfl
  simp only [if_neg y7]
  rw [rf173_84 rg, if_pos (show 238 < 999999 by omega), h8, kb_s, if10]
  by_cases y8 : w = 8
  · subst y8
    rfl
  simp only [if_neg y8]
  try rfl
theorem m_qWord8 {h g : KH} {n : Nat} {s : PS} {L : Bool} (ht : Rtape h) (n16 : n ≤ 1600) (m : MdS h g n s) (hL : kI g 173 44 = (if L = true then 1 else 0)) : f_X12_qWordOf g 173 (8 : Int32) (9 : Int32) = some (if wI (tyN h) n s = 8 ∧ L = false then 8 else -1, g) := by
  have e8 : qwN (wI (tyN h) n s) = 8 ↔ wI (tyN h) n s = 8 := by
    unfold qwN
    obtain ⟨w, hw⟩ : ∃ w, wI (tyN h) n s = w := ⟨_, rfl⟩
    rw [hw]
    repeat' split
    all_goals omega
  have le9 : qwN (wI (tyN h) n s) ≤ 9 := by
    unfold qwN
    repeat' split
    all_goals omega
  unfold f_X12_qWordOf
  rw [if_pos kk173, m_qWordHere ht n16 m, kb_s]
  dsimp only
  by_cases y9 : qwN (wI (tyN h) n s) = 9
  · rw [if_pos y9, if_pos (by decide), if_neg (fun z => by have := e8.mpr z.1; omega)]
  · rw [if_neg y9]
    by_cases y8 : wI (tyN h) n s = 8
    · have q8 := e8.mpr y8
      have al := m_isAllowed hL (k := 8) (by omega)
      rw [q8, if_neg (by decide), if_neg (by decide), al, kb_s, if10]
      cases L with
      | true => rw [if_neg (fun z => z.elim (fun z => absurd z.2 (by omega)) (fun z => by cases z.1)), if_neg (fun z => by cases z.2)]
      | false => rw [if_pos (Or.inr ⟨rfl, Or.inr (Or.inr (by omega))⟩), if_pos ⟨y8, rfl⟩]; rfl
    · have q8 : ¬ qwN (wI (tyN h) n s) = 8 := fun z => y8 (e8.mp z)
      rw [if_pos (by rw [n32_ltl (by omega) (by omega)]; omega), if_neg (fun z => y8 z.1)]
theorem qw_vc (L : Bool) {w : Nat} : (vcN L w = 0 ↔ ¬ (qwN w < 8 ∧ ((L = true ∧ qwN w < 5) ∨ (L = false ∧ (qwN w = 2 ∨ qwN w = 3 ∨ 5 ≤ qwN w))))) ∧ (vcN L w ≠ 0 → vcN L w = 40 + qwN w) := by
  by_cases hw : w < 28
  · have : ∀ L w, w < 28 → (vcN L w = 0 ↔ ¬ (qwN w < 8 ∧ ((L = true ∧ qwN w < 5) ∨ (L = false ∧ (qwN w = 2 ∨ qwN w = 3 ∨ 5 ≤ qwN w))))) ∧ (vcN L w ≠ 0 → vcN L w = 40 + qwN w) := by decide +kernel
    exact this L w hw
  · have e1 : vcN L w = 0 := by
      unfold vcN
      rw [if_neg (by omega), if_neg (by omega)]
      cases L with
      | true => rw [if_pos rfl, if_neg (by omega), if_neg (by omega), if_neg (by omega)]
      | false => rw [if_neg (by decide), if_neg (by omega), if_neg (by omega), if_neg (by omega)]
    have e2 : qwN w = 9 := by
      unfold qwN
      repeat' split
      all_goals omega
    rw [e1, e2]
    exact ⟨⟨fun _ z => by omega, fun _ => rfl⟩, fun z => absurd rfl z⟩
theorem m_qWord0 {h g : KH} {n : Nat} {s : PS} {L : Bool} (ht : Rtape h) (n16 : n ≤ 1600) (m : MdS h g n s) (hL : kI g 173 44 = (if L = true then 1 else 0)) : f_X12_qWordOf g 173 (0 : Int32) (8 : Int32) = some (if vcN L (wI (tyN h) n s) = 0 then -1 else Int32.ofNat (vcN L (wI (tyN h) n s) - 40), g) := by
  obtain ⟨w, hw⟩ : ∃ w, wI (tyN h) n s = w := ⟨_, rfl⟩
  obtain ⟨v1, v2⟩ := qw_vc L (w := w)
  have le9 : qwN w ≤ 9 := by
    unfold qwN
    repeat' split
    all_goals omega
  unfold f_X12_qWordOf
  rw [if_pos kk173, m_qWordHere ht n16 m, kb_s, hw]
  dsimp only
  by_cases y9 : qwN w = 9
  · rw [if_pos y9, if_pos (by decide), if_pos (v1.mpr (by omega))]
  · rw [if_neg y9, if_neg (n32_nn (by omega))]
    by_cases y8 : qwN w = 8
    · rw [if_pos (by rw [n32_ler (by omega) (by omega)]; omega), if_pos (v1.mpr (by omega))]
    · rw [if_neg (by rw [n32_ler (by omega) (by omega)]; omega), m_isAllowed hL (by omega), kb_s, if10]
      by_cases al : (L = true ∧ qwN w < 5) ∨ (L = false ∧ (qwN w = 2 ∨ qwN w = 3 ∨ 5 ≤ qwN w))
      · have nz : vcN L w ≠ 0 := fun z => v1.mp z ⟨by omega, al⟩
        have e := v2 nz
        rw [if_pos al, if_neg nz, e, show 40 + qwN w - 40 = qwN w by omega]
      · rw [if_neg al, if_pos (v1.mpr fun z => al z.2)]
/-- the word of a value's number -/
def qjN (k : Nat) : Nat := ([1, 2, 6, 11, 12, 13, 14, 15, 8] : List Nat).getD k 0
theorem m_qAsks {h g : KH} {n a k : Nat} {r : PR} (ht : Rtape h) (n16 : n ≤ 1600) (m : Md h g n a r) (hk : k < 9) : ∃ g' a', f_X12_qAsksWord g 173 (Int32.ofNat k) = some g' ∧ kfp Wmp g g' ∧ Md h g' n a' (pbd r (wW (tyN h) n (qjN k))) := by
  have rg := m.1.1
  have rw' := m.1.2.2.2
  have c : k = 0 ∨ k = 1 ∨ k = 2 ∨ k = 3 ∨ k = 4 ∨ k = 5 ∨ k = 6 ∨ k = 7 ∨ k = 8 := by omega
  unfold f_X12_qAsksWord
  rcases c with rfl | rfl | rfl | rfl | rfl | rfl | rfl | rfl | rfl
  · have wd : Wd g 230 1 := rw'.w2 (q := 12) (by omega)
    obtain ⟨g1, a1, e1, f1, m1⟩ := m_asks ht n16 wd m
    refine ⟨g1, a1, ?_, f1, m1⟩
    show (if kkind 173 = 12 then if (kR g 173 76) < 999999 then kb (f_X12_asks g 173 (kR g 173 76)) fun r4 => some r4 else none else none) = some g1
    rw [if_pos kk173, rf173_76 rg, if_pos (show 230 < 999999 by omega), e1, kb_s]
  · have wd : Wd g 231 2 := rw'.w2 (q := 13) (by omega)
    obtain ⟨g1, a1, e1, f1, m1⟩ := m_asks ht n16 wd m
    refine ⟨g1, a1, ?_, f1, m1⟩
    show (if kkind 173 = 12 then if (kR g 173 77) < 999999 then kb (f_X12_asks g 173 (kR g 173 77)) fun r4 => some r4 else none else none) = some g1
    rw [if_pos kk173, rf173_77 rg, if_pos (show 231 < 999999 by omega), e1, kb_s]
  · have wd : Wd g 232 6 := rw'.w2 (q := 14) (by omega)
    obtain ⟨g1, a1, e1, f1, m1⟩ := m_asks ht n16 wd m
    refine ⟨g1, a1, ?_, f1, m1⟩
    show (if kkind 173 = 12 then if (kR g 173 78) < 999999 then kb (f_X12_asks g 173 (kR g 173 78)) fun r4 => some r4 else none else none) = some g1
    rw [if_pos kk173, rf173_78 rg, if_pos (show 232 < 999999 by omega), e1, kb_s]
  · have wd : Wd g 233 11 := rw'.w2 (q := 15) (by omega)
    obtain ⟨g1, a1, e1, f1, m1⟩ := m_asks ht n16 wd m
    refine ⟨g1, a1, ?_, f1, m1⟩
    show (if kkind 173 = 12 then if (kR g 173 79) < 999999 then kb (f_X12_asks g 173 (kR g 173 79)) fun r4 => some r4 else none else none) = some g1
    rw [if_pos kk173, rf173_79 rg, if_pos (show 233 < 999999 by omega), e1, kb_s]
  · have wd : Wd g 234 12 := rw'.w2 (q := 16) (by omega)
    obtain ⟨g1, a1, e1, f1, m1⟩ := m_asks ht n16 wd m
    refine ⟨g1, a1, ?_, f1, m1⟩
    show (if kkind 173 = 12 then if (kR g 173 80) < 999999 then kb (f_X12_asks g 173 (kR g 173 80)) fun r4 => some r4 else none else none) = some g1
    rw [if_pos kk173, rf173_80 rg, if_pos (show 234 < 999999 by omega), e1, kb_s]
  · have wd : Wd g 235 13 := rw'.w2 (q := 17) (by omega)
    obtain ⟨g1, a1, e1, f1, m1⟩ := m_asks ht n16 wd m
    refine ⟨g1, a1, ?_, f1, m1⟩
    show (if kkind 173 = 12 then if (kR g 173 81) < 999999 then kb (f_X12_asks g 173 (kR g 173 81)) fun r4 => some r4 else none else none) = some g1
    rw [if_pos kk173, rf173_81 rg, if_pos (show 235 < 999999 by omega), e1, kb_s]
  · have wd : Wd g 236 14 := rw'.w2 (q := 18) (by omega)
    obtain ⟨g1, a1, e1, f1, m1⟩ := m_asks ht n16 wd m
    refine ⟨g1, a1, ?_, f1, m1⟩
    show (if kkind 173 = 12 then if (kR g 173 82) < 999999 then kb (f_X12_asks g 173 (kR g 173 82)) fun r4 => some r4 else none else none) = some g1
    rw [if_pos kk173, rf173_82 rg, if_pos (show 236 < 999999 by omega), e1, kb_s]
  · have wd : Wd g 237 15 := rw'.w2 (q := 19) (by omega)
    obtain ⟨g1, a1, e1, f1, m1⟩ := m_asks ht n16 wd m
    refine ⟨g1, a1, ?_, f1, m1⟩
    show (if kkind 173 = 12 then if (kR g 173 83) < 999999 then kb (f_X12_asks g 173 (kR g 173 83)) fun r4 => some r4 else none else none) = some g1
    rw [if_pos kk173, rf173_83 rg, if_pos (show 237 < 999999 by omega), e1, kb_s]
  · have wd : Wd g 238 8 := rw'.w2 (q := 20) (by omega)
    obtain ⟨g1, a1, e1, f1, m1⟩ := m_asks ht n16 wd m
    refine ⟨g1, a1, ?_, f1, m1⟩
    show (if kkind 173 = 12 then if (kR g 173 84) < 999999 then kb (f_X12_asks g 173 (kR g 173 84)) fun r4 => some r4 else none else none) = some g1
    rw [if_pos kk173, rf173_84 rg, if_pos (show 238 < 999999 by omega), e1, kb_s]
theorem qj_vc {L : Bool} {w : Nat} (h : vcN L w ≠ 0) : qjN (vcN L w - 40) = w ∧ vcN L w - 40 < 8 ∧ 40 ≤ vcN L w := by
  have hw : w < 28 := Classical.byContradiction fun z => h (by
    unfold vcN
    rw [if_neg (by omega), if_neg (by omega)]
    cases L with
    | true => rw [if_pos rfl, if_neg (by omega), if_neg (by omega), if_neg (by omega)]
    | false => rw [if_neg (by decide), if_neg (by omega), if_neg (by omega), if_neg (by omega)])
  have : ∀ L w, w < 28 → vcN L w ≠ 0 → qjN (vcN L w - 40) = w ∧ vcN L w - 40 < 8 ∧ 40 ≤ vcN L w := by decide +kernel
  exact this L w hw h
