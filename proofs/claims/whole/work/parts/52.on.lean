/-! on: what is read as AN IMAGE -/
theorem kloop_all {σ ρ : Type} {body : σ → Option (σ ⊕ ρ)} (st : Nat → σ) (M : Nat) (ok : Nat → Prop) (good bad : ρ) (hM : M < 1000000) (h1 : ∀ j, j < M → ok j → body (st j) = some (.inl (st (j + 1)))) (h2 : ∀ j, j < M → ¬ ok j → body (st j) = some (.inr bad)) (h3 : body (st M) = some (.inr good)) :
    (kloop body KF (st 0) = some good ∧ ∀ j, j < M → ok j) ∨ (kloop body KF (st 0) = some bad ∧ ¬ ∀ j, j < M → ok j) := by
  by_cases z : ∀ j, j < M → ok j
  · left
    exact ⟨kloop_for st M good hM (fun k hk => h1 k hk (z k hk)) h3, z⟩
  · right
    refine ⟨?_, z⟩
    have hx : ∃ j, j < M ∧ ¬ ok j := by
      refine Classical.byContradiction fun y => z fun j hj => Classical.byContradiction fun w => y ⟨j, hj, w⟩
    obtain ⟨j0, hj0, hn0⟩ := hx
    obtain ⟨r, e, hq⟩ := kloop_KF (body := body) (fun n s => ∃ k, k + n = M ∧ (∀ i, i < k → ok i) ∧ s = st k) (fun r => r = bad) (fun n s hP => by
      obtain ⟨k, hk, ho, rfl⟩ := hP
      have kj : k ≤ j0 := Nat.le_of_not_lt fun y => hn0 (ho j0 y)
      by_cases y : ok k
      · right
        refine ⟨n - 1, st (k + 1), by omega, h1 k (by omega) y, k + 1, by omega, fun i hi => ?_, rfl⟩
        by_cases e : i = k
        · rw [e]; exact y
        · exact ho i (by omega)
      · left
        exact ⟨bad, h2 k (by omega) y, rfl⟩) (n := M) (s := st 0) hM ⟨0, by omega, fun i hi => absurd hi (Nat.not_lt_zero _), rfl⟩
    rw [e, hq]
/-- a byte of the tape -/
def tyN (h : KH) (i : Nat) : Nat := kN h 174 i
theorem Rtape.ty {h : KH} (ht : Rtape h) {i : Nat} (hi : i < 1600) : kI h 174 i = Int32.ofNat (tyN h i) ∧ tyN h i < 256 ∧ kI h 2 i &&& (255 : Int32) = Int32.ofNat (tyN h i) := by
  obtain ⟨n, n1, n2, n3⟩ := ht.byte hi
  have e : tyN h i = n := kN_of n2 (by omega)
  rw [e]
  exact ⟨n2, n1, n3⟩
theorem x_byte {h g : KH} (hr : kRefs g) (ht : Rtape h) {k : Nat} (hk : k < 1600) (e : kI g 2 k = kI h 2 k) : f_X9_byteAt g 1 (Int32.ofNat k) = some (Int32.ofNat (tyN h k)) := by
  rw [x_byteAt hr hk, e, (ht.ty hk).2.2]
theorem n32_shl8 : ∀ a, a < 256 → Int32.ofNat a <<< ((8 : Int32) &&& 31) = Int32.ofNat (a * 256) := by decide +kernel
theorem x_pair {h g : KH} (hr : kRefs g) (ht : Rtape h) {k : Nat} (hk : k + 1 < 1600) (e : ∀ i, kI g 2 i = kI h 2 i) : f_X9_pairAt g 1 (Int32.ofNat k) = some (Int32.ofNat (tyN h k * 256 + tyN h (k + 1))) := by
  have b1 := (ht.ty (i := k) (by omega)).2.1
  have b2 := (ht.ty (i := k + 1) (by omega)).2.1
  unfold f_X9_pairAt
  rw [if_pos kk1, x_byte hr ht (by omega) (e _), kb_s, n32_addl, x_byte hr ht (by omega) (e _), kb_s, n32_shl8 _ b1, n32_or, or256 _ _ b1 b2]
theorem m_twoAt {h g : KH} (hr : kRefs g) (ht : Rtape h) {k : Nat} (hk : k + 1 < 1600) (e : ∀ i, kI g 174 i = kI h 174 i) : f_X12_twoAt g 173 (Int32.ofNat k) = some (Int32.ofNat (tyN h k * 256 + tyN h (k + 1))) := by
  unfold f_X12_twoAt
  rw [if_pos kk173, rf173_0 hr, if_pos (show 174 < 999999 by omega), if_pos kk174, kn174, n32_addl, if_neg (by rw [n32_cl (by omega)]; exact fun z => z.elim (n32_nn (by omega)) (by omega)), if_neg (by rw [n32_cl (by omega)]; exact fun z => z.elim (n32_nn (by omega)) (by omega)), n32_cl (by omega), n32_cl (by omega), e, e, (ht.ty (i := k) (by omega)).1, (ht.ty (i := k + 1) (by omega)).1, n32_mulr, n32_add, Nat.mul_comm]
/-- how great a byte of AN IMAGE may be -/
def bdN (h : KH) (i : Nat) : Nat := if i < 4 + 2 * kN h 198 4 then (if i % 2 = 0 then 99 else 4) else 2
/-- the tape is AN IMAGE of N bytes and one -/
def isImg (h : KH) (t : Nat) : Prop := t = 5 + 2 * kN h 198 4 + 2 * kN h 198 5 ∧ tyN h 0 * 256 + tyN h 1 ≤ 9999 ∧ tyN h 2 * 256 + tyN h 3 ≤ 9999 ∧ (∀ i, 4 ≤ i → i < 4 + 2 * kN h 198 4 + 2 * kN h 198 5 → tyN h i ≤ bdN h i) ∧ tyN h (4 + 2 * kN h 198 4 + 2 * kN h 198 5) = ckN (tyN h) (4 + 2 * kN h 198 4 + 2 * kN h 198 5)
theorem x_isImage {h : KH} {c : Nat} (rc : RC h c) (ht : Rtape h) {t : Nat} (h1 : kI h 1 1 = Int32.ofNat t) (t16 : t ≤ 1600) : (isImg h t ∧ f_X11_isImage h 0 = some 1) ∨ (¬ isImg h t ∧ f_X11_isImage h 0 = some 0) := by
  obtain ⟨hr, hc, h5, hm, -⟩ := id rc
  have c39 := hc.lt
  have n4 := hm.2.1.1.2
  have n5 := hm.2.2.1.1.2
  obtain ⟨N, hN⟩ : ∃ N, 4 + 2 * kN h 198 4 + 2 * kN h 198 5 = N := ⟨_, rfl⟩
  have N5 : 5 + 2 * kN h 198 4 + 2 * kN h 198 5 = N + 1 := by omega
  have b0 := (ht.ty (i := 0) (by omega)).2.1
  have b1 := (ht.ty (i := 1) (by omega)).2.1
  have b2 := (ht.ty (i := 2) (by omega)).2.1
  have b3 := (ht.ty (i := 3) (by omega)).2.1
  have bN := (ht.ty (i := N) (by omega)).2.1
  have ckl := ckN_lt (tyN h) N
  have eL := kloop_for (body := f_X11_isImage_l140 h 0 (Int32.ofNat (N + 1))) (fun k => (Int32.ofNat (ckN (tyN h) k), Int32.ofNat k)) N (Int32.ofNat (ckN (tyN h) N)) (by omega) (fun k hk => by
    have cl := ckN_lt (tyN h) k
    have bl := (ht.ty (i := k) (by omega)).2.1
    unfold f_X11_isImage_l140
    dsimp only
    rw [n32_subl (by omega), if_neg (by rw [n32_le (by omega) (by omega)]; omega), if_pos kk0, rf0_0 hr, if_pos (show 1 < 999999 by omega), if_pos kk1, x_byte hr ht (by omega) rfl, kb_s, x_checkBehind _ cl (by omega), kb_s, kl_e, n32_addl]
    rfl) (by
    unfold f_X11_isImage_l140
    dsimp only
    rw [n32_subl (by omega), if_pos (by rw [n32_le (by omega) (by omega)]; omega)])
  have eA := kloop_all (body := f_X11_isImage_l67 h 0 (Int32.ofNat (kN h 198 4)) (Int32.ofNat (N + 1))) (fun j => Int32.ofNat (4 + j)) (N - 4) (fun j => tyN h (4 + j) ≤ bdN h (4 + j)) (Sum.inl ()) (Sum.inr 0) (by omega)
    (fun j hj ok => by
      have bl := (ht.ty (i := 4 + j) (by omega)).2.1
      have e111 : ∀ w : Nat, tyN h (4 + j) ≤ w → w < 1000 → f_X11_isImage_b111 h 0 (Int32.ofNat (kN h 198 4)) (Int32.ofNat (N + 1)) (Int32.ofNat (4 + j)) (Int32.ofNat w) = some (.inl (Int32.ofNat (4 + (j + 1)))) := fun w hw hw2 => by
        unfold f_X11_isImage_b111
        rw [if_pos kk0, rf0_0 hr, if_pos (show 1 < 999999 by omega), if_pos kk1, x_byte hr ht (by omega) rfl, kb_s, if_pos (by rw [n32_le (by omega) (by omega)]; exact hw), kl_e, n32_addl]
        rfl
      unfold f_X11_isImage_l67 f_X11_isImage_b88
      rw [n32_subl (by omega), if_neg (by rw [n32_le (by omega) (by omega)]; omega), n32_mulr, n32_addr, show (2 : Int32) = Int32.ofNat 2 from rfl, n32_rem (by omega) (by omega), show (99 : Int32) = Int32.ofNat 99 from rfl, show (4 : Int32) = Int32.ofNat 4 from rfl]
      unfold bdN at ok
      by_cases y : 4 + j < 4 + 2 * kN h 198 4
      · rw [if_pos y] at ok
        rw [if_neg (by rw [n32_le (by omega) (by omega)]; omega), if_neg (show ¬ ((1 : Int32) = 0) by decide)]
        by_cases p : (4 + j) % 2 = 0
        · rw [if_pos p] at ok
          rw [if_pos (by rw [p]; rfl), e111 99 ok (by omega)]
        · rw [if_neg p] at ok
          rw [if_neg (by rw [n32_ne0 (by omega)]; exact p), e111 4 ok (by omega)]
      · rw [if_neg y] at ok
        rw [if_pos (by rw [n32_le (by omega) (by omega)]; omega), if_pos rfl, e111 2 ok (by omega)])
    (fun j hj ok => by
      have bl := (ht.ty (i := 4 + j) (by omega)).2.1
      have e111 : ∀ w : Nat, ¬ tyN h (4 + j) ≤ w → w < 1000 → f_X11_isImage_b111 h 0 (Int32.ofNat (kN h 198 4)) (Int32.ofNat (N + 1)) (Int32.ofNat (4 + j)) (Int32.ofNat w) = some (.inr (Sum.inr 0)) := fun w hw hw2 => by
        unfold f_X11_isImage_b111
        rw [if_pos kk0, rf0_0 hr, if_pos (show 1 < 999999 by omega), if_pos kk1, x_byte hr ht (by omega) rfl, kb_s, if_neg (by rw [n32_le (by omega) (by omega)]; exact hw), kout2_s]
      unfold f_X11_isImage_l67 f_X11_isImage_b88
      rw [n32_subl (by omega), if_neg (by rw [n32_le (by omega) (by omega)]; omega), n32_mulr, n32_addr, show (2 : Int32) = Int32.ofNat 2 from rfl, n32_rem (by omega) (by omega), show (99 : Int32) = Int32.ofNat 99 from rfl, show (4 : Int32) = Int32.ofNat 4 from rfl]
      unfold bdN at ok
      by_cases y : 4 + j < 4 + 2 * kN h 198 4
      · rw [if_pos y] at ok
        rw [if_neg (by rw [n32_le (by omega) (by omega)]; omega), if_neg (show ¬ ((1 : Int32) = 0) by decide)]
        by_cases p : (4 + j) % 2 = 0
        · rw [if_pos p] at ok
          rw [if_pos (by rw [p]; rfl), e111 99 ok (by omega)]
        · rw [if_neg p] at ok
          rw [if_neg (by rw [n32_ne0 (by omega)]; exact p), e111 4 ok (by omega)]
      · rw [if_neg y] at ok
        rw [if_pos (by rw [n32_le (by omega) (by omega)]; omega), if_pos rfl, e111 2 ok (by omega)]) (by
    unfold f_X11_isImage_l67
    rw [n32_subl (by omega), if_pos (by rw [n32_le (by omega) (by omega)]; omega)])
  have hx : f_X11_isImage h 0 = if t = N + 1 then (if 9999 < tyN h 0 * 256 + tyN h 1 then some 0 else if tyN h 2 * 256 + tyN h 3 ≤ 9999 then kb (kloop (f_X11_isImage_l67 h 0 (Int32.ofNat (kN h 198 4)) (Int32.ofNat (N + 1))) KF (4 : Int32)) fun e19 => ksum e19 (fun _ => if tyN h N = ckN (tyN h) N then some 1 else some 0) (fun o23 => some o23) else some 0) else some (0 : Int32) := by
    unfold f_X11_isImage
    have e4 : kI h c 4 = Int32.ofNat (kN h 198 4) := hm.2.1.2.trans hm.2.1.1.1
    have e5 : kI h c 5 = Int32.ofNat (kN h 198 5) := hm.2.2.1.2.trans hm.2.2.1.1.1
    have eL' : kloop (f_X11_isImage_l140 h 0 (Int32.ofNat (N + 1))) KF ((61 : Int32), (0 : Int32)) = some (Int32.ofNat (ckN (tyN h) N)) := eL
    rw [if_pos kk0, h5, if_pos (show c < 999999 by omega), if_pos (ct_kk hc), e4, e5, kl_e, n32_mulr, n32_mulr, n32_addr, n32_add, N5, kl_e, rf0_0 hr, if_pos (show 1 < 999999 by omega), if_pos kk1, h1, ifP (n32_eq (show t < 2147483648 by omega) (show N + 1 < 2147483648 by omega)), show (0 : Int32) = Int32.ofNat 0 from rfl, x_pair hr ht (by omega) (fun _ => rfl), kb_s, show (2 : Int32) = Int32.ofNat 2 from rfl, x_pair hr ht (by omega) (fun _ => rfl), kb_s, show 0 + 1 = 1 from rfl, show 2 + 1 = 3 from rfl, ifP (n32_ltr (by omega) (by omega)), ifP (n32_lel (by omega) (by omega)), show Int32.ofNat (N + 1) - (1 : Int32) = Int32.ofNat N from n32_sub (b := 1) (by omega), x_byte hr ht (by omega) rfl]
    simp only [kb_s]
    rw [show ((61 : Int32), Int32.ofNat 0) = ((61 : Int32), (0 : Int32)) from rfl, eL']
    simp only [kb_s, n32_eq (show tyN h N < 2147483648 by omega) (show ckN (tyN h) N < 2147483648 by omega)]
  rw [hx]
  unfold isImg
  rw [hN, N5]
  by_cases z1 : t = N + 1
  · rw [if_pos z1]
    by_cases z2 : 9999 < tyN h 0 * 256 + tyN h 1
    · rw [if_pos z2]
      exact Or.inr ⟨fun y => by omega, rfl⟩
    · rw [if_neg z2]
      by_cases z3 : tyN h 2 * 256 + tyN h 3 ≤ 9999
      · rw [if_pos z3]
        rcases eA with ⟨a1, a2⟩ | ⟨a1, a2⟩
        · rw [show (4 : Int32) = Int32.ofNat (4 + 0) from rfl, a1, kb_s, ksum_l]
          by_cases z4 : tyN h N = ckN (tyN h) N
          · rw [if_pos z4]
            refine Or.inl ⟨⟨z1, Nat.le_of_not_lt z2, z3, fun i i4 iN => ?_, z4⟩, rfl⟩
            have := a2 (i - 4) (by omega)
            rw [show 4 + (i - 4) = i by omega] at this
            exact this
          · rw [if_neg z4]
            exact Or.inr ⟨fun y => z4 y.2.2.2.2, rfl⟩
        · rw [show (4 : Int32) = Int32.ofNat (4 + 0) from rfl, a1, kb_s, ksum_r]
          exact Or.inr ⟨fun y => a2 fun j hj => y.2.2.2.1 (4 + j) (by omega) (by omega), rfl⟩
      · rw [if_neg z3]
        exact Or.inr ⟨fun y => z3 y.2.2.1, rfl⟩
  · rw [if_neg z1]
    exact Or.inr ⟨fun y => z1 y.1, rfl⟩
theorem m_isImage {h g : KH} {c : Nat} (rc : RC h c) (ht : Rtape h) (hr : kRefs g) (g174 : ∀ i, kI g 174 i = kI h 174 i) (g198 : ∀ i, kI g 198 i = kI h 198 i) {t : Nat} (t16 : t ≤ 1600) : (isImg h t ∧ f_X12_isImage g 173 (Int32.ofNat t) = some 1) ∨ (¬ isImg h t ∧ f_X12_isImage g 173 (Int32.ofNat t) = some 0) := by
  obtain ⟨-, hc, h5, hm, -⟩ := id rc
  have n4 := hm.2.1.1.2
  have n5 := hm.2.2.1.1.2
  obtain ⟨T, hT⟩ : ∃ T, kN h 198 4 = T := ⟨_, rfl⟩
  obtain ⟨U, hU⟩ : ∃ U, kN h 198 5 = U := ⟨_, rfl⟩
  have e4 : kI g 198 4 = Int32.ofNat T := by rw [g198, ← hT]; exact hm.2.1.1.1
  have e5 : kI g 198 5 = Int32.ofNat U := by rw [g198, ← hU]; exact hm.2.2.1.1.1
  have b0 := (ht.ty (i := 0) (by omega)).2.1
  have b1 := (ht.ty (i := 1) (by omega)).2.1
  have b2 := (ht.ty (i := 2) (by omega)).2.1
  have b3 := (ht.ty (i := 3) (by omega)).2.1
  have gb : ∀ i, i < 1600 → kI g 174 i = Int32.ofNat (tyN h i) := fun i hi => by rw [g174]; exact (ht.ty hi).1
  have T6 : T ≤ 6 := by omega
  have U5 : U ≤ 5 := by omega
  unfold isImg
  rw [hT, hU]
  by_cases z1 : t = 5 + 2 * T + 2 * U
  · have bN := (ht.ty (i := 4 + 2 * T + 2 * U) (by omega)).2.1
    have ckl := ckN_lt (tyN h) (4 + 2 * T + 2 * U)
    have ec := m_checked (h := h) (g := g) kk174 kn174 (by omega) (N := 4 + 2 * T + 2 * U) (by omega) (tyN h) (fun i hi => ⟨gb i (by omega), by have := (ht.ty (i := i) (by omega)).2.1; omega⟩)
    have e1 := kloop_all (body := f_X12_isImage_l70 g 173 (Int32.ofNat t) (Int32.ofNat (4 + 2 * T))) (fun j => Int32.ofNat (4 + 2 * j)) T (fun j => tyN h (4 + 2 * j) ≤ 99 ∧ tyN h (4 + 2 * j + 1) ≤ 4) (Sum.inl ()) (Sum.inr 0) (by omega)
      (fun j hj ok => by
        have x1 := (ht.ty (i := 4 + 2 * j) (by omega)).2.1
        have x2 := (ht.ty (i := 4 + 2 * j + 1) (by omega)).2.1
        unfold f_X12_isImage_l70
        rw [if_neg (by rw [n32_le (by omega) (by omega)]; omega), if_pos kk173, rf173_0 hr, if_pos (show 174 < 999999 by omega), if_pos kk174, kn174, if_neg (by rw [n32_cl (by omega)]; exact fun z => z.elim (n32_nn (by omega)) (by omega)), n32_cl (by omega), gb _ (by omega), if_neg (by rw [n32_ltr (by omega) (by omega)]; omega), n32_addl, if_neg (by rw [n32_cl (by omega)]; exact fun z => z.elim (n32_nn (by omega)) (by omega)), n32_cl (by omega), gb _ (by omega), if_pos (by rw [n32_lel (by omega) (by omega)]; omega), kl_e, n32_addl]
        rfl) (fun j hj ok => by
        have x1 := (ht.ty (i := 4 + 2 * j) (by omega)).2.1
        have x2 := (ht.ty (i := 4 + 2 * j + 1) (by omega)).2.1
        unfold f_X12_isImage_l70
        rw [if_neg (by rw [n32_le (by omega) (by omega)]; omega), if_pos kk173, rf173_0 hr, if_pos (show 174 < 999999 by omega), if_pos kk174, kn174, if_neg (by rw [n32_cl (by omega)]; exact fun z => z.elim (n32_nn (by omega)) (by omega)), n32_cl (by omega), gb _ (by omega)]
        by_cases y : 99 < tyN h (4 + 2 * j)
        · rw [if_pos (by rw [n32_ltr (by omega) (by omega)]; exact y), kout2_s]
        · rw [if_neg (by rw [n32_ltr (by omega) (by omega)]; exact y), n32_addl, if_neg (by rw [n32_cl (by omega)]; exact fun z => z.elim (n32_nn (by omega)) (by omega)), n32_cl (by omega), gb _ (by omega), if_neg (by rw [n32_lel (by omega) (by omega)]; omega), kout2_s]) (by
        unfold f_X12_isImage_l70
        rw [if_pos (by rw [n32_le (by omega) (by omega)]; omega)])
    have e2 := kloop_all (body := f_X12_isImage_l108 g 173 (Int32.ofNat t)) (fun j => Int32.ofNat (4 + 2 * T + j)) (2 * U) (fun j => tyN h (4 + 2 * T + j) ≤ 2) (Sum.inl ()) (Sum.inr 0) (by omega)
      (fun j hj ok => by
        have x1 := (ht.ty (i := 4 + 2 * T + j) (by omega)).2.1
        unfold f_X12_isImage_l108
        rw [n32_subl (by omega), if_neg (by rw [n32_le (by omega) (by omega)]; omega), if_pos kk173, rf173_0 hr, if_pos (show 174 < 999999 by omega), if_pos kk174, kn174, if_neg (by rw [n32_cl (by omega)]; exact fun z => z.elim (n32_nn (by omega)) (by omega)), n32_cl (by omega), gb _ (by omega), if_pos (by rw [n32_lel (by omega) (by omega)]; exact ok), kl_e, n32_addl]
        rfl) (fun j hj ok => by
        have x1 := (ht.ty (i := 4 + 2 * T + j) (by omega)).2.1
        unfold f_X12_isImage_l108
        rw [n32_subl (by omega), if_neg (by rw [n32_le (by omega) (by omega)]; omega), if_pos kk173, rf173_0 hr, if_pos (show 174 < 999999 by omega), if_pos kk174, kn174, if_neg (by rw [n32_cl (by omega)]; exact fun z => z.elim (n32_nn (by omega)) (by omega)), n32_cl (by omega), gb _ (by omega), if_neg (by rw [n32_lel (by omega) (by omega)]; exact ok), kout2_s]) (by
        unfold f_X12_isImage_l108
        rw [n32_subl (by omega), if_pos (by rw [n32_le (by omega) (by omega)]; omega)])
    have hx : f_X12_isImage g 173 (Int32.ofNat t) = if tyN h (4 + 2 * T + 2 * U) = ckN (tyN h) (4 + 2 * T + 2 * U) then (if 9999 < tyN h 0 * 256 + tyN h 1 then some 0 else if tyN h 2 * 256 + tyN h 3 ≤ 9999 then kb (kloop (f_X12_isImage_l70 g 173 (Int32.ofNat t) (Int32.ofNat (4 + 2 * T))) KF (Int32.ofNat (4 + 2 * 0))) fun e26 => ksum e26 (fun _ => kb (kloop (f_X12_isImage_l108 g 173 (Int32.ofNat t)) KF (Int32.ofNat (4 + 2 * T + 0))) fun e31 => ksum e31 (fun _ => some (1 : Int32)) (fun o35 => some o35)) (fun o30 => some o30) else some 0) else some 0 := by
      unfold f_X12_isImage
      rw [if_pos kk173, m_testMany hr, kb_s, e4, n32_mulr, n32_addr, kl_e, m_markMany hr, kb_s, e5, n32_mulr, n32_add, n32_addl, if_pos (by rw [z1]; congr 1; omega), rf173_0 hr, if_pos (show 174 < 999999 by omega), if_pos kk174, kn174, show Int32.ofNat t - (1 : Int32) = Int32.ofNat (4 + 2 * T + 2 * U) from by rw [n32_subl (by omega)]; congr 1; omega, if_neg (by rw [n32_cl (by omega)]; exact fun z => z.elim (n32_nn (by omega)) (by omega)), n32_cl (by omega), ec, kb_s, gb _ (by omega), ifP (n32_eq (by omega) (by omega)), show (0 : Int32) = Int32.ofNat 0 from rfl, m_twoAt hr ht (by omega) g174, kb_s, show (2 : Int32) = Int32.ofNat 2 from rfl, m_twoAt hr ht (by omega) g174, kb_s, show 0 + 1 = 1 from rfl, show 2 + 1 = 3 from rfl, ifP (n32_ltr (by omega) (by omega)), ifP (n32_lel (by omega) (by omega))]
      rfl
    rw [hx]
    by_cases z4 : tyN h (4 + 2 * T + 2 * U) = ckN (tyN h) (4 + 2 * T + 2 * U)
    · rw [if_pos z4]
      by_cases z2 : 9999 < tyN h 0 * 256 + tyN h 1
      · rw [if_pos z2]
        exact Or.inr ⟨fun y => Nat.not_lt.mpr y.2.1 z2, rfl⟩
      · rw [if_neg z2]
        by_cases z3 : tyN h 2 * 256 + tyN h 3 ≤ 9999
        · rw [if_pos z3]
          have bd : ∀ i, bdN h i = if i < 4 + 2 * T then (if i % 2 = 0 then 99 else 4) else 2 := fun i => by unfold bdN; rw [hT]
          rcases e1 with ⟨a1, a2⟩ | ⟨a1, a2⟩
          · rw [a1, kb_s, ksum_l]
            rcases e2 with ⟨d1, d2⟩ | ⟨d1, d2⟩
            · rw [d1, kb_s, ksum_l]
              refine Or.inl ⟨⟨z1, Nat.le_of_not_lt z2, z3, fun i i4 iN => ?_, z4⟩, rfl⟩
              rw [bd]
              by_cases y : i < 4 + 2 * T
              · rw [if_pos y]
                have q := a2 ((i - 4) / 2) (by clear a2 d2; omega)
                by_cases p : i % 2 = 0
                · rw [if_pos p]
                  rw [show 4 + 2 * ((i - 4) / 2) = i by clear a2 d2; omega] at q
                  exact q.1
                · rw [if_neg p]
                  rw [show 4 + 2 * ((i - 4) / 2) + 1 = i by clear a2 d2; omega] at q
                  exact q.2
              · rw [if_neg y]
                have q := d2 (i - 4 - 2 * T) (by clear a2 d2; omega)
                rw [show 4 + 2 * T + (i - 4 - 2 * T) = i by clear a2 d2; omega] at q
                exact q
            · rw [d1, kb_s, ksum_r]
              refine Or.inr ⟨fun y => d2 fun j hj => ?_, rfl⟩
              have q := y.2.2.2.1 (4 + 2 * T + j) (by omega) (by omega)
              rw [bd, if_neg (by omega)] at q
              exact q
          · rw [a1, kb_s, ksum_r]
            refine Or.inr ⟨fun y => a2 fun j hj => ⟨?_, ?_⟩, rfl⟩
            · have q := y.2.2.2.1 (4 + 2 * j) (by omega) (by omega)
              rw [bd, if_pos (by omega), if_pos (by omega)] at q
              exact q
            · have q := y.2.2.2.1 (4 + 2 * j + 1) (by omega) (by omega)
              rw [bd, if_pos (by omega), if_neg (by omega)] at q
              exact q
        · rw [if_neg z3]
          exact Or.inr ⟨fun y => z3 y.2.2.1, rfl⟩
    · rw [if_neg z4]
      exact Or.inr ⟨fun y => z4 y.2.2.2.2, rfl⟩
  · right
    refine ⟨fun y => z1 y.1, ?_⟩
    unfold f_X12_isImage
    rw [if_pos kk173, m_testMany hr, kb_s, e4, n32_mulr, n32_addr, kl_e, m_markMany hr, kb_s, e5, n32_mulr, n32_add, n32_addl, if_neg (by rw [n32_eq (by omega) (by omega)]; omega)]
