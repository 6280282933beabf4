/-! new int[n][k] -/
/-- the outer array behind so many inner ones (as the printed names have it) -/
theorem kouter (c : ClassId) (N h0 : Nat) : ∀ i : Nat, Jvm.Free.Multi.outerC c N h0 i = arrV c N (fun j => va_rf (if j < i then some (h0 + 1 + j) else none))
  | 0 => by
    show ({ cls := c, slots := Array.replicate N .null, vm := .none } : Cell) = _
    rw [arrV_new]
    refine congrArg (arrV c N) (funext fun j => ?_)
    simp [va_rf]
  | i + 1 => by
    show (Jvm.Free.Multi.outerC c N h0 i).setSlot i (.ref (h0 + 1 + i)) = _
    rw [kouter c N h0 i, arrV_store]
    refine congrArg (arrV c N) (funext fun j => ?_)
    by_cases e : j = i
    · subst e
      simp [updV, va_rf]
    · by_cases h : j < i
      · simp [updV, e, h, Nat.lt_succ_of_lt h]
      · simp [updV, e, h, show ¬ j < i + 1 by omega]
def knewm (h : KH) (N : Nat) : KH := (h.1 + 1 + N, fun a b => if h.1 ≤ a then 0 else h.2.1 a b, fun a b => if h.1 ≤ a then 0 else h.2.2.1 a b, fun a b => if a = h.1 then (if b < N then h.1 + 1 + b else 999999) else if h.1 ≤ a then 999999 else h.2.2.2 a b)
theorem ksz_add {a K : Nat} : ∀ N : Nat, (∀ i, i < N → kszl (a + i) = K) → ksz (a + N) = ksz a + N * K
  | 0, _ => by simp
  | N + 1, h => by
    show ksz (a + N) + kszl (a + N) = _
    rw [ksz_add N (fun i hi => h i (Nat.lt_succ_of_lt hi)), h N (Nat.lt_succ_self N), Nat.succ_mul]
    omega
section KR
variable {Z : Nat → (Nat → Nat) → State → Prop} {own : String} {cc : ByteArray} {nL : Nat} {ini : Bool} {d pc : Nat} {ls : List (Nat × Value)} {st : List Value} {h : KH} {pc9 : Nat} {ls9 : List (Nat × Value)} {st9 : List Value} {h9 : KH}
theorem r_mna {i q N K2 : Nat} {n k2 : Int32} (hd : decode cc pc = .ok (.multianewarray i 2, 4)) (hq : pc + 4 = q) (hw : Cond.classLink own i ("[" ++ (FieldType.array .int).toString) ∈ ktG ∧ Cond.arrayClass .int ∈ ktG) (hz : ∀ (base : Nat) (sA : Nat → Nat) (U : State), Z base sA U → (Cond.arrayOver (.array .int)).before #[] U = true)
    (hk : kkind h.1 = 24 ∧ klen h.1 = N ∧ n.toNatClampNeg = N ∧ ¬ n < 0 ∧ ¬ k2 < 0 ∧ k2.toNatClampNeg = K2 ∧ N ≤ 100 ∧ K2 ≤ 100) (hin : ∀ i, i < N → kkind (h.1 + 1 + i) = 20 ∧ klen (h.1 + 1 + i) = K2) (k : KS Z own cc nL ini d q ls (.ref h.1 :: st) (knewm h N) pc9 ls9 st9 h9) : KS Z own cc nL ini d pc ls (.int k2 :: .int n :: st) h pc9 ls9 st9 h9 := by
  obtain ⟨hk1, hk2, hk3, hk4, hk5, hk6, hk7, hk8⟩ := hk
  have hmon : kmon h (knewm h N) := by
    refine ⟨by show h.1 ≤ h.1 + 1 + N; omega, fun _ => ?_⟩
    show h.1 + 1 + N ≤ 243
    rcases Nat.eq_zero_or_pos N with z | z
    · have := kkind_lt (l := h.1) (by rw [hk1]; decide)
      omega
    · have := kkind_lt (l := h.1 + 1 + (N - 1)) (by rw [(hin (N - 1) (by omega)).1]; decide)
      omega
  refine ⟨hmon.tr k.1, ?_⟩
  subst hq
  intro nF n0 D dA base sA H0 p l' e R s m args below meth c Q C hl hn K lsM H locs cells slots hL hP hS h1 h2
  obtain ⟨g1, g2, g3, g4⟩ := C.2.2.2.1
  have hnF : h.1 + 1 + N ≤ nF := Nat.le_trans k.1.1 hn
  have hks : ksz (h.1 + 1 + N) = ksz h.1 + N + N * K2 := by
    rw [ksz_add (a := h.1 + 1) (K := K2) N (fun i hi => by unfold kszl; rw [if_neg (by rw [(hin i hi).1]; decide), (hin i hi).2])]
    show ksz h.1 + kszl h.1 + _ = _
    unfold kszl
    rw [if_neg (by rw [hk1]; decide), hk2]
  have hm := ksz_mono hnF
  intro T hT X
  have hsp : H.size = base + h.1 := hP.2
  obtain ⟨vm₁, cA, comp, -, fA, fC, hO, -, X', step⟩ := X.multianewarray2F C.1.1 C.1.2.2.2.1 (C.1.2.2.2.2 _ hw.1) (hz base sA s C.2.1.1.2.2.2) (C.1.2.2.2.2 _ hw.2) (g := F0 m pc lsM (kst base sA (.int k2 :: .int n :: st))) rfl (by rw [C.1.2.1]; exact hd) (n := n) (k := k2) (rest := kst base sA st) rfl hk4 hk5 (by rw [hk3]; omega) (by rw [hk6]; exact Nat.le_trans (Nat.mul_le_mul hk8 (show componentBytes .int ≤ 8 by decide)) (by decide)) (by rw [hk6]; omega) rfl rfl (by rw [hk3]; omega) (by rw [hk3, hk6]; omega)
  rw [hk3, hk6] at X' step
  have ec : cA = dA 24 := Option.some.inj (fA.symm.trans ((C.2.1.1.1.2 4 _ rfl).2))
  have ec2 : comp = dA 20 := Option.some.inj (fC.symm.trans ((C.2.1.1.1.2 0 _ rfl).2))
  subst ec; subst ec2
  generalize hF : Jvm.Free.Multi.fill (T.setVm vm₁) (dA 24) (dA 20) N K2 (defaultValue .int) N = F at X' step
  have hTh : (T.setVm vm₁).heap = H := hT
  obtain ⟨f1, f2, -, -⟩ := Jvm.Free.Multi.fill_facts (T.setVm vm₁) (dA 24) (dA 20) N K2 (defaultValue .int) N
  rw [hF, hTh] at f1 f2
  have hold : ∀ x : Nat, x < H.size → F.heap[x]? = H[x]? := fun x hx => by
    have := Jvm.Free.Multi.fill_old (T.setVm vm₁) (dA 24) (dA 20) N K2 (defaultValue .int) (a := x) (by rw [hTh]; exact hx) N
    rw [hF, hTh] at this
    exact this
  have hrow : ∀ j : Nat, j < N → F.heap[H.size + 1 + j]? = some (vp_cell (dA 20) (K2, .inl (fun _ => 0))) := fun j hj => by
    have := Jvm.Free.Multi.fill_inner (T.setVm vm₁) (dA 24) (dA 20) N K2 (defaultValue .int) N j hj
    rw [hF, hTh] at this
    rw [this]
    show some ({ cls := dA 20, slots := Array.replicate K2 (.int 0), vm := .none } : Cell) = _
    rw [arrV_new]
    rfl
  have hP2 : KHp D dA base (knewm h N) F.heap := by
    refine ⟨fun a q hq => ?_, by rw [f1, hsp]; show _ = base + (h.1 + 1 + N); omega⟩
    have ha : a < h.1 + 1 + N := by
      have := (List.getElem?_eq_some_iff.mp hq).1
      simpa [kws, knewm] using this
    rw [kws_get (h := knewm h N) ha] at hq
    cases hq
    rcases Nat.lt_trichotomy a h.1 with z | z | z
    · have h0 := hP.1 a _ (kws_get z)
      have e0 : kcell dA base (knewm h N) a = kcell dA base h a := kcell_ext (fun j => by simp [kI, knewm, Nat.not_le.mpr z]) (fun j => by simp [kL, knewm, Nat.not_le.mpr z]) (fun j => by simp [kR, knewm, Nat.not_le.mpr z, Nat.ne_of_lt z])
      rw [e0]
      exact h0.kept (hold _ (h0.lt))
    · subst z
      show va_at D kcl (base + h.1, kcell dA base (knewm h N) h.1) F.heap
      rw [kcell_q hk1 (Or.inl rfl)]
      show F.heap[base + h.1]? = some (vp_cell (dA 24) (klen h.1, .inr (.inr (.inr (.inr _)))))
      rw [← hsp, f2, kouter, vp_cell_q, hk2]
      refine congrArg (fun z => some (arrV (dA 24) N z)) (funext fun j => ?_)
      unfold krq
      by_cases hj : j < N
      · have hr : kR (knewm h N) h.1 j = h.1 + 1 + j := by simp [kR, knewm, hj]
        have hlt := kkind_lt (l := h.1 + 1 + j) (by rw [(hin j hj).1]; decide)
        rw [hr, if_pos hj, if_neg (by omega), hsp]
        congr 1
        congr 1
        omega
      · have hr : kR (knewm h N) h.1 j = 999999 := by simp [kR, knewm, hj]
        rw [hr, if_neg hj, if_pos rfl]
    · obtain ⟨j, hj, rfl⟩ : ∃ j, j < N ∧ a = h.1 + 1 + j := ⟨a - h.1 - 1, by omega, by omega⟩
      have e0 : kcell dA base (knewm h N) (h.1 + 1 + j) = .inl (dA 20, K2, .inl (fun _ => 0)) := by
        rw [kcell_i (hin j hj).1 (Or.inl rfl), (hin j hj).2]
        congr 4
        funext b
        have : h.1 ≤ h.1 + 1 + j := by omega
        simp [kI, knewm, this]
      rw [e0]
      show F.heap[base + (h.1 + 1 + j)]? = _
      rw [show base + (h.1 + 1 + j) = H.size + 1 + j by omega]
      exact hrow j hj
  have hkk := k.2 nF n0 D dA base sA H0 p l' e R s m args below meth c Q C hl hn K lsM F.heap locs (cells + 1 + N) (slots + N + N * K2) hL hP2 ⟨by rw [f1]; have := hS.1; omega, fun x x1 x2 => (hold x (Nat.lt_of_lt_of_le x1 hS.1)).trans (hS.2.1 x x1 x2), hS.2.2⟩ (by show cells + 1 + N + n0 = h.1 + 1 + N; omega) (by show _ = ksz (h.1 + 1 + N); omega)
  obtain ⟨t, a1, b1⟩ := hkk F rfl X'
  refine ⟨t, step t ?_, b1⟩
  have e9 : kst base sA (.ref h.1 :: st) = .ref T.heap.size :: kst base sA st := by
    show Value.ref (kadr base sA h.1) :: kst base sA st = _
    rw [kadr_k (by rw [hk1]; decide), hT, hsp]
  rw [e9] at a1
  exact a1
end KR
