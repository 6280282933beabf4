/-! calls and returns -/
theorem ksz_mono {a b : Nat} (h : a ≤ b) : ksz a ≤ ksz b := by
  induction b with
  | zero => rw [Nat.le_zero.mp h]; exact Nat.le_refl _
  | succ b ih =>
    rcases Nat.lt_or_ge a (b + 1) with q | q
    · exact Nat.le_trans (ih (Nat.lt_succ_iff.mp q)) (Nat.le_add_right _ _)
    · rw [Nat.le_antisymm h q]; exact Nat.le_refl _
def kroom (d mc ms : Nat) : Room := { frames := d, cells := mc, slots := ms, locals := 60 * d }
def kPc (Z : Nat → (Nat → Nat) → State → Prop) (D : va_G) (dA : Nat → ClassId) (base : Nat) (sA : Nat → Nat) (av : List Value) (h : KH) : Array Value → State → Prop := fun v U => v = (kst base sA av).toArray ∧ KU Z D dA base sA U ∧ KHp D dA base h U.heap
def kQc (D : va_G) (dA : Nat → ClassId) (base : Nat) (sA : Nat → Nat) (r : Option Value) (h' : KH) : Array Value → State → Outcome → State → Prop := fun _ st o t => o = .returned (r.map (kv base sA)) ∧ KHp D dA base h' t.heap ∧ ∀ q, q < base → t.heap[q]? = st.heap[q]?
/-- a method, with these arguments at this heap, answers r and leaves h' -/
def KM (Z : Nat → (Nat → Nat) → State → Prop) (y : MethodName) (cc : ByteArray) (nL : Nat) (ret : Option FieldType) (d : Nat) (av : List Value) (h : KH) (r : Option Value) (h' : KH) : Prop :=
  kmon h h' ∧ ∀ (l : Launch) (D : va_G) (dA : Nat → ClassId) (base : Nat) (sA : Nat → Nat), KZok Z → Met l y (.code y cc nL ret :: ktG) (kroom d (h'.1 - h.1) (ksz h'.1 - ksz h.1)) (kPc Z D dA base sA av h) (kQc D dA base sA r h') (h'.1 - h.1) (ksz h'.1 - ksz h.1) (fun q => base ≤ q)
theorem kPc_blind {Z : Nat → (Nat → Nat) → State → Prop} {D : va_G} {dA : Nat → ClassId} {base : Nat} {sA : Nat → Nat} {av : List Value} {h : KH} (hZ : KZok Z) : FrameBlind (kPc Z D dA base sA av h) := fun a U g mk q =>
  ⟨q.1, q.2.1.calling hZ (by rw [q.2.2.2]; exact Nat.le_add_right _ _) g mk a, q.2.2⟩
theorem kgood {c : Cond} (h : c ∈ ktG) : GoodIn ktG (c :: ktG) := fun w hw => by
  rcases List.mem_cons.mp hw with rfl | hw
  · exact ktG_good _ h
  · exact ktG_good _ hw
theorem kst_args {base : Nat} {sA : Nat → Nat} (vs : List Value) : ∀ i, kls base sA (lv_args i vs) = lv_args i (kst base sA vs) := by
  induction vs with
  | nil => intro i; rfl
  | cons v vs ih =>
    intro i
    show (i, kv base sA v) :: kls base sA (lv_args _ vs) = (i, kv base sA v) :: lv_args _ (kst base sA vs)
    rw [kv_cat, ih]
theorem kst_sl {base : Nat} {sA : Nat → Nat} (vs : List Value) : (lg_sl (kst base sA vs)).length = (lg_sl vs).length := by
  induction vs with
  | nil => rfl
  | cons v vs ih =>
    show ((if (kv base sA v).category = 2 then [Slot.val (kv base sA v), .second] else [.val (kv base sA v)]) ++ lg_sl (kst base sA vs)).length = ((if v.category = 2 then [Slot.val v, .second] else [.val v]) ++ lg_sl vs).length
    rw [kv_cat, List.length_append, List.length_append, ih]
    by_cases hc : v.category = 2
    · rw [if_pos hc, if_pos hc]; rfl
    · rw [if_neg hc, if_neg hc]; rfl
section KCALL
variable {p : Program} {l : Launch} {e : Env} {R : Room} {s : State} {m : MethodId} {args : Array Value} {below : List Frame} {meth : Method} {c : Code} {H : Heap} {locs : List Loc} {cells slots : Nat} {Q : State → Prop}
theorem k_ran {D : va_G} {dA : Nat → ClassId} {base : Nat} {sA : Nat → Nat} {r : Option Value} {h2 : KH} {pc : Nat} {lsM : Array Slot} {st0 rest : List Value} {mc ms : Nat} {free : Addr → Prop} {a : Array Value} {H0 : Heap}
    (hr : va_Run p l e R s m args below meth c H locs cells slots mc ms (F0 m pc lsM st0) rest (kQc D dA base sA r h2 a) free) (hS : va_S (fun q => base ≤ q) H0 H locs) (hf : ∀ q, free q → base ≤ q) (hz : H.size ≤ base + h2.1) (hb : base ≤ H0.size)
    (kk : ∀ (H1 : Heap) (locs1 : List Loc), KHp D dA base h2 H1 → va_S (fun q => base ≤ q) H0 H1 locs1 → W p l e R s m args below meth c H1 locs1 (cells + mc) (slots + ms) Q (F0 m (pc + 3) lsM ((r.map (kv base sA)).toList ++ rest))) : W p l e R s m args below meth c H locs cells slots Q (F0 m pc lsM st0) := by
  intro T hT X
  obtain ⟨v, st₀, t, T', L, h0, X', hL, e1, e2, ⟨hv, hH, hk⟩, st⟩ := hr T hT X
  cases hv
  rw [h0] at hk
  obtain ⟨t2, a1, b1⟩ := kk T'.heap (locs ++ L) (by rw [e1]; exact hH) ⟨Nat.le_trans hS.1 (by rw [e1, hH.2]; exact hz), fun q g1 g2 => by
      have hq : q < base := Nat.not_le.mp g2
      rw [e1, hk q hq]
      exact hS.2.1 q g1 g2, fun q hq => by
      rcases List.mem_append.mp hq with h | h
      · exact hS.2.2 q h
      · exact hf _ (hL q h)⟩ T' rfl X'
  exact ⟨t2, st t2 a1, b1⟩
end KCALL
theorem kst_split {base : Nat} {sA : Nat → Nat} {as rest : List Value} : kst base sA (as.reverse ++ rest) = (kst base sA as).reverse ++ kst base sA rest := by
  simp [kst]
theorem kst_catsum {base : Nat} {sA : Nat → Nat} (vs : List Value) : ((kst base sA vs).map fun v => v.category).sum = (vs.map fun v => v.category).sum := by
  unfold kst
  rw [List.map_map]
  congr 1
  apply List.map_congr_left
  intro v _
  exact kv_cat base sA v
theorem kst_ret {base : Nat} {sA : Nat → Nat} (r : Option Value) (rest : List Value) : (r.map (kv base sA)).toList ++ kst base sA rest = kst base sA (r.toList ++ rest) := by
  cases r <;> rfl
section KR
variable {Z : Nat → (Nat → Nat) → State → Prop} {own : String} {cc : ByteArray} {nL : Nat} {ini : Bool} {d pc : Nat} {ls : List (Nat × Value)} {h : KH} {pc9 : Nat} {ls9 : List (Nat × Value)} {st9 : List Value} {h9 : KH}
theorem r_callS {y : MethodName} {cc2 : ByteArray} {nL2 : Nat} {ret : Option FieldType} {i d2 q : Nat} {as rest : List Value} {r : Option Value} {h2 : KH} (hd : decode cc pc = .ok (.invokestatic i, 3)) (hq : pc + 3 = q)
    (hw : Cond.methodLink own i y ∈ ktG ∧ Cond.static y ∈ ktG ∧ Cond.initialized y.cls ∈ ktG ∧ Cond.code y cc2 nL2 ret ∈ ktG) (hy : y.cls ≠ "java/lang/invoke/MethodHandle" ∧ y.cls ≠ "java/lang/invoke/VarHandle" ∧ (parseMethodDescriptor y.desc).map (fun d => d.parameters.length) = some as.length)
    (hdd : d2 + 1 ≤ d ∧ nL2 ≤ 41) (hcat : (rest.map fun v => v.category).sum ≤ 8) (hM : KM Z y cc2 nL2 ret d2 as h r h2) (k : KS Z own cc nL ini d q ls (r.toList ++ rest) h2 pc9 ls9 st9 h9) : KS Z own cc nL ini d pc ls (as.reverse ++ rest) h pc9 ls9 st9 h9 := by
  refine ⟨hM.1.tr k.1, ?_⟩
  subst hq
  intro nF n0 D dA base sA H0 p l' e R s m args below meth c Q C hl hn K lsM H locs cells slots hL hP hS h1 h2'
  obtain ⟨g1, g2, g3, g4⟩ := C.2.2.2.1
  have gn0 : h2.1 ≤ nF := Nat.le_trans k.1.1 hn
  have gk := ksz_mono gn0
  have gk2 := ksz_mono hM.1.1
  have hle := hM.1.1
  rw [kst_split]
  have hrun := va_runS (p := p) (l := l') (e := e) (R := R) (s := s) (m := m) (args := args) (below := below) (meth := meth) (c := c) (H := H) (locs := locs) (cells := cells) (slots := slots) (As := kst base sA as) (rest := kst base sA rest) (n := as.length) (g := F0 m pc lsM ((kst base sA as).reverse ++ kst base sA rest)) C.1 (hM.2 l' D dA base sA C.2.1.2)
    ⟨⟨rfl, rfl, by show d2 + 1 ≤ R.frames; omega, by show 8 + (nL2 + 11) + 60 * d2 ≤ R.locals; omega, pay_in C.1.2.2.2.2 (kgood hw.2.2.2), List.mem_cons_self, C.1.2.2.2.2 _ hw.2.2.2, C.1.2.2.2.2 _ hw.2.2.1, ⟨hy.1, hy.2.1⟩, fun sig z => by have := hy.2.2; rw [z] at this; exact (Option.some.inj this).symm, C.1.2.2.2.2 _ hw.1⟩, C.1.2.2.2.2 _ hw.2.1⟩
    ⟨kPc_blind C.2.1.2, fun U hU hW => ⟨rfl, C.2.1.1.warm C.2.1.2 hW (by rw [← C.2.2.2.2.2, C.2.2.2.2.1]; exact Nat.le_add_right _ _) (by rw [hU, ← C.2.2.2.2.2]; exact hS.1) (fun q hq => by rw [hU, ← C.2.2.2.2.2]; exact hS.2.1 q (Nat.lt_of_lt_of_le hq (by rw [C.2.2.2.2.1]; exact Nat.le_add_right _ _)) (Nat.not_le.mpr hq)), by rw [hU]; exact hP⟩⟩
    rfl (by simp [kst]) hL.1 rfl (lv_room (rest := (kst base sA as).reverse ++ kst base sA rest) (by rw [kst_catsum]; exact hcat)) hd ⟨by omega, by omega⟩
  refine k_ran hrun hS (fun _ z => z) (by rw [hP.2]; omega) (by rw [C.2.2.2.2.1]; exact Nat.le_add_right _ _) fun H1 locs1 hP1 hS1 => ?_
  rw [kst_ret]
  exact k.2 nF n0 D dA base sA H0 p l' e R s m args below meth c Q C hl hn K lsM H1 locs1 _ _ hL hP1 hS1 (by omega) (by omega)
theorem r_callSN {y : MethodName} {cc2 : ByteArray} {nL2 : Nat} {ret : Option FieldType} {i d2 q : Nat} {as rest : List Value} {r : Option Value} {h2 : KH} (hd : decode cc pc = .ok (.invokestatic i, 3)) (hq : pc + 3 = q)
    (hw : (own, i, y, "KingsTest") ∈ knestM ∧ Cond.static y ∈ ktG ∧ Cond.initialized y.cls ∈ ktG ∧ Cond.code y cc2 nL2 ret ∈ ktG) (hy : y.cls ≠ "java/lang/invoke/MethodHandle" ∧ y.cls ≠ "java/lang/invoke/VarHandle" ∧ (parseMethodDescriptor y.desc).map (fun d => d.parameters.length) = some as.length)
    (hdd : d2 + 1 ≤ d ∧ nL2 ≤ 41) (hcat : (rest.map fun v => v.category).sum ≤ 8) (hM : KM Z y cc2 nL2 ret d2 as h r h2) (k : KS Z own cc nL ini d q ls (r.toList ++ rest) h2 pc9 ls9 st9 h9) : KS Z own cc nL ini d pc ls (as.reverse ++ rest) h pc9 ls9 st9 h9 := by
  refine ⟨hM.1.tr k.1, ?_⟩
  subst hq
  intro nF n0 D dA base sA H0 p l' e R s m args below meth c Q C hl hn K lsM H locs cells slots hL hP hS h1 h2'
  obtain ⟨g1, g2, g3, g4⟩ := C.2.2.2.1
  have gn0 : h2.1 ≤ nF := Nat.le_trans k.1.1 hn
  have gk := ksz_mono gn0
  have gk2 := ksz_mono hM.1.1
  have hle := hM.1.1
  rw [kst_split]
  have hrun := va_runSN (p := p) (l := l') (e := e) (R := R) (s := s) (m := m) (args := args) (below := below) (meth := meth) (c := c) (H := H) (locs := locs) (cells := cells) (slots := slots) (As := kst base sA as) (rest := kst base sA rest) (n := as.length) (g := F0 m pc lsM ((kst base sA as).reverse ++ kst base sA rest)) C.1 (hM.2 l' D dA base sA C.2.1.2)
    ⟨⟨⟨rfl, rfl, by show d2 + 1 ≤ R.frames; omega, by show 8 + (nL2 + 11) + 60 * d2 ≤ R.locals; omega, pay_in C.1.2.2.2.2 (kgood hw.2.2.2), List.mem_cons_self⟩, C.1.2.2.2.2 _ hw.2.2.2, C.1.2.2.2.2 _ hw.2.2.1, ⟨hy.1, hy.2.1⟩, fun sig z => by have := hy.2.2; rw [z] at this; exact (Option.some.inj this).symm, va_Nw.use rfl (C.2.1.1.2.2.1 _ hw.1)⟩, C.1.2.2.2.2 _ hw.2.1, trivial⟩
    ⟨kPc_blind C.2.1.2, fun U hU hW => ⟨rfl, C.2.1.1.warm C.2.1.2 hW (by rw [← C.2.2.2.2.2, C.2.2.2.2.1]; exact Nat.le_add_right _ _) (by rw [hU, ← C.2.2.2.2.2]; exact hS.1) (fun q hq => by rw [hU, ← C.2.2.2.2.2]; exact hS.2.1 q (Nat.lt_of_lt_of_le hq (by rw [C.2.2.2.2.1]; exact Nat.le_add_right _ _)) (Nat.not_le.mpr hq)), by rw [hU]; exact hP⟩⟩
    rfl (by simp [kst]) hL.1 rfl (lv_room (rest := (kst base sA as).reverse ++ kst base sA rest) (by rw [kst_catsum]; exact hcat)) hd ⟨by omega, by omega⟩
  refine k_ran hrun hS (fun _ z => z) (by rw [hP.2]; omega) (by rw [C.2.2.2.2.1]; exact Nat.le_add_right _ _) fun H1 locs1 hP1 hS1 => ?_
  rw [kst_ret]
  exact k.2 nF n0 D dA base sA H0 p l' e R s m args below meth c Q C hl hn K lsM H1 locs1 _ _ hL hP1 hS1 (by omega) (by omega)
theorem r_callV {y : MethodName} {cc2 : ByteArray} {nL2 : Nat} {ret : Option FieldType} {i d2 q b : Nat} {as rest : List Value} {r : Option Value} {h2 : KH} (hd : decode cc pc = .ok (.invokevirtual i, 3)) (hq : pc + 3 = q)
    (hw : Cond.methodLink own i y ∈ ktG ∧ (Cond.instanceMethod y ∈ ktG ∧ Cond.selects y.cls y y ∈ ktG) ∧ Cond.initialized y.cls ∈ ktG ∧ Cond.code y cc2 nL2 ret ∈ ktG) (hy : y.cls ≠ "java/lang/invoke/MethodHandle" ∧ y.cls ≠ "java/lang/invoke/VarHandle" ∧ (parseMethodDescriptor y.desc).map (fun d => d.parameters.length) = some as.length)
    (hdd : d2 + 1 ≤ d ∧ nL2 ≤ 41) (hcat : (rest.map fun v => v.category).sum ≤ 8) (hM : KM Z y cc2 nL2 ret d2 (.ref b :: as) h r h2) {ci : Nat} (hrc : kown ci = y.cls ∧ ci < 13) (ho : kkind b = ci ∧ b < h.1) (k : KS Z own cc nL ini d q ls (r.toList ++ rest) h2 pc9 ls9 st9 h9) : KS Z own cc nL ini d pc ls (as.reverse ++ .ref b :: rest) h pc9 ls9 st9 h9 := by
  refine ⟨hM.1.tr k.1, ?_⟩
  subst hq
  intro nF n0 D dA base sA H0 p l' e R s m args below meth c Q C hl hn K lsM H locs cells slots hL hP hS h1 h2'
  obtain ⟨g1, g2, g3, g4⟩ := C.2.2.2.1
  have gn0 : h2.1 ≤ nF := Nat.le_trans k.1.1 hn
  have gk := ksz_mono gn0
  have gk2 := ksz_mono hM.1.1
  have hle := hM.1.1
  rw [kst_split]
  show W p l' e R s m args below meth c H locs cells slots Q (F0 m pc lsM ((kst base sA as).reverse ++ Value.ref (kadr base sA b) :: kst base sA rest))
  have krecv : ∃ cell : Cell, H[kadr base sA b]? = some cell ∧ cell.vm.isStatics = false ∧ s.vm.findClass y.cls = some cell.cls := by
    obtain ⟨C', T, N, -, hc, -⟩ := KFC_all ci hrc.2
    have he := kws_get (dA := dA) (base := base) ho.2
    rw [kcell_o ho.1 (by omega)] at he
    have := va_recv C.2.1.1.1 hP.1 hc he
    have hcn : kown ci = C' := by unfold kown; rw [hc]
    rw [kadr_k (by rw [ho.1]; omega), ← hrc.1, hcn]
    exact this
  have hrun := va_runV (p := p) (l := l') (e := e) (R := R) (s := s) (m := m) (args := args) (below := below) (meth := meth) (c := c) (H := H) (locs := locs) (cells := cells) (slots := slots) (As := kst base sA as) (rest := kst base sA rest) (n := as.length) (b := kadr base sA b) (g := F0 m pc lsM ((kst base sA as).reverse ++ Value.ref (kadr base sA b) :: kst base sA rest)) C.1 (hM.2 l' D dA base sA C.2.1.2)
    ⟨⟨rfl, rfl, by show d2 + 1 ≤ R.frames; omega, by show 8 + (nL2 + 11) + 60 * d2 ≤ R.locals; omega, pay_in C.1.2.2.2.2 (kgood hw.2.2.2), List.mem_cons_self, C.1.2.2.2.2 _ hw.2.2.2, C.1.2.2.2.2 _ hw.2.2.1, ⟨hy.1, hy.2.1⟩, fun sig z => by have := hy.2.2; rw [z] at this; exact (Option.some.inj this).symm, C.1.2.2.2.2 _ hw.1⟩, C.1.2.2.2.2 _ hw.2.1.1, C.1.2.2.2.2 _ hw.2.1.2⟩
    ⟨kPc_blind C.2.1.2, krecv, fun U hU hW => ⟨rfl, C.2.1.1.warm C.2.1.2 hW (by rw [← C.2.2.2.2.2, C.2.2.2.2.1]; exact Nat.le_add_right _ _) (by rw [hU, ← C.2.2.2.2.2]; exact hS.1) (fun q hq => by rw [hU, ← C.2.2.2.2.2]; exact hS.2.1 q (Nat.lt_of_lt_of_le hq (by rw [C.2.2.2.2.1]; exact Nat.le_add_right _ _)) (Nat.not_le.mpr hq)), by rw [hU]; exact hP⟩⟩
    rfl (by simp [kst]) hL.1 rfl (lv_room (rest := (kst base sA as).reverse ++ Value.ref (kadr base sA b) :: kst base sA rest) (by rw [kst_catsum]; exact hcat)) hd ⟨by omega, by omega⟩
  refine k_ran hrun hS (fun _ z => z) (by rw [hP.2]; omega) (by rw [C.2.2.2.2.1]; exact Nat.le_add_right _ _) fun H1 locs1 hP1 hS1 => ?_
  rw [kst_ret]
  exact k.2 nF n0 D dA base sA H0 p l' e R s m args below meth c Q C hl hn K lsM H1 locs1 _ _ hL hP1 hS1 (by omega) (by omega)
theorem r_callVN {y : MethodName} {cc2 : ByteArray} {nL2 : Nat} {ret : Option FieldType} {i d2 q b : Nat} {as rest : List Value} {r : Option Value} {h2 : KH} (hd : decode cc pc = .ok (.invokevirtual i, 3)) (hq : pc + 3 = q)
    (hw : (own, i, y, "KingsTest") ∈ knestM ∧ (Cond.instanceMethod y ∈ ktG ∧ Cond.selects y.cls y y ∈ ktG) ∧ Cond.initialized y.cls ∈ ktG ∧ Cond.code y cc2 nL2 ret ∈ ktG) (hy : y.cls ≠ "java/lang/invoke/MethodHandle" ∧ y.cls ≠ "java/lang/invoke/VarHandle" ∧ (parseMethodDescriptor y.desc).map (fun d => d.parameters.length) = some as.length)
    (hdd : d2 + 1 ≤ d ∧ nL2 ≤ 41) (hcat : (rest.map fun v => v.category).sum ≤ 8) (hM : KM Z y cc2 nL2 ret d2 (.ref b :: as) h r h2) {ci : Nat} (hrc : kown ci = y.cls ∧ ci < 13) (ho : kkind b = ci ∧ b < h.1) (k : KS Z own cc nL ini d q ls (r.toList ++ rest) h2 pc9 ls9 st9 h9) : KS Z own cc nL ini d pc ls (as.reverse ++ .ref b :: rest) h pc9 ls9 st9 h9 := by
  refine ⟨hM.1.tr k.1, ?_⟩
  subst hq
  intro nF n0 D dA base sA H0 p l' e R s m args below meth c Q C hl hn K lsM H locs cells slots hL hP hS h1 h2'
  obtain ⟨g1, g2, g3, g4⟩ := C.2.2.2.1
  have gn0 : h2.1 ≤ nF := Nat.le_trans k.1.1 hn
  have gk := ksz_mono gn0
  have gk2 := ksz_mono hM.1.1
  have hle := hM.1.1
  rw [kst_split]
  show W p l' e R s m args below meth c H locs cells slots Q (F0 m pc lsM ((kst base sA as).reverse ++ Value.ref (kadr base sA b) :: kst base sA rest))
  have krecv : ∃ cell : Cell, H[kadr base sA b]? = some cell ∧ cell.vm.isStatics = false ∧ s.vm.findClass y.cls = some cell.cls := by
    obtain ⟨C', T, N, -, hc, -⟩ := KFC_all ci hrc.2
    have he := kws_get (dA := dA) (base := base) ho.2
    rw [kcell_o ho.1 (by omega)] at he
    have := va_recv C.2.1.1.1 hP.1 hc he
    have hcn : kown ci = C' := by unfold kown; rw [hc]
    rw [kadr_k (by rw [ho.1]; omega), ← hrc.1, hcn]
    exact this
  have hrun := va_runVN (p := p) (l := l') (e := e) (R := R) (s := s) (m := m) (args := args) (below := below) (meth := meth) (c := c) (H := H) (locs := locs) (cells := cells) (slots := slots) (As := kst base sA as) (rest := kst base sA rest) (n := as.length) (b := kadr base sA b) (g := F0 m pc lsM ((kst base sA as).reverse ++ Value.ref (kadr base sA b) :: kst base sA rest)) C.1 (hM.2 l' D dA base sA C.2.1.2)
    ⟨⟨⟨rfl, rfl, by show d2 + 1 ≤ R.frames; omega, by show 8 + (nL2 + 11) + 60 * d2 ≤ R.locals; omega, pay_in C.1.2.2.2.2 (kgood hw.2.2.2), List.mem_cons_self⟩, C.1.2.2.2.2 _ hw.2.2.2, C.1.2.2.2.2 _ hw.2.2.1, ⟨hy.1, hy.2.1⟩, fun sig z => by have := hy.2.2; rw [z] at this; exact (Option.some.inj this).symm, va_Nw.use rfl (C.2.1.1.2.2.1 _ hw.1)⟩, C.1.2.2.2.2 _ hw.2.1.1, C.1.2.2.2.2 _ hw.2.1.2⟩
    ⟨kPc_blind C.2.1.2, krecv, fun U hU hW => ⟨rfl, C.2.1.1.warm C.2.1.2 hW (by rw [← C.2.2.2.2.2, C.2.2.2.2.1]; exact Nat.le_add_right _ _) (by rw [hU, ← C.2.2.2.2.2]; exact hS.1) (fun q hq => by rw [hU, ← C.2.2.2.2.2]; exact hS.2.1 q (Nat.lt_of_lt_of_le hq (by rw [C.2.2.2.2.1]; exact Nat.le_add_right _ _)) (Nat.not_le.mpr hq)), by rw [hU]; exact hP⟩⟩
    rfl (by simp [kst]) hL.1 rfl (lv_room (rest := (kst base sA as).reverse ++ Value.ref (kadr base sA b) :: kst base sA rest) (by rw [kst_catsum]; exact hcat)) hd ⟨by omega, by omega⟩
  refine k_ran hrun hS (fun _ z => z) (by rw [hP.2]; omega) (by rw [C.2.2.2.2.1]; exact Nat.le_add_right _ _) fun H1 locs1 hP1 hS1 => ?_
  rw [kst_ret]
  exact k.2 nF n0 D dA base sA H0 p l' e R s m args below meth c Q C hl hn K lsM H1 locs1 _ _ hL hP1 hS1 (by omega) (by omega)
theorem r_callI {y : MethodName} {cc2 : ByteArray} {nL2 : Nat} {i d2 q b : Nat} {as rest : List Value} {r : Option Value} {h2 : KH} (hd : decode cc pc = .ok (.invokespecial i, 3)) (hq : pc + 3 = q)
    (hw : Cond.methodLink own i y ∈ ktG ∧ (y.name = "<init>" ∧ Cond.instanceMethod y ∈ ktG) ∧ Cond.initialized y.cls ∈ ktG ∧ Cond.code y cc2 nL2 none ∈ ktG) (hy : y.cls ≠ "java/lang/invoke/MethodHandle" ∧ y.cls ≠ "java/lang/invoke/VarHandle" ∧ (parseMethodDescriptor y.desc).map (fun d => d.parameters.length) = some as.length)
    (hdd : d2 + 1 ≤ d ∧ nL2 ≤ 41) (hcat : (rest.map fun v => v.category).sum ≤ 8) (hM : KM Z y cc2 nL2 none d2 (.ref b :: as) h r h2) (k : KS Z own cc nL ini d q ls (r.toList ++ rest) h2 pc9 ls9 st9 h9) : KS Z own cc nL ini d pc ls (as.reverse ++ .ref b :: rest) h pc9 ls9 st9 h9 := by
  refine ⟨hM.1.tr k.1, ?_⟩
  subst hq
  intro nF n0 D dA base sA H0 p l' e R s m args below meth c Q C hl hn K lsM H locs cells slots hL hP hS h1 h2'
  obtain ⟨g1, g2, g3, g4⟩ := C.2.2.2.1
  have gn0 : h2.1 ≤ nF := Nat.le_trans k.1.1 hn
  have gk := ksz_mono gn0
  have gk2 := ksz_mono hM.1.1
  have hle := hM.1.1
  rw [kst_split]
  show W p l' e R s m args below meth c H locs cells slots Q (F0 m pc lsM ((kst base sA as).reverse ++ Value.ref (kadr base sA b) :: kst base sA rest))
  have hrun := va_runI (p := p) (l := l') (e := e) (R := R) (s := s) (m := m) (args := args) (below := below) (meth := meth) (c := c) (H := H) (locs := locs) (cells := cells) (slots := slots) (As := kst base sA as) (rest := kst base sA rest) (n := as.length) (b := kadr base sA b) (g := F0 m pc lsM ((kst base sA as).reverse ++ Value.ref (kadr base sA b) :: kst base sA rest)) C.1 (hM.2 l' D dA base sA C.2.1.2)
    ⟨⟨rfl, rfl, by show d2 + 1 ≤ R.frames; omega, by show 8 + (nL2 + 11) + 60 * d2 ≤ R.locals; omega, pay_in C.1.2.2.2.2 (kgood hw.2.2.2), List.mem_cons_self, C.1.2.2.2.2 _ hw.2.2.2, C.1.2.2.2.2 _ hw.2.2.1, ⟨hy.1, hy.2.1⟩, fun sig z => by have := hy.2.2; rw [z] at this; exact (Option.some.inj this).symm, C.1.2.2.2.2 _ hw.1⟩, hw.2.1.1, C.1.2.2.2.2 _ hw.2.1.2⟩
    ⟨kPc_blind C.2.1.2, fun U hU hW => ⟨rfl, C.2.1.1.warm C.2.1.2 hW (by rw [← C.2.2.2.2.2, C.2.2.2.2.1]; exact Nat.le_add_right _ _) (by rw [hU, ← C.2.2.2.2.2]; exact hS.1) (fun q hq => by rw [hU, ← C.2.2.2.2.2]; exact hS.2.1 q (Nat.lt_of_lt_of_le hq (by rw [C.2.2.2.2.1]; exact Nat.le_add_right _ _)) (Nat.not_le.mpr hq)), by rw [hU]; exact hP⟩⟩
    rfl (by simp [kst]) hL.1 rfl (lv_room (rest := (kst base sA as).reverse ++ Value.ref (kadr base sA b) :: kst base sA rest) (by rw [kst_catsum]; exact hcat)) hd ⟨by omega, by omega⟩
  refine k_ran hrun hS (fun _ z => z) (by rw [hP.2]; omega) (by rw [C.2.2.2.2.1]; exact Nat.le_add_right _ _) fun H1 locs1 hP1 hS1 => ?_
  rw [kst_ret]
  exact k.2 nF n0 D dA base sA H0 p l' e R s m args below meth c Q C hl hn K lsM H1 locs1 _ _ hL hP1 hS1 (by omega) (by omega)
theorem r_callIN {y : MethodName} {cc2 : ByteArray} {nL2 : Nat} {i d2 q b : Nat} {as rest : List Value} {r : Option Value} {h2 : KH} (hd : decode cc pc = .ok (.invokespecial i, 3)) (hq : pc + 3 = q)
    (hw : (own, i, y, "KingsTest") ∈ knestM ∧ (y.name = "<init>" ∧ Cond.instanceMethod y ∈ ktG) ∧ Cond.initialized y.cls ∈ ktG ∧ Cond.code y cc2 nL2 none ∈ ktG) (hy : y.cls ≠ "java/lang/invoke/MethodHandle" ∧ y.cls ≠ "java/lang/invoke/VarHandle" ∧ (parseMethodDescriptor y.desc).map (fun d => d.parameters.length) = some as.length)
    (hdd : d2 + 1 ≤ d ∧ nL2 ≤ 41) (hcat : (rest.map fun v => v.category).sum ≤ 8) (hM : KM Z y cc2 nL2 none d2 (.ref b :: as) h r h2) (k : KS Z own cc nL ini d q ls (r.toList ++ rest) h2 pc9 ls9 st9 h9) : KS Z own cc nL ini d pc ls (as.reverse ++ .ref b :: rest) h pc9 ls9 st9 h9 := by
  refine ⟨hM.1.tr k.1, ?_⟩
  subst hq
  intro nF n0 D dA base sA H0 p l' e R s m args below meth c Q C hl hn K lsM H locs cells slots hL hP hS h1 h2'
  obtain ⟨g1, g2, g3, g4⟩ := C.2.2.2.1
  have gn0 : h2.1 ≤ nF := Nat.le_trans k.1.1 hn
  have gk := ksz_mono gn0
  have gk2 := ksz_mono hM.1.1
  have hle := hM.1.1
  rw [kst_split]
  show W p l' e R s m args below meth c H locs cells slots Q (F0 m pc lsM ((kst base sA as).reverse ++ Value.ref (kadr base sA b) :: kst base sA rest))
  have hrun := va_runIN (p := p) (l := l') (e := e) (R := R) (s := s) (m := m) (args := args) (below := below) (meth := meth) (c := c) (H := H) (locs := locs) (cells := cells) (slots := slots) (As := kst base sA as) (rest := kst base sA rest) (n := as.length) (b := kadr base sA b) (g := F0 m pc lsM ((kst base sA as).reverse ++ Value.ref (kadr base sA b) :: kst base sA rest)) C.1 (hM.2 l' D dA base sA C.2.1.2)
    ⟨⟨⟨rfl, rfl, by show d2 + 1 ≤ R.frames; omega, by show 8 + (nL2 + 11) + 60 * d2 ≤ R.locals; omega, pay_in C.1.2.2.2.2 (kgood hw.2.2.2), List.mem_cons_self⟩, C.1.2.2.2.2 _ hw.2.2.2, C.1.2.2.2.2 _ hw.2.2.1, ⟨hy.1, hy.2.1⟩, fun sig z => by have := hy.2.2; rw [z] at this; exact (Option.some.inj this).symm, va_Nw.use rfl (C.2.1.1.2.2.1 _ hw.1)⟩, hw.2.1.1, C.1.2.2.2.2 _ hw.2.1.2⟩
    ⟨kPc_blind C.2.1.2, fun U hU hW => ⟨rfl, C.2.1.1.warm C.2.1.2 hW (by rw [← C.2.2.2.2.2, C.2.2.2.2.1]; exact Nat.le_add_right _ _) (by rw [hU, ← C.2.2.2.2.2]; exact hS.1) (fun q hq => by rw [hU, ← C.2.2.2.2.2]; exact hS.2.1 q (Nat.lt_of_lt_of_le hq (by rw [C.2.2.2.2.1]; exact Nat.le_add_right _ _)) (Nat.not_le.mpr hq)), by rw [hU]; exact hP⟩⟩
    rfl (by simp [kst]) hL.1 rfl (lv_room (rest := (kst base sA as).reverse ++ Value.ref (kadr base sA b) :: kst base sA rest) (by rw [kst_catsum]; exact hcat)) hd ⟨by omega, by omega⟩
  refine k_ran hrun hS (fun _ z => z) (by rw [hP.2]; omega) (by rw [C.2.2.2.2.1]; exact Nat.le_add_right _ _) fun H1 locs1 hP1 hS1 => ?_
  rw [kst_ret]
  exact k.2 nF n0 D dA base sA H0 p l' e R s m args below meth c Q C hl hn K lsM H1 locs1 _ _ hL hP1 hS1 (by omega) (by omega)
theorem r_objInit {i q b : Nat} {rest : List Value} (hd : decode cc pc = .ok (.invokespecial i, 3)) (hq : pc + 3 = q) (hw : Cond.methodLink own i Lib.objectInit ∈ ktG ∧ Cond.instanceMethod Lib.objectInit ∈ ktG ∧ Cond.code Lib.objectInit ⟨#[0xb1]⟩ 1 none ∈ ktG) (hdd : 1 ≤ d) (hcat : (rest.map fun v => v.category).sum ≤ 8) (k : KS Z own cc nL ini d q ls rest h pc9 ls9 st9 h9) : KS Z own cc nL ini d pc ls (.ref b :: rest) h pc9 ls9 st9 h9 := by
  refine ⟨k.1, ?_⟩
  subst hq
  intro nF n0 D dA base sA H0 p l' e R s m args below meth c Q C hl hn K lsM H locs cells slots hL hP hS h1 h2
  obtain ⟨g1, g2, g3, g4⟩ := C.2.2.2.1
  exact W.objInit (g := F0 m pc lsM (Value.ref (kadr base sA b) :: kst base sA rest)) C.1.1 C.1.2.1 C.1.2.2.2.1 (C.1.2.2.2.2 _ hw.1) (C.1.2.2.2.2 _ hw.2.1) (C.1.2.2.2.2 _ hw.2.2) rfl (by rw [C.1.2.2.1]; exact hL.1) rfl hd (by omega) (by
    have : 2 * (F0 m pc lsM (Value.ref (kadr base sA b) :: kst base sA rest)).monitorRoom + ((kst base sA rest).map fun v => v.category).sum ≤ 8 := lv_room (by rw [kst_catsum]; exact hcat)
    omega) (k.2 nF n0 D dA base sA H0 p l' e R s m args below meth c Q C hl hn K lsM H locs cells slots hL hP hS h1 h2)
end KR
section KFIN
variable {Z : Nat → (Nat → Nat) → State → Prop} {y : MethodName} {cc : ByteArray} {nL d pc : Nat} {av : List Value} {h h' : KH} {ls : List (Nat × Value)}
/-- Met.ofW, for a method that no native row stands for, whatever its class's name is -/
theorem kmet_ofW {l : Launch} {ws ws' : List Cond} {rm : Room} {Pc : Array Value → State → Prop} {Qc : Array Value → State → Outcome → State → Prop} {mc ms : Nat} {free : Addr → Prop} {maxL : Nat} {ret : Option FieldType}
    (hy : plainFor y = true) (hw : ws = Cond.code y cc maxL ret :: ws')
    (body : ∀ p e s m args below meth c s₁, BodyLoose p l y (headSpec ws rm) cc maxL ret e s m args below meth c s₁ → c.maxLocals = maxL → Pc args s →
      W p l e (headSpec ws rm).room s m args below meth c s.heap [] 0 0 (MQ below Qc args s mc ms free) (entryFrame m args maxL)) : Met l y ws rm Pc Qc mc ms free := by
  refine MetFree.of_bodySF (code := cc) (maxLocals := maxL) (ret := ret) hy ?_ ?_
  · intro args s m h hn
    obtain ⟨meth, c, h1, h2, h3, h4, h5, h6, -, -⟩ := Cond.code_spec hn (atoms_spec (ws := ws) h _ (by rw [hw]; exact List.mem_cons_self))
    exact ⟨meth, c, h1, h2, h3, h4, h5, h6⟩
  · intro p e s m args below meth c s₁ B hml hP _
    obtain ⟨t, a1, o, b1, b2, b3⟩ := body p e s m args below meth c s₁ B hml hP s₁ (by rw [B.state]; rfl) (Stand.of_body B)
    exact ⟨t, o, a1, b1, b2, ⟨b3.1, b3.2⟩⟩
/-- a method out of its body's run, whatever its return is -/
theorem km_of {ret : Option FieldType} {st : List Value} {r : Option Value} (hy : plainFor y = true) (hal : (lg_sl av).length ≤ nL) (k : KS Z y.cls cc nL (y.name == "<init>") d 0 (lv_args 0 av) [] h pc ls st h')
    (hfin : ∀ (D : va_G) (dA : Nat → ClassId) (base : Nat) (sA : Nat → Nat) (p : Program) (l : Launch) (e : Env) (R : Room) (s : State) (m : MethodId) (args : Array Value) (below : List Frame) (meth : Method) (c : Code) (H : Heap) (locs : List Loc) (cells slots : Nat) (lsM : Array Slot) (Qc : Array Value → State → Outcome → State → Prop), p.tables.exec = Jvm.exec → c.code = cc → meth.sig.returnType = ret → meth.locks = false →
      (∀ t : State, t.heap = H → s.WarmedH t.vm → Qc args s (.returned (r.map (kv base sA))) t) → (∀ q ∈ locs, base ≤ q.base) → W p l e R s m args below meth c H locs cells slots (MQ below Qc args s cells slots (fun q => base ≤ q)) (F0 m pc lsM (kst base sA st))) : KM Z y cc nL ret d av h r h' := by
  refine ⟨k.1, fun l D dA base sA hZ => ?_⟩
  refine kmet_ofW (maxL := nL) (ret := ret) hy rfl ?_
  intro p e s m args below meth c s₁ B hml hv
  obtain ⟨rfl, hU, hP⟩ := hv
  have hle := k.1.1
  have hsz := hP.2
  have hts0 : ∀ w ∈ (Cond.code y cc nL ret :: ktG), w.before (kst base sA av).toArray s = true := atoms_spec (ws := Cond.code y cc nL ret :: ktG) B.pre
  rw [lg_entry_eq]
  have hL : lv_has ((lg_sl (kst base sA av) ++ List.replicate (nL - (lg_sl (kst base sA av)).length) Slot.unset).toArray) nL (kls base sA (lv_args 0 av)) := by
    rw [kst_args]
    exact lv_entry _ (by rw [kst_sl]; exact hal)
  have gk := ksz_mono hle
  refine k.2 h'.1 h.1 D dA base sA s.heap p l e _ s m _ below meth c (MQ below (kQc D dA base sA r h') _ s (h'.1 - h.1) (ksz h'.1 - ksz h.1) (fun q => base ≤ q))
    ⟨⟨B.exec, B.bytes, hml, findClass_of_methodNamed B.named, fun w hw => hts0 w (List.mem_cons_of_mem _ hw)⟩, ⟨hU, hZ⟩, fun z => by rw [(name_of_methodNamed B.named B.method).1]; exact eq_of_beq z, ⟨Nat.le_refl _, Nat.le_refl _, by show h'.1 ≤ (h'.1 - h.1) + h.1; omega, by show ksz h'.1 ≤ (ksz h'.1 - ksz h.1) + ksz h.1; omega⟩, ⟨hsz, rfl⟩⟩ B.notSynchronized (Nat.le_refl _) ?_ _ s.heap [] 0 0 hL hP va_S.rf (by omega) (by omega)
  intro lsM H locs cells slots hL2 hP2 hS2 h1 h2
  obtain rfl : cells = h'.1 - h.1 := by omega
  obtain rfl : slots = ksz h'.1 - ksz h.1 := by omega
  refine hfin D dA base sA p l e _ s m _ below meth c H locs _ _ lsM _ B.exec B.bytes B.returns B.notSynchronized (fun t ht _ => ⟨rfl, by rw [ht]; exact hP2, fun q hq => ?_⟩) hS2.2.2
  rw [ht]
  exact hS2.2.1 q (by omega) (Nat.not_le.mpr hq)
theorem km_v (hy : plainFor y = true) (hal : (lg_sl av).length ≤ nL) (hd : decode cc pc = .ok (.return_, 1)) (k : KS Z y.cls cc nL (y.name == "<init>") d 0 (lv_args 0 av) [] h pc ls [] h') : KM Z y cc nL none d av h none h' :=
  km_of hy hal k (fun _ _ base sA p l e R s m args below meth c H locs cells slots lsM Qc hx hb hr hl hq hf => W.vret hx hb hr hq hf hd hl)
theorem km_i {v : Int32} (hy : plainFor y = true) (hal : (lg_sl av).length ≤ nL) (hd : decode cc pc = .ok (.ireturn, 1)) (k : KS Z y.cls cc nL (y.name == "<init>") d 0 (lv_args 0 av) [] h pc ls [.int v] h') : KM Z y cc nL (some .int) d av h (some (.int v)) h' :=
  km_of hy hal k (fun _ _ base sA p l e R s m args below meth c H locs cells slots lsM Qc hx hb hr hl hq hf => W.zret hx hb hr rfl hq hf hd hl)
theorem km_z {v : Int32} (hy : plainFor y = true) (hal : (lg_sl av).length ≤ nL) (hz : v = 0 ∨ v = 1) (hd : decode cc pc = .ok (.ireturn, 1)) (k : KS Z y.cls cc nL (y.name == "<init>") d 0 (lv_args 0 av) [] h pc ls [.int v] h') : KM Z y cc nL (some .boolean) d av h (some (.int v)) h' :=
  km_of hy hal k (fun _ _ base sA p l e R s m args below meth c H locs cells slots lsM Qc hx hb hr hl hq hf => W.zret hx hb hr (by rcases hz with rfl | rfl <;> decide) hq hf hd hl)
theorem km_l {v : Int64} (hy : plainFor y = true) (hal : (lg_sl av).length ≤ nL) (hd : decode cc pc = .ok (.lreturn, 1)) (k : KS Z y.cls cc nL (y.name == "<init>") d 0 (lv_args 0 av) [] h pc ls [.long v] h') : KM Z y cc nL (some .long) d av h (some (.long v)) h' :=
  km_of hy hal k (fun _ _ base sA p l e R s m args below meth c H locs cells slots lsM Qc hx hb hr hl hq hf => W.lret hx hb hr hq hf hd hl)
end KFIN
