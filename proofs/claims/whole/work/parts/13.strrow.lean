/-! rows of what is not among the labelled cells: String constants, statics, the script -/
section KR
variable {Z : Nat → (Nat → Nat) → State → Prop} {own : String} {cc : ByteArray} {nL : Nat} {ini : Bool} {d pc : Nat} {ls : List (Nat × Value)} {st : List Value} {h : KH} {pc9 : Nat} {ls9 : List (Nat × Value)} {st9 : List Value} {h9 : KH}
theorem kadr_x {base : Nat} {sA : Nat → Nat} {l : Nat} (h : ¬ l < 999999) : kadr base sA l = sA l := if_neg h
theorem r_ldcS {i lab q : Nat} {tx : String} (hd : decode cc pc = .ok (.ldc i, 2)) (hq : pc + 2 = q) (hl9 : ¬ lab < 999999) (hz : ∀ (base : Nat) (sA : Nat → Nat) (U : State), Z base sA U → vk_R own i tx (sA lab) U) (k : KS Z own cc nL ini d q ls (.ref lab :: st) h pc9 ls9 st9 h9) : KS Z own cc nL ini d pc ls st h pc9 ls9 st9 h9 := by
  refine ⟨k.1, ?_⟩
  subst hq
  intro nF n0 D dA base sA H0 p l' e R s m args below meth c Q C hl hn K lsM H locs cells slots hL hP hS h1 h2
  have hkk := k.2 nF n0 D dA base sA H0 p l' e R s m args below meth c Q C hl hn K lsM H locs cells slots hL hP hS h1 h2
  have e9 : kst base sA (.ref lab :: st) = .ref (sA lab) :: kst base sA st := by
    show Value.ref (kadr base sA lab) :: kst base sA st = _
    rw [kadr_x hl9]
  rw [e9] at hkk
  exact va_ldcS C.1.1 C.1.2.1 C.1.2.2.2.1 (hz base sA s C.2.1.1.2.2.2) hd hkk
theorem r_getX {i lab q : Nat} {ref n dd : String} {v : Value} (hd : decode cc pc = .ok (.getfield i, 3)) (hq : pc + 3 = q) (hl9 : ¬ lab < 999999) (hw : Cond.fieldLink own i ref n dd ∈ ktG) (hz : ∀ (base : Nat) (sA : Nat → Nat) (U : State), Z base sA U → va_OF ref n dd (kv base sA v) (sA lab) (fun q => base ≤ q) U U.heap) (k : KS Z own cc nL ini d q ls (v :: st) h pc9 ls9 st9 h9) : KS Z own cc nL ini d pc ls (.ref lab :: st) h pc9 ls9 st9 h9 := by
  refine ⟨k.1, ?_⟩
  subst hq
  intro nF n0 D dA base sA H0 p l' e R s m args below meth c Q C hl hn K lsM H locs cells slots hL hP hS h1 h2
  have hkk := k.2 nF n0 D dA base sA H0 p l' e R s m args below meth c Q C hl hn K lsM H locs cells slots hL hP hS h1 h2
  have e9 : kst base sA (.ref lab :: st) = .ref (sA lab) :: kst base sA st := by
    show Value.ref (kadr base sA lab) :: kst base sA st = _
    rw [kadr_x hl9]
  rw [e9]
  exact vk_getf C.1.1 C.1.2.1 (hz base sA s C.2.1.1.2.2.2) (by rw [← C.2.2.2.2.2]; exact hS) C.1.2.2.2.1 (C.1.2.2.2.2 _ hw) (fun _ z => z) hd hkk
theorem r_alenX {lab q N : Nat} {ty : FieldType} {f : Nat → Value} (hd : decode cc pc = .ok (.arraylength, 1)) (hq : pc + 1 = q) (hl9 : ¬ lab < 999999) (hz : ∀ (base : Nat) (sA : Nat → Nat) (U : State), Z base sA U → va_T ty (sA lab) N f (fun q => base ≤ q) U U.heap) (k : KS Z own cc nL ini d q ls (.int (Int32.ofNat N) :: st) h pc9 ls9 st9 h9) : KS Z own cc nL ini d pc ls (.ref lab :: st) h pc9 ls9 st9 h9 := by
  refine ⟨k.1, ?_⟩
  subst hq
  intro nF n0 D dA base sA H0 p l' e R s m args below meth c Q C hl hn K lsM H locs cells slots hL hP hS h1 h2
  have hkk := k.2 nF n0 D dA base sA H0 p l' e R s m args below meth c Q C hl hn K lsM H locs cells slots hL hP hS h1 h2
  have e9 : kst base sA (.ref lab :: st) = .ref (sA lab) :: kst base sA st := by
    show Value.ref (kadr base sA lab) :: kst base sA st = _
    rw [kadr_x hl9]
  rw [e9]
  exact va_tlen C.1.1 C.1.2.1 (hz base sA s C.2.1.1.2.2.2) (by rw [← C.2.2.2.2.2]; exact hS) rfl hd hkk
theorem r_baldX {lab q N : Nat} {f : Nat → Int32} {i : Int32} (hd : decode cc pc = .ok (.baload, 1)) (hq : pc + 1 = q) (hl9 : ¬ lab < 999999) (hz : ∀ (base : Nat) (sA : Nat → Nat) (U : State), Z base sA U → va_T .byte (sA lab) N (fun j => .int (f j)) (fun q => base ≤ q) U U.heap) (hi : vp_in i N) (k : KS Z own cc nL ini d q ls (.int (f i.toNatClampNeg) :: st) h pc9 ls9 st9 h9) : KS Z own cc nL ini d pc ls (.int i :: .ref lab :: st) h pc9 ls9 st9 h9 := by
  refine ⟨k.1, ?_⟩
  subst hq
  intro nF n0 D dA base sA H0 p l' e R s m args below meth c Q C hl hn K lsM H locs cells slots hL hP hS h1 h2
  have hkk := k.2 nF n0 D dA base sA H0 p l' e R s m args below meth c Q C hl hn K lsM H locs cells slots hL hP hS h1 h2
  have e9 : kst base sA (.int i :: .ref lab :: st) = .int i :: .ref (sA lab) :: kst base sA st := by
    show Value.int i :: Value.ref (kadr base sA lab) :: kst base sA st = _
    rw [kadr_x hl9]
  rw [e9]
  exact va_tb C.1.1 C.1.2.1 (hz base sA s C.2.1.1.2.2.2) (by rw [← C.2.2.2.2.2]; exact hS) hi rfl hd hkk
theorem r_gets {i q : Nat} {ref n dd : String} {v : Value} (hd : decode cc pc = .ok (.getstatic i, 3)) (hq : pc + 3 = q) (hw : Cond.fieldLink own i ref n dd ∈ ktG) (hz : ∀ (base : Nat) (sA : Nat → Nat) (U : State), Z base sA U → va_Z ref n dd (kv base sA v) (fun q => base ≤ q) U U.heap) (k : KS Z own cc nL ini d q ls (v :: st) h pc9 ls9 st9 h9) : KS Z own cc nL ini d pc ls st h pc9 ls9 st9 h9 := by
  refine ⟨k.1, ?_⟩
  subst hq
  intro nF n0 D dA base sA H0 p l' e R s m args below meth c Q C hl hn K lsM H locs cells slots hL hP hS h1 h2
  have hkk := k.2 nF n0 D dA base sA H0 p l' e R s m args below meth c Q C hl hn K lsM H locs cells slots hL hP hS h1 h2
  exact va_gets C.1.1 C.1.2.1 (hz base sA s C.2.1.1.2.2.2) (by rw [← C.2.2.2.2.2]; exact hS) C.1.2.2.2.1 (C.1.2.2.2.2 _ hw) (fun _ z => z) hd hkk
theorem r_i2c {q : Nat} {x : Int32} (hd : decode cc pc = .ok (.i2c, 1)) (hq : pc + 1 = q) (k : KS Z own cc nL ini d q ls (.int ((x.toUInt32 % 65536).toInt32) :: st) h pc9 ls9 st9 h9) : KS Z own cc nL ini d pc ls (.int x :: st) h pc9 ls9 st9 h9 :=
  ⟨k.1, by subst hq; exact fun nF n0 D dA base sA H0 p l e R s m args below meth c Q C hl hn K lsM H locs cells slots hL hP hS h1 h2 => lv_i2c C.1.1 C.1.2.1 hd rfl (k.2 nF n0 D dA base sA H0 p l e R s m args below meth c Q C hl hn K lsM H locs cells slots hL hP hS h1 h2)⟩
theorem r_sld {lab q L : Nat} {xs : Nat → Int32} {i : Int32} (hd : decode cc pc = .ok (.iaload, 1)) (hq : pc + 1 = q) (hl9 : ¬ lab < 999999) (hz : ∀ (base : Nat) (sA : Nat → Nat) (U : State), Z base sA U → va_X (sA lab) L xs U U.heap ∧ sA lab < base) (hi : vp_in i L) (k : KS Z own cc nL ini d q ls (.int (xs i.toNatClampNeg) :: st) h pc9 ls9 st9 h9) : KS Z own cc nL ini d pc ls (.int i :: .ref lab :: st) h pc9 ls9 st9 h9 := by
  refine ⟨k.1, ?_⟩
  subst hq
  intro nF n0 D dA base sA H0 p l' e R s m args below meth c Q C hl hn K lsM H locs cells slots hL hP hS h1 h2
  have hkk := k.2 nF n0 D dA base sA H0 p l' e R s m args below meth c Q C hl hn K lsM H locs cells slots hL hP hS h1 h2
  have e9 : kst base sA (.int i :: .ref lab :: st) = .int i :: .ref (sA lab) :: kst base sA st := by
    show Value.int i :: Value.ref (kadr base sA lab) :: kst base sA st = _
    rw [kadr_x hl9]
  rw [e9]
  have hx := hz base sA s C.2.1.1.2.2.2
  exact va_sld (A := fun q => base ≤ q) (H0 := H0) C.1.1 C.1.2.1 (by rw [C.2.2.2.2.2]; exact hx.1) (by rw [C.2.2.2.2.1]; omega) (Nat.not_le.mpr hx.2) hS hi hd hkk
theorem r_slen {lab q L : Nat} {xs : Nat → Int32} (hd : decode cc pc = .ok (.arraylength, 1)) (hq : pc + 1 = q) (hl9 : ¬ lab < 999999) (hz : ∀ (base : Nat) (sA : Nat → Nat) (U : State), Z base sA U → va_X (sA lab) L xs U U.heap ∧ sA lab < base) (k : KS Z own cc nL ini d q ls (.int (Int32.ofNat L) :: st) h pc9 ls9 st9 h9) : KS Z own cc nL ini d pc ls (.ref lab :: st) h pc9 ls9 st9 h9 := by
  refine ⟨k.1, ?_⟩
  subst hq
  intro nF n0 D dA base sA H0 p l' e R s m args below meth c Q C hl hn K lsM H locs cells slots hL hP hS h1 h2
  have hkk := k.2 nF n0 D dA base sA H0 p l' e R s m args below meth c Q C hl hn K lsM H locs cells slots hL hP hS h1 h2
  have e9 : kst base sA (.ref lab :: st) = .ref (sA lab) :: kst base sA st := by
    show Value.ref (kadr base sA lab) :: kst base sA st = _
    rw [kadr_x hl9]
  rw [e9]
  have hx := hz base sA s C.2.1.1.2.2.2
  exact va_slen (A := fun q => base ≤ q) (H0 := H0) C.1.1 C.1.2.1 (by rw [C.2.2.2.2.2]; exact hx.1) (by rw [C.2.2.2.2.1]; omega) (Nat.not_le.mpr hx.2) hS hd hkk
theorem r_callVX {y : MethodName} {cc2 : ByteArray} {nL2 : Nat} {ret : Option FieldType} {i d2 q b : Nat} {as rest : List Value} {r : Option Value} {h2 : KH} (hd : decode cc pc = .ok (.invokevirtual i, 3)) (hq : pc + 3 = q)
    (hw : Cond.methodLink own i y ∈ ktG ∧ (Cond.instanceMethod y ∈ ktG ∧ Cond.selects y.cls y y ∈ ktG) ∧ Cond.initialized y.cls ∈ ktG ∧ Cond.code y cc2 nL2 ret ∈ ktG) (hy : y.cls ≠ "java/lang/invoke/MethodHandle" ∧ y.cls ≠ "java/lang/invoke/VarHandle" ∧ (parseMethodDescriptor y.desc).map (fun d => d.parameters.length) = some as.length)
    (hdd : d2 + 1 ≤ d ∧ nL2 ≤ 41) (hcat : (rest.map fun v => v.category).sum ≤ 8) (hM : KM Z y cc2 nL2 ret d2 (.ref b :: as) h r h2) (hrv : ∀ (base : Nat) (sA : Nat → Nat) (s : State) (H : Heap) (locs : List Loc), Z base sA s → va_S (fun q => base ≤ q) s.heap H locs → ∃ cell : Cell, H[kadr base sA b]? = some cell ∧ cell.vm.isStatics = false ∧ s.vm.findClass y.cls = some cell.cls) (k : KS Z own cc nL ini d q ls (r.toList ++ rest) h2 pc9 ls9 st9 h9) : KS Z own cc nL ini d pc ls (as.reverse ++ .ref b :: rest) h pc9 ls9 st9 h9 := by
  refine ⟨hM.1.tr k.1, ?_⟩
  subst hq
  intro nF n0 D dA base sA H0 p l' e R s m args below meth c Q C hl hn K lsM H locs cells slots hL hP hS h1 h2'
  obtain ⟨g1, g2, g3, g4⟩ := C.2.2.2.1
  have gn0 : h2.1 ≤ nF := Nat.le_trans k.1.1 hn
  have gk := ksz_mono gn0
  have gk2 := ksz_mono hM.1.1
  have hle := hM.1.1
  rw [kst_split]
  show W p l' e R s m args below meth c H locs cells slots Q (F0 m pc lsM ((kst base sA as).reverse ++ Value.ref (kadr base sA b) :: kst base sA rest))
  have krecv := hrv base sA s H locs C.2.1.1.2.2.2 (by rw [← C.2.2.2.2.2]; exact hS)
  have hrun := va_runV (p := p) (l := l') (e := e) (R := R) (s := s) (m := m) (args := args) (below := below) (meth := meth) (c := c) (H := H) (locs := locs) (cells := cells) (slots := slots) (As := kst base sA as) (rest := kst base sA rest) (n := as.length) (b := kadr base sA b) (g := F0 m pc lsM ((kst base sA as).reverse ++ Value.ref (kadr base sA b) :: kst base sA rest)) C.1 (hM.2 l' D dA base sA C.2.1.2)
    ⟨⟨rfl, rfl, by show d2 + 1 ≤ R.frames; omega, by show 8 + (nL2 + 11) + 60 * d2 ≤ R.locals; omega, pay_in C.1.2.2.2.2 (kgood hw.2.2.2), List.mem_cons_self, C.1.2.2.2.2 _ hw.2.2.2, C.1.2.2.2.2 _ hw.2.2.1, ⟨hy.1, hy.2.1⟩, fun sig z => by have := hy.2.2; rw [z] at this; exact (Option.some.inj this).symm, C.1.2.2.2.2 _ hw.1⟩, C.1.2.2.2.2 _ hw.2.1.1, C.1.2.2.2.2 _ hw.2.1.2⟩
    ⟨kPc_blind C.2.1.2, krecv, fun U hU hW => ⟨rfl, C.2.1.1.warm C.2.1.2 hW (by rw [← C.2.2.2.2.2, C.2.2.2.2.1]; exact Nat.le_add_right _ _) (by rw [hU, ← C.2.2.2.2.2]; exact hS.1) (fun q hq => by rw [hU, ← C.2.2.2.2.2]; exact hS.2.1 q (Nat.lt_of_lt_of_le hq (by rw [C.2.2.2.2.1]; exact Nat.le_add_right _ _)) (Nat.not_le.mpr hq)), by rw [hU]; exact hP⟩⟩
    rfl (by simp [kst]) hL.1 rfl (lv_room (rest := (kst base sA as).reverse ++ Value.ref (kadr base sA b) :: kst base sA rest) (by rw [kst_catsum]; exact hcat)) hd ⟨by omega, by omega⟩
  refine k_ran hrun hS (fun _ z => z) (by rw [hP.2]; omega) (by rw [C.2.2.2.2.1]; exact Nat.le_add_right _ _) fun H1 locs1 hP1 hS1 => ?_
  rw [kst_ret]
  exact k.2 nF n0 D dA base sA H0 p l' e R s m args below meth c Q C hl hn K lsM H1 locs1 _ _ hL hP1 hS1 (by omega) (by omega)
end KR
section KFIN
variable {Z : Nat → (Nat → Nat) → State → Prop} {y : MethodName} {cc : ByteArray} {nL d pc : Nat} {av : List Value} {h h' : KH} {ls : List (Nat × Value)}
theorem km_n {v : Int32} {ty : FieldType} (hy : plainFor y = true) (hal : (lg_sl av).length ≤ nL) (hn : narrow ty (.int v) = .int v) (hd : decode cc pc = .ok (.ireturn, 1)) (k : KS Z y.cls cc nL (y.name == "<init>") d 0 (lv_args 0 av) [] h pc ls [.int v] h') : KM Z y cc nL (some ty) d av h (some (.int v)) h' :=
  km_of hy hal k (fun _ _ base sA p l e R s m args below meth c H locs cells slots lsM Qc hx hb hr hl hq hf => W.zret hx hb hr hn hq hf hd hl)
theorem kx_n {own : String} {v : Int32} {ty : FieldType} (hy : plainFor y = true) (hi : (y.name == "<init>") = false) (ho : y.cls = own) (hal : (lg_sl av).length ≤ nL) (hn : narrow ty (.int v) = .int v) (k : KX Z own cc nL false d (KRi cc v h') 0 (lv_args 0 av) [] h) : KM Z y cc nL (some ty) d av h (some (.int v)) h' := by
  rw [← hi] at k; subst ho
  obtain ⟨p1, l1, s1, h1, ⟨hd, rfl, rfl⟩, k⟩ := k
  exact km_n hy hal hn hd k
end KFIN
theorem k_loopc {Z : Nat → (Nat → Nat) → State → Prop} {own : String} {cc : ByteArray} {nL : Nat} {ini : Bool} {d : Nat} {σ ρ : Type} {body : σ → Option (σ ⊕ ρ)} {pc : Nat} {ls : σ → List (Nat × Value)} {hp : σ → KH} {G : ρ → Nat → List (Nat × Value) → List Value → KH → Prop}
    (hstep : ∀ s t, body s = some t → KX Z own cc nL ini d (Sum.elim (fun s' pc2 ls2 st2 h2 => pc2 = pc ∧ ls2 = ls s' ∧ st2 = [] ∧ h2 = hp s') G t) pc (ls s) [] (hp s)) :
    ∀ n s r, kloop body n s = some r → KX Z own cc nL ini d (G r) pc (ls s) [] (hp s) := by
  intro n
  induction n with
  | zero => intro s r H; cases H
  | succ n ih =>
    intro s r H
    unfold kloop at H
    cases hb : body s with
    | none => rw [hb] at H; cases H
    | some t =>
      rw [hb] at H
      have h0 := hstep s t hb
      cases t with
      | inl s' =>
        refine x_app h0 fun pc2 ls2 st2 h2 (hg : pc2 = pc ∧ ls2 = ls s' ∧ st2 = [] ∧ h2 = hp s') hm => ?_
        obtain ⟨rfl, rfl, rfl, rfl⟩ := hg
        exact ih s' r H
      | inr r' =>
        cases H
        exact h0
