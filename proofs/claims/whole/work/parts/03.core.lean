/-! THE ABSTRACT HEAP: cells by labels 0 .., each with ints, longs and references by place; a label's cell lies at base + label. 999999: null -/
abbrev KH : Type := Nat × (Nat → Nat → Int32) × (Nat → Nat → Int64) × (Nat → Nat → Nat)
def kI (h : KH) (l i : Nat) : Int32 := h.2.1 l i
def kL (h : KH) (l i : Nat) : Int64 := h.2.2.1 l i
def kR (h : KH) (l i : Nat) : Nat := h.2.2.2 l i
def ksI (h : KH) (l i : Nat) (v : Int32) : KH := (h.1, fun a b => if a = l ∧ b = i then v else h.2.1 a b, h.2.2.1, h.2.2.2)
def ksL (h : KH) (l i : Nat) (v : Int64) : KH := (h.1, h.2.1, fun a b => if a = l ∧ b = i then v else h.2.2.1 a b, h.2.2.2)
def ksR (h : KH) (l i : Nat) (v : Nat) : KH := (h.1, h.2.1, h.2.2.1, fun a b => if a = l ∧ b = i then v else h.2.2.2 a b)
/-- a new cell: all of it as at first -/
def knew (h : KH) : KH := (h.1 + 1, fun a b => if a = h.1 then 0 else h.2.1 a b, fun a b => if a = h.1 then 0 else h.2.2.1 a b, fun a b => if a = h.1 then 999999 else h.2.2.2 a b)
/-- a label's kind (a class by its place in kcl, or 20 int[], 21 long[], 22 char[], 23 byte[], 24 int[][], 25 State[]) and its array's length -/
def kkind (l : Nat) : Nat := (kcells.getD l (99, 0)).1
def klen (l : Nat) : Nat := (kcells.getD l (99, 0)).2
/-- how many slots the cells below a label have -/
def kszl (l : Nat) : Nat := if kkind l < 20 then (kfts.getD (kkind l) []).length else klen l
def ksz : Nat → Nat
  | 0 => 0
  | n + 1 => ksz n + kszl n
def kadr (base : Nat) (sA : Nat → Nat) (l : Nat) : Nat := if l < 999999 then base + l else sA l
def kv (base : Nat) (sA : Nat → Nat) : Value → Value
  | .ref l => .ref (kadr base sA l)
  | v => v
def krf (base : Nat) (r : Nat) : Value := if r = 999999 then .null else .ref (base + r)
def krq (base : Nat) (r : Nat) : Option Nat := if r = 999999 then none else some (base + r)
/-- a field's value, by its type's number: 0 int, 1 long, 2 a reference, 3 boolean -/
def kfv (base : Nat) (h : KH) (l t j : Nat) : Value := if t = 1 then .long (kL h l j) else if t = 2 then krf base (kR h l j) else .int (kI h l j)
def kfields (base : Nat) (h : KH) (l : Nat) (ts : List Nat) : List Value := (List.range ts.length).map fun j => kfv base h l (ts.getD j 0) j
def kcell (dA : Nat → ClassId) (base : Nat) (h : KH) (l : Nat) : va_E :=
  if kkind l < 20 then .inr (kkind l, kfields base h l (kfts.getD (kkind l) []))
  else if kkind l = 21 then .inl (dA 21, klen l, .inr (.inl (kL h l)))
  else if 24 ≤ kkind l then .inl (dA (kkind l), klen l, .inr (.inr (.inr (.inr (fun j => krq base (kR h l j))))))
  else .inl (dA (kkind l), klen l, .inl (kI h l))
def kws (dA : Nat → ClassId) (base : Nat) (h : KH) : va_W := (List.range h.1).map fun l => (base + l, kcell dA base h l)
theorem kws_get {dA : Nat → ClassId} {base : Nat} {h : KH} {l : Nat} (hl : l < h.1) : (kws dA base h)[l]? = some (base + l, kcell dA base h l) := by
  simp [kws, hl]
theorem kws_D {dA : Nat → ClassId} {base : Nat} {h : KH} : va_D (fun q => base ≤ q) (kws dA base h) := by
  have key : ∀ (i : Nat) (p : Nat × va_E), (kws dA base h)[i]? = some p → p.1 = base + i := by
    intro i p hp
    unfold kws at hp
    rw [List.getElem?_map] at hp
    by_cases hi : i < h.1
    · rw [List.getElem?_range hi] at hp
      cases hp
      rfl
    · rw [List.getElem?_eq_none (by simp; omega)] at hp
      cases hp
  refine ⟨fun i j p q hi hj hpq => ?_, fun k q hk => ?_⟩
  · rw [key i p hi, key j q hj] at hpq
    omega
  · have := key k q hk
    show base ≤ q.1
    omega
theorem kws_set {dA : Nat → ClassId} {base : Nat} {h h' : KH} {l : Nat} {e : va_E} (h1 : h'.1 = h.1) (he : kcell dA base h' l = e) (ho : ∀ a, a ≠ l → kcell dA base h' a = kcell dA base h a) :
    (kws dA base h).set l (base + l, e) = kws dA base h' := by
  apply List.ext_getElem?
  intro i
  by_cases hi : i < h.1
  · rw [kws_get (h := h') (by omega)]
    by_cases hil : i = l
    · subst hil
      rw [List.getElem?_set_self (by simp [kws, hi]), he]
    · rw [List.getElem?_set_ne (Ne.symm hil), kws_get hi, ho i hil]
  · rw [List.getElem?_eq_none (by simp [kws]; omega), List.getElem?_eq_none (by simp [kws]; omega)]
theorem kcell_ext {dA : Nat → ClassId} {base : Nat} {h h' : KH} {a : Nat} (h1 : ∀ j, kI h' a j = kI h a j) (h2 : ∀ j, kL h' a j = kL h a j) (h3 : ∀ j, kR h' a j = kR h a j) : kcell dA base h' a = kcell dA base h a := by
  have e1 : kI h' a = kI h a := funext h1
  have e2 : kL h' a = kL h a := funext h2
  have e3 : kR h' a = kR h a := funext h3
  unfold kcell kfields kfv
  rw [e1, e2, e3]
theorem kws_push {dA : Nat → ClassId} {base : Nat} {h : KH} {e : va_E} (he : kcell dA base (knew h) h.1 = e) : kws dA base h ++ [(base + h.1, e)] = kws dA base (knew h) := by
  unfold kws
  show _ = (List.range (h.1 + 1)).map _
  rw [List.range_succ, List.map_append, List.map_singleton, he]
  congr 1
  apply List.map_congr_left
  intro a ha
  have hne : a ≠ h.1 := Nat.ne_of_lt (List.mem_range.mp ha)
  rw [kcell_ext (h := h) (h' := knew h)] <;> intro j <;> simp [kI, kL, kR, knew, hne]
/-- the machine's heap holds the abstract one -/
def KHp (D : va_G) (dA : Nat → ClassId) (base : Nat) (h : KH) (H : Heap) : Prop := va_P D kcl (kws dA base h) H ∧ H.size = base + h.1

def kls (base : Nat) (sA : Nat → Nat) (ls : List (Nat × Value)) : List (Nat × Value) := ls.map fun q => (q.1, kv base sA q.2)
def kst (base : Nat) (sA : Nat → Nat) (st : List Value) : List Value := st.map (kv base sA)
def kget (ls : List (Nat × Value)) (i : Nat) : Option Value := (ls.find? fun q => q.1 == i).map (·.2)
def kput1 (ls : List (Nat × Value)) (i : Nat) (v : Value) : List (Nat × Value) := (i, v) :: ls.filter (fun q => !(q.1 == i) && !(q.1 + 1 == i && q.2.category == 2))
def kput2 (ls : List (Nat × Value)) (i : Nat) (v : Value) : List (Nat × Value) := (i, v) :: ls.filter (fun q => !(q.1 == i) && (!(q.1 == i + 1) && !(q.1 + 1 == i && q.2.category == 2)))
theorem kv_cat (base : Nat) (sA : Nat → Nat) (v : Value) : (kv base sA v).category = v.category := by cases v <;> rfl
theorem kget_at {base : Nat} {sA : Nat → Nat} {lsM : Array Slot} {nL : Nat} {ls : List (Nat × Value)} (h : lv_has lsM nL (kls base sA ls)) {i : Nat} {v : Value} (hg : kget ls i = some v) : lsM[i]? = some (.val (kv base sA v)) := by
  unfold kget at hg
  cases hf : ls.find? (fun q => q.1 == i) with
  | none => rw [hf] at hg; cases hg
  | some q =>
    rw [hf] at hg
    have h1 : q.2 = v := by simpa using hg
    have h2 : q.1 = i := by simpa using List.find?_some hf
    have h3 := h.2.2 (q.1, kv base sA q.2) (List.mem_map.mpr ⟨q, List.mem_of_find?_eq_some hf, rfl⟩)
    rw [← h1, ← h2]
    exact h3
theorem kput1_map (base : Nat) (sA : Nat → Nat) (ls : List (Nat × Value)) (i : Nat) (v : Value) : (i, kv base sA v) :: (kls base sA ls).filter (fun q => !(q.1 == i) && !(q.1 + 1 == i && q.2.category == 2)) = kls base sA (kput1 ls i v) := by
  unfold kls kput1
  rw [List.map_cons, List.filter_map]
  congr 2
  apply List.filter_congr
  intro q _
  simp only [Function.comp, kv_cat]
theorem kput2_map (base : Nat) (sA : Nat → Nat) (ls : List (Nat × Value)) (i : Nat) (v : Value) : (i, kv base sA v) :: (kls base sA ls).filter (fun q => !(q.1 == i) && (!(q.1 == i + 1) && !(q.1 + 1 == i && q.2.category == 2))) = kls base sA (kput2 ls i v) := by
  unfold kls kput2
  rw [List.map_cons, List.filter_map]
  congr 2
  apply List.filter_congr
  intro q _
  simp only [Function.comp, kv_cat]
theorem kls_sub {base : Nat} {sA : Nat → Nat} {lsM : Array Slot} {nL : Nat} {ls ls' : List (Nat × Value)} (h : lv_has lsM nL (kls base sA ls)) (ks : List Nat) (hk : ks.filterMap (fun k => ls[k]?) = ls') : lv_has lsM nL (kls base sA ls') := by
  subst hk
  refine ⟨h.1, h.2.1, fun q hq => ?_⟩
  obtain ⟨x, hx, rfl⟩ := List.mem_map.mp hq
  obtain ⟨k, -, hk⟩ := List.mem_filterMap.mp hx
  exact h.2.2 _ (List.mem_map.mpr ⟨x, List.mem_of_getElem? hk, rfl⟩)
/-- the array classes that there are -/
def ktys (dA : Nat → ClassId) : List (ClassId × FieldType) := [(dA 20, .int), (dA 21, .long), (dA 22, .char), (dA 23, .byte), (dA 24, .array .int), (dA 25, .object RX8)]
/-- what a frame's start says of the tables: classes, array classes, nest mates, and Z -/
def KU (Z : Nat → (Nat → Nat) → State → Prop) (D : va_G) (dA : Nat → ClassId) (base : Nat) (sA : Nat → Nat) (U : State) : Prop :=
  va_K D kcl (ktys dA) U ∧ (∀ q ∈ knestF, va_Nw (.fieldLinkNest q.1 q.2.1 q.2.2.1 q.2.2.2.1 q.2.2.2.2.1 q.2.2.2.2.2) U) ∧ (∀ q ∈ knestM, va_Nw (.methodLinkNest q.1 q.2.1 q.2.2.1 q.2.2.2) U) ∧ Z base sA U
/-- Z speaks of the tables and of cells below base alone -/
def KZok (Z : Nat → (Nat → Nat) → State → Prop) : Prop := ∀ (base : Nat) (sA : Nat → Nat) (s U : State), Z base sA s → (s.WarmedH U.vm ∨ s.vm = U.vm) → base ≤ s.heap.size → s.heap.size ≤ U.heap.size → (∀ q, q < base → U.heap[q]? = s.heap[q]?) → Z base sA U
theorem KU.warm {Z : Nat → (Nat → Nat) → State → Prop} {D : va_G} {dA : Nat → ClassId} {base : Nat} {sA : Nat → Nat} {s U : State} (hZ : KZok Z) (h : KU Z D dA base sA s) (hW : s.WarmedH U.vm) (hb : base ≤ s.heap.size) (hz : s.heap.size ≤ U.heap.size) (hq : ∀ q, q < base → U.heap[q]? = s.heap[q]?) : KU Z D dA base sA U :=
  ⟨va_K.moved hW.alike h.1, fun q hq => va_Nw.warmF hW (h.2.1 q hq), fun q hq => va_Nw.warmM hW (h.2.2.1 q hq), hZ base sA s U h.2.2.2 (Or.inl hW) hb hz hq⟩
theorem KU.calling {Z : Nat → (Nat → Nat) → State → Prop} {D : va_G} {dA : Nat → ClassId} {base : Nat} {sA : Nat → Nat} {U : State} (hZ : KZok Z) (h : KU Z D dA base sA U) (hb : base ≤ U.heap.size) (g : JFrame) (mk : MethodId) (a : Array Value) : KU Z D dA base sA (U.calling g mk a) :=
  ⟨va_K.moved (u := U) (U := U.calling g mk a) (Vm.Alike.refl U.vm) h.1, fun q hq => va_Nw.same rfl (u := U) (U := U.calling g mk a) rfl (h.2.1 q hq), fun q hq => va_Nw.same rfl (u := U) (U := U.calling g mk a) rfl (h.2.2.1 q hq), hZ base sA U (U.calling g mk a) h.2.2.2 (Or.inr rfl) hb (Nat.le_refl _) (fun _ _ => rfl)⟩
/-- a frame of a method whose class is own, whose code is cc -/
def KC (Z : Nat → (Nat → Nat) → State → Prop) (own : String) (cc : ByteArray) (nL : Nat) (ini : Bool) (d nF n0 : Nat) (D : va_G) (dA : Nat → ClassId) (base : Nat) (sA : Nat → Nat) (p : Program) (R : Room) (s : State) (m : MethodId) (args : Array Value) (meth : Method) (c : Code) (H0 : Heap) : Prop :=
  (p.tables.exec = Jvm.exec ∧ c.code = cc ∧ c.maxLocals = nL ∧ s.vm.findClass own = some m.cls ∧ (∀ w ∈ ktG, w.before args s = true)) ∧ (KU Z D dA base sA s ∧ KZok Z) ∧ (ini = true → meth.name = "<init>") ∧ (d ≤ R.frames ∧ 60 * d ≤ R.locals ∧ nF ≤ R.cells + n0 ∧ ksz nF ≤ R.slots + ksz n0) ∧ (H0.size = base + n0 ∧ H0 = s.heap)
/-- from this place the machine comes to Q -/
def KW (D : va_G) (dA : Nat → ClassId) (base : Nat) (sA : Nat → Nat) (n0 nL : Nat) (H0 : Heap) (p : Program) (l : Launch) (e : Env) (R : Room) (s : State) (m : MethodId) (args : Array Value) (below : List Frame) (meth : Method) (c : Code) (Q : State → Prop) (pc : Nat) (ls : List (Nat × Value)) (st : List Value) (h : KH) : Prop :=
  ∀ (lsM : Array Slot) (H : Heap) (locs : List Loc) (cells slots : Nat), lv_has lsM nL (kls base sA ls) → KHp D dA base h H → va_S (fun q => base ≤ q) H0 H locs → cells + n0 = h.1 → slots + ksz n0 = ksz h.1 → W p l e R s m args below meth c H locs cells slots Q (F0 m pc lsM (kst base sA st))
/-- cells come, none goes, none beyond the last label -/
def kmon (h h' : KH) : Prop := h.1 ≤ h'.1 ∧ (h.1 ≤ 243 → h'.1 ≤ 243)
theorem kmon.rf {h : KH} : kmon h h := ⟨Nat.le_refl _, id⟩
theorem kmon.tr {a b c : KH} (x : kmon a b) (y : kmon b c) : kmon a c := ⟨Nat.le_trans x.1 y.1, fun z => y.2 (x.2 z)⟩
theorem kmon.full {h h' : KH} (hn : h.1 = 243) (x : kmon h h') : h'.1 = 243 := Nat.le_antisymm (x.2 (Nat.le_of_eq hn)) (by rw [← hn]; exact x.1)
/-- a stretch of a method's run: from pc, ls, st, h to pc', ls', st', h' -/
def KS (Z : Nat → (Nat → Nat) → State → Prop) (own : String) (cc : ByteArray) (nL : Nat) (ini : Bool) (d : Nat) (pc : Nat) (ls : List (Nat × Value)) (st : List Value) (h : KH) (pc' : Nat) (ls' : List (Nat × Value)) (st' : List Value) (h' : KH) : Prop :=
  kmon h h' ∧ ∀ (nF n0 : Nat) (D : va_G) (dA : Nat → ClassId) (base : Nat) (sA : Nat → Nat) (H0 : Heap) (p : Program) (l : Launch) (e : Env) (R : Room) (s : State) (m : MethodId) (args : Array Value) (below : List Frame) (meth : Method) (c : Code) (Q : State → Prop),
    KC Z own cc nL ini d nF n0 D dA base sA p R s m args meth c H0 → meth.locks = false → h'.1 ≤ nF →
    KW D dA base sA n0 nL H0 p l e R s m args below meth c Q pc' ls' st' h' → KW D dA base sA n0 nL H0 p l e R s m args below meth c Q pc ls st h
