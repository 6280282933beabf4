def R_law : String := "KingsTestLaw"
def lw_P (b : Addr) (xs : List Int32) (args : Array Value) (s : State) : Prop := args = #[.ref b] ∧ s.IntsAt b xs ∧ xs.length ≤ 3072 ∧ (Jvm.Cond.and given_1 narrow_1).before args s = true
def lw_Q (_ : Array Value) (s : State) (o : Outcome) (t : State) : Prop := o = .returned (some (.int 1)) ∧ Framed s o t [] 600000 7302250
def lw_Z (below : List Frame) (a : Array Value) (s : State) : State → Prop := fun t => ∃ o, t.status = .running ∧ Ended t below o ∧ lw_Q a s o t
/-- the law's own end, with 1 on the stack, nothing written that was there before, its room as the claim has it -/
theorem lw_ret {p : Program} {l : Launch} {e : Env} {s : State} {m : MethodId} {below : List Frame} {meth : Method} {c : Code} {b : Nat} (hx : p.tables.exec = Jvm.exec) (hb : c.code = code) (hr : meth.sig.returnType = ret) (hlocks : meth.locks = false) {pc : Nat} {H : Heap} {ls : Array Slot} (hdg : decode code pc = .ok (.ireturn, 1)) : W p l e room_1 s m #[Value.ref b] below meth c H [] 600000 7302250 (lw_Z below #[Value.ref b] s) (F0 m pc ls [.int 1]) := by
  intro T hT X
  obtain ⟨fs, hret, hrun, hended, hW, hframe⟩ := X.leave (v := some (.int 1)) (hlocks := hlocks) (fun h => by rw [hr] at h; cases h)
  have hmeth' : T.vm.method? m = some meth := X.method'
  refine ⟨T.setFrames fs, ?_, .returned (some (.int 1)), hrun, hended, rfl, ⟨_, rfl⟩, hW, hframe⟩
  jvm_step X.here [X.here.top, hx, hb, hdg, hmeth', hr, ret, narrow_b1]
  (try refine ⟨rfl, ?_⟩); (try refine ⟨rfl, ?_⟩)
  first | (intro acts; rw [hret _ acts rfl rfl rfl]) | rw [hret _ _ rfl rfl rfl]
  exact Steps.refl _
/-- what holds at the law's entry: the machine, the code, the tables' words (any of lw_tbl by 'hts w (by decide +kernel)'), the script of L ints xs at the cell b, what the Statement gives of the start (any of its parts by flat_of_before) -/
def lw_At (p : Program) (s : State) (m : MethodId) (meth : Method) (c : Code) (b L : Nat) (xs : Nat → Int32) : Prop :=
  p.tables.exec = Jvm.exec ∧ c.code = code ∧ meth.sig.returnType = ret ∧ c.maxLocals = 4 ∧ s.vm.findClass R_law = some m.cls ∧ (∀ w ∈ lw_tbl, w.before #[Value.ref b] s = true) ∧ va_X b L xs s s.heap ∧ b < s.heap.size ∧ meth.locks = false ∧ (Jvm.Cond.and given_1 narrow_1).before #[Value.ref b] s = true
def kh0 : KH := (0, fun _ _ => 0, fun _ _ => 0, fun _ _ => 999999)
theorem kD_ex {s : State} {args : Array Value} (hts : ∀ w ∈ lw_tbl, w.before args s = true) : ∃ D : va_G, ∀ (k : Nat) (q : vw_C), kcl[k]? = some q → u_Kn s q.1 q.2.1 q.2.2 (D.1 k) (D.2 k) := by
  have h0 : ∀ k : Nat, ∃ x : ClassId × (Nat → Nat), ∀ q : vw_C, kcl[k]? = some q → u_Kn s q.1 q.2.1 q.2.2 x.1 x.2 := by
    intro k
    match k with
    | 0 =>
      obtain ⟨c, iS, h⟩ := u_known (C := RX0) (T := TX0) (N := 4) (n := 4) hts (fun w hw => (lyX0 w hw).1) (hts (.instantiable RX0 4) (by decide +kernel))
      exact ⟨(c, iS), fun q hq => by cases hq; exact h⟩
    | 1 =>
      obtain ⟨c, iS, h⟩ := u_known (C := RX1) (T := TX1) (N := 3) (n := 3) hts (fun w hw => (lyX1 w hw).1) (hts (.instantiable RX1 3) (by decide +kernel))
      exact ⟨(c, iS), fun q hq => by cases hq; exact h⟩
    | 2 =>
      obtain ⟨c, iS, h⟩ := u_known (C := RX2) (T := TX2) (N := 12) (n := 12) hts (fun w hw => (lyX2 w hw).1) (hts (.instantiable RX2 12) (by decide +kernel))
      exact ⟨(c, iS), fun q hq => by cases hq; exact h⟩
    | 3 =>
      obtain ⟨c, iS, h⟩ := u_known (C := RX3) (T := TX3) (N := 2) (n := 2) hts (fun w hw => (lyX3 w hw).1) (hts (.instantiable RX3 2) (by decide +kernel))
      exact ⟨(c, iS), fun q hq => by cases hq; exact h⟩
    | 4 =>
      obtain ⟨c, iS, h⟩ := u_known (C := RX4) (T := TX4) (N := 3) (n := 3) hts (fun w hw => (lyX4 w hw).1) (hts (.instantiable RX4 3) (by decide +kernel))
      exact ⟨(c, iS), fun q hq => by cases hq; exact h⟩
    | 5 =>
      obtain ⟨c, iS, h⟩ := u_known (C := RX5) (T := TX5) (N := 4) (n := 4) hts (fun w hw => (lyX5 w hw).1) (hts (.instantiable RX5 4) (by decide +kernel))
      exact ⟨(c, iS), fun q hq => by cases hq; exact h⟩
    | 6 =>
      obtain ⟨c, iS, h⟩ := u_known (C := RX6) (T := TX6) (N := 5) (n := 5) hts (fun w hw => (lyX6 w hw).1) (hts (.instantiable RX6 5) (by decide +kernel))
      exact ⟨(c, iS), fun q hq => by cases hq; exact h⟩
    | 7 =>
      obtain ⟨c, iS, h⟩ := u_known (C := RX7) (T := TX7) (N := 9) (n := 9) hts (fun w hw => (lyX7 w hw).1) (hts (.instantiable RX7 9) (by decide +kernel))
      exact ⟨(c, iS), fun q hq => by cases hq; exact h⟩
    | 8 =>
      obtain ⟨c, iS, h⟩ := u_known (C := RX8) (T := TX8) (N := 6) (n := 6) hts (fun w hw => (lyX8 w hw).1) (hts (.instantiable RX8 6) (by decide +kernel))
      exact ⟨(c, iS), fun q hq => by cases hq; exact h⟩
    | 9 =>
      obtain ⟨c, iS, h⟩ := u_known (C := RX9) (T := TX9) (N := 2) (n := 2) hts (fun w hw => (lyX9 w hw).1) (hts (.instantiable RX9 2) (by decide +kernel))
      exact ⟨(c, iS), fun q hq => by cases hq; exact h⟩
    | 10 =>
      obtain ⟨c, iS, h⟩ := u_known (C := RX10) (T := TX10) (N := 8) (n := 8) hts (fun w hw => (lyX10 w hw).1) (hts (.instantiable RX10 8) (by decide +kernel))
      exact ⟨(c, iS), fun q hq => by cases hq; exact h⟩
    | 11 =>
      obtain ⟨c, iS, h⟩ := u_known (C := RX11) (T := TX11) (N := 18) (n := 18) hts (fun w hw => (lyX11 w hw).1) (hts (.instantiable RX11 18) (by decide +kernel))
      exact ⟨(c, iS), fun q hq => by cases hq; exact h⟩
    | 12 =>
      obtain ⟨c, iS, h⟩ := u_known (C := RX12) (T := TX12) (N := 97) (n := 97) hts (fun w hw => (lyX12 w hw).1) (hts (.instantiable RX12 97) (by decide +kernel))
      exact ⟨(c, iS), fun q hq => by cases hq; exact h⟩
    | k + 13 => exact ⟨((0 : Nat), fun _ => 0), fun q hq => by simp [kcl] at hq⟩
  obtain ⟨f, hf⟩ := Classical.axiomOfChoice h0
  exact ⟨(fun k => (f k).1, fun k => (f k).2), hf⟩
theorem kA_of {s : State} {args : Array Value} {ty : FieldType} (hno : ∀ C, ty ≠ .object C) (h : (Cond.arrayClass ty).before args s = true) : ∃ cA : ClassId, ArrOfT s cA ty ∧ va_RA s cA ty := by
  obtain ⟨cA, kA, comp, h1, h2, h3⟩ := Cond.arrayClass_spec h
  refine ⟨cA, fun n z => ⟨fun k h => (by cases h), kA, h2, comp, h3⟩, ?_⟩
  cases ty with
  | object C => exact absurd rfl (hno C)
  | _ => exact h1
theorem kA_ofI {s : State} {args : Array Value} (h : (Cond.arrayOver (.array .int)).before args s = true) : ∃ cA : ClassId, ArrOfT s cA (.array .int) ∧ va_RA s cA (.array .int) := by
  obtain ⟨comp, cA, kA, h1, h2, h3, h4, h5⟩ := arrayOverA_spec h
  exact ⟨cA, fun n z => ⟨fun k h => (by cases h), kA, h3, comp, h4⟩, h5⟩
theorem kA_ofO {s : State} {args : Array Value} {C : String} (h : (Cond.arrayOver (.object C)).before args s = true) : ∃ cA : ClassId, ArrOfT s cA (.object C) ∧ va_RA s cA (.object C) := by
  obtain ⟨comp, cA, kA, h1, h2, h3, h4, h5⟩ := Cond.arrayOver_spec h
  exact ⟨cA, fun n z => ⟨fun k h => (by cases h), kA, h3, comp, h4⟩, kA, comp, h3, h4, h1, h5⟩
theorem kdA_ex {s : State} {args : Array Value} (hts : ∀ w ∈ lw_tbl, w.before args s = true) : ∃ dA : Nat → ClassId, ∀ (k : Nat) (q : ClassId × FieldType), (ktys dA)[k]? = some q → ArrOfT s q.1 q.2 ∧ va_RA s q.1 q.2 := by
  obtain ⟨c0, a0⟩ := kA_of (ty := .int) (fun C h => by cases h) (hts (.arrayClass .int) (by decide +kernel))
  obtain ⟨c1, a1⟩ := kA_of (ty := .long) (fun C h => by cases h) (hts (.arrayClass .long) (by decide +kernel))
  obtain ⟨c2, a2⟩ := kA_of (ty := .char) (fun C h => by cases h) (hts (.arrayClass .char) (by decide +kernel))
  obtain ⟨c3, a3⟩ := kA_of (ty := .byte) (fun C h => by cases h) (hts (.arrayClass .byte) (by decide +kernel))
  obtain ⟨c4, a4⟩ := kA_ofI (hts (.arrayOver (.array .int)) (by decide +kernel))
  obtain ⟨c5, a5⟩ := kA_ofO (C := RX8) (hts (.arrayOver (.object RX8)) (by decide +kernel))
  refine ⟨fun k => if k = 20 then c0 else if k = 21 then c1 else if k = 22 then c2 else if k = 23 then c3 else if k = 24 then c4 else c5, fun k q hq => ?_⟩
  match k, hq with
  | 0, hq => cases hq; exact a0
  | 1, hq => cases hq; exact a1
  | 2, hq => cases hq; exact a2
  | 3, hq => cases hq; exact a3
  | 4, hq => cases hq; exact a4
  | 5, hq => cases hq; exact a5
  | k + 6, hq => simp [ktys] at hq
theorem ktb_nF : ∀ q ∈ knestF, Cond.fieldLinkNest q.1 q.2.1 q.2.2.1 q.2.2.2.1 q.2.2.2.2.1 q.2.2.2.2.2 ∈ lw_tbl := by decide +kernel
theorem ktb_nM : ∀ q ∈ knestM, Cond.methodLinkNest q.1 q.2.1 q.2.2.1 q.2.2.2 ∈ lw_tbl := by decide +kernel
def kstm (i : Nat) : Term := if i = 0 then .string "KingsTest$Reader" 41 else .string "KingsTest$Reader" 47
theorem kS_cong {N : Nat} {len : List Nat} {byt : List (List Int32)} {adK adV adK' adV' : Nat → Nat} {A : Nat → Prop} {U : State} {H : Heap} (h : vk_S N len byt adK adV A U H) (e1 : ∀ i, i < N → adK' i = adK i) (e2 : ∀ i, i < N → adV' i = adV i) : vk_S N len byt adK' adV' A U H := by
  refine ⟨fun i hi => ?_, fun i j hi hj e => ?_⟩
  · have z := h.1 i hi
    rw [← e1 i hi, ← e2 i hi] at z
    exact z
  · rw [e1 i hi, e1 j hj] at e
    exact h.2 i j hi hj e
set_option maxRecDepth 100000 in
theorem kZ_ex {s : State} {b L : Nat} {xs : Nat → Int32} (hts : ∀ w ∈ lw_tbl, w.before #[Value.ref b] s = true) (hgv : (Jvm.Cond.and given_1 narrow_1).before #[Value.ref b] s = true) (hX : va_X b L xs s s.heap) (hbl : b < s.heap.size) : ∃ sA : Nat → Nat, sA 1000030 = b ∧ KZs xs L s.heap.size sA s := by
  have hs := flat_of_before _ hgv
  have hA : ∀ a : Nat, a < s.heap.size → ¬ (fun q : Nat => s.heap.size ≤ q) a := fun a h => Nat.not_le.mpr h
  have hex : ∀ i : Nat, i < 2 → (Cond.exactly (kstm i) "java/lang/String").before #[Value.ref b] s = true := fun i hi => hs _ (by revert i; decide +kernel)
  have hco : ∀ i : Nat, i < 2 → (Cond.eq (.field (kstm i) "java/lang/String" "coder" "B") (.int 0)).before #[Value.ref b] s = true := fun i hi => hs _ (by revert i; decide +kernel)
  have har : ∀ i : Nat, i < 2 → (Cond.arrayOf (.field (kstm i) "java/lang/String" "value" "[B") .byte).before #[Value.ref b] s = true := fun i hi => hs _ (by revert i; decide +kernel)
  have hle : ∀ i : Nat, i < 2 → (Cond.eq (.length (.field (kstm i) "java/lang/String" "value" "[B")) (.int (Int32.ofNat (klens.getD i 0)))).before #[Value.ref b] s = true := fun i hi => hs _ (by revert i; decide +kernel)
  have hel : ∀ i : Nat, i < 2 → ∀ j : Nat, j < klens.getD i 0 → (Cond.eq (.elem (.field (kstm i) "java/lang/String" "value" "[B") (.int (Int32.ofNat j))) (.int ((kbyts.getD i []).getD j 0))).before #[Value.ref b] s = true := fun i hi j hj => hs _ (by revert j; revert i; decide +kernel)
  have hne : ∀ i j : Nat, i < 2 → j < 2 → i ≠ j → (Cond.not (Cond.eq (kstm i) (kstm j))).before #[Value.ref b] s = true ∨ (Cond.not (Cond.eq (kstm j) (kstm i))).before #[Value.ref b] s = true := by
    have h01 : (Cond.not (Cond.eq (kstm 0) (kstm 1))).before #[Value.ref b] s = true := hs _ (by decide +kernel)
    intro i j hi hj hij
    rcases (show (i = 0 ∧ j = 1) ∨ (i = 1 ∧ j = 0) by omega) with ⟨rfl, rfl⟩ | ⟨rfl, rfl⟩
    · exact Or.inl h01
    · exact Or.inr h01
  obtain ⟨adK, adV, hS, hev⟩ := vk_Sof (N := 2) (tm := kstm) (len := klens) (byt := kbyts) (A := fun q => s.heap.size ≤ q) (by decide) hex hco har hle hel hne hA
  have e0 : (Term.string "KingsTest$Reader" 41).eval #[Value.ref b] s none [] s = some (.ref (adK 0)) := hev 0 (by omega)
  have e1 : (Term.string "KingsTest$Reader" 47).eval #[Value.ref b] s none [] s = some (.ref (adK 1)) := hev 1 (by omega)
  have r0 : (Cond.stringRef "KingsTest$Reader" 41 "kind love wit true false test harm mark yields first price heard truth number merit sure or and not all min max").before #[Value.ref b] s = true := hts _ (by decide +kernel)
  have r1 : (Cond.stringRef "KingsTest$Reader" 47 "last often total most least").before #[Value.ref b] s = true := hts _ (by decide +kernel)
  have z1 : va_Z "java/lang/String" "COMPACT_STRINGS" "Z" (.int 1) (fun q => s.heap.size ≤ q) s s.heap := va_Zof (hts _ (by decide +kernel)) (hts _ (by decide +kernel)) (va_eqi (hs _ (by decide +kernel))) hA
  have z2 : va_Zq "jdk/internal/util/Preconditions" "SIOOBE_FORMATTER" "Ljava/util/function/BiFunction;" (fun q => s.heap.size ≤ q) s s.heap := va_Zqof (hts _ (by decide +kernel)) (hts _ (by decide +kernel)) (hs _ (by decide +kernel)) hA
  have a1 : va_AO RX8 s := va_AO.of (A := #[Value.ref b]) (hts _ (by decide +kernel))
  have a2 : (Cond.arrayOver (.array .int)).before #[Value.ref b] s = true := hts _ (by decide +kernel)
  obtain ⟨t, z2⟩ : ∃ t : Nat, va_Z "jdk/internal/util/Preconditions" "SIOOBE_FORMATTER" "Ljava/util/function/BiFunction;" .null (fun q => s.heap.size ≤ q) s s.heap ∨ va_Z "jdk/internal/util/Preconditions" "SIOOBE_FORMATTER" "Ljava/util/function/BiFunction;" (.ref t) (fun q => s.heap.size ≤ q) s s.heap := by
    rcases z2 with z | ⟨t, z⟩
    · exact ⟨0, Or.inl z⟩
    · exact ⟨t, Or.inr z⟩
  have k2 : ∀ i : Nat, i < 2 → i = 0 ∨ i = 1 := fun i hi => by omega
  refine ⟨fun a => if a = 1000030 then b else if a = 1000020 then t else if a = 1000000 then adK 0 else if a = 1000001 then adK 1 else if a = 1000010 then adV 0 else adV 1, rfl, kS_cong hS (fun i hi => ?_) (fun i hi => ?_), ⟨vk_R.of (A := #[Value.ref b]) r0 e0, vk_R.of (A := #[Value.ref b]) r1 e1⟩, ⟨z1, z2⟩, ⟨hX, hbl⟩, a1, a2⟩
  · rcases k2 i hi with rfl | rfl <;> rfl
  · rcases k2 i hi with rfl | rfl <;> rfl
set_option maxRecDepth 100000 in
/-- the walk, if the abstract run of the law answers 1 -/
theorem whole_start_open (hpure : ∀ (xs : Nat → Int32) (L : Nat), L ≤ 3072 → ∃ h' : KH, f_L_law xs L kh0 1000030 = some (1, h')) {p : Program} {e : Env} {s : State} {m : MethodId} {below : List Frame} {meth : Method} {c : Code} (l : Launch) {b L : Nat} {xs : Nat → Int32} (hL : L ≤ 3072) (C0 : lw_At p s m meth c b L xs) : W p l e room_1 s m #[Value.ref b] below meth c s.heap [] 0 0 (lw_Z below #[Value.ref b] s) (entryFrame m ([Value.ref b] : List Value).toArray 4) := by
  obtain ⟨hx, hb, hr, hml, hown, hts, hX, hbl, hlocks, hgv⟩ := id C0
  obtain ⟨h', hf⟩ := hpure xs L hL
  obtain ⟨pc9, ls9, st9, h9, ⟨-, hd9, rfl, rfl⟩, hmon, hKS⟩ := s0_L_law xs L kh0 1000030 hf
  obtain ⟨D, hD⟩ := kD_ex hts
  obtain ⟨dA, hdA⟩ := kdA_ex hts
  obtain ⟨sA, hsA, hZ⟩ := kZ_ex hts hgv hX hbl
  have hn9 : h9.1 ≤ 243 := hmon.2 (Nat.zero_le _)
  have hK : va_K D kcl (ktys dA) s := ⟨hD, hdA⟩
  have hKC : KC (KZs xs L) RL cL_law 4 false 223 243 0 D dA s.heap.size sA p room_1 s m #[Value.ref b] meth c s.heap :=
    ⟨⟨hx, hb, hml, hown, ktG_sub hts⟩, ⟨⟨hK, fun q hq => va_Nw.of rfl (hts _ (ktb_nF q hq)), fun q hq => va_Nw.of rfl (hts _ (ktb_nM q hq)), hZ⟩, KZs_ok xs L⟩, fun h => (by cases h), (by decide +kernel), rfl, rfl⟩
  have hend : KW D dA s.heap.size sA 0 4 s.heap p l e room_1 s m #[Value.ref b] below meth c (lw_Z below #[Value.ref b] s) pc9 ls9 [.int 1] h9 := by
    intro lsM H locs cells slots hl hP hS hc hsz
    refine va_forget (fun q hq => hS.2.2 q hq) ?_
    have h243 : ksz h9.1 ≤ 7302250 := by
      have : ∀ n : Nat, n ≤ 243 → ksz n ≤ 7302250 := by decide +kernel
      exact this _ hn9
    have hz0 : ksz 0 = 0 := rfl
    refine W.widen (k := 600000) (n := 7302250) (by omega) (by omega) ?_
    exact lw_ret hx hb hr hlocks hd9
  have hgo := hKS 243 0 D dA s.heap.size sA s.heap p l e room_1 s m #[Value.ref b] below meth c (lw_Z below #[Value.ref b] s) hKC hlocks hn9 hend
  have hl := lv_entry ([.ref b]) (n := 4) (Nat.le_of_ble_eq_true rfl)
  rw [lg_entry_eq]
  generalize (lg_sl ([.ref b]) ++ List.replicate (4 - (lg_sl ([.ref b])).length) Slot.unset).toArray = ls at hl ⊢
  have hl : lv_has ls 4 (kls s.heap.size sA [(0, .ref 1000030)]) := by
    have e : kls s.heap.size sA [(0, .ref 1000030)] = [(0, .ref b)] := by
      show [(0, Value.ref (if (1000030 : Nat) < 999999 then s.heap.size + 1000030 else sA 1000030))] = _
      rw [if_neg (by decide), hsA]
    rw [e]
    exact hl
  exact hgo ls s.heap [] 0 0 hl ⟨fun k q h => by simp [kws, kh0] at h, rfl⟩ va_S.rf rfl rfl
