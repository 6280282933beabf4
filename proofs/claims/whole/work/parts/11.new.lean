/-! rows that make cells -/
theorem knew_mon {h : KH} (hk : kkind h.1 < 99) : kmon h (knew h) := ⟨Nat.le_succ _, fun _ => kkind_lt hk⟩
theorem kI_new {h : KH} : kI (knew h) h.1 = fun _ => 0 := by funext j; simp [kI, knew]
theorem kL_new {h : KH} : kL (knew h) h.1 = fun _ => 0 := by funext j; simp [kL, knew]
theorem kR_new {h : KH} : kR (knew h) h.1 = fun _ => 999999 := by funext j; simp [kR, knew]
theorem kfv_new {base : Nat} {h : KH} {j t : Nat} {ty : FieldType} (ho : ktyOK t ty = true) : defaultValue ty = kfv base (knew h) h.1 t j := by
  unfold kfv
  rw [kI_new, kL_new, kR_new]
  unfold ktyOK at ho
  split at ho <;> first | rfl | cases ho
theorem kW_new {D : va_G} {dA : Nat → ClassId} {base n0 : Nat} {h : KH} {p : Program} {l : Launch} {e : Env} {R : Room} {s : State} {m : MethodId} {args : Array Value} {below : List Frame} {meth : Method} {c : Code} {H : Heap} {locs : List Loc} {cells slots : Nat} {Q : State → Prop} {g : JFrame} {q : Nat} {e0 : va_E} (hs : s.heap.size = base + n0) (h1 : cells + n0 = h.1) (hP : va_P D kcl (kws dA base h ++ [(q, e0)]) H) (hD : va_D (fun q => base ≤ q) (kws dA base h ++ [(q, e0)]))
    (k : q = base + h.1 → H.size = base + (h.1 + 1) → W p l e R s m args below meth c H locs (cells + 1) slots Q g) : W p l e R s m args below meth c H locs (cells + 1) slots Q g := by
  intro T hT X
  have hu := X.heapSize
  rw [hT] at hu
  have hlen : (kws dA base h).length = h.1 := by simp [kws]
  have hg : (kws dA base h ++ [(q, e0)])[h.1]? = some (q, e0) := by rw [List.getElem?_append_right (by omega), hlen, Nat.sub_self]; rfl
  have hq : q < H.size := (hP _ _ hg).lt
  have hb : base ≤ q := hD.2 _ _ hg
  have hne : base + h.1 ≤ q := by
    rcases Nat.lt_or_ge q (base + h.1) with z | z
    · exfalso
      have h9 : (kws dA base h ++ [(q, e0)])[q - base]? = some (base + (q - base), kcell dA base h (q - base)) := by
        rw [List.getElem?_append_left (by omega)]
        exact kws_get (by omega)
      have := hD.1 _ _ _ _ h9 hg (by show base + (q - base) = q; omega)
      omega
    · exact z
  exact k (by omega) (by omega) T hT X
section KR
variable {Z : Nat → (Nat → Nat) → State → Prop} {own : String} {cc : ByteArray} {nL : Nat} {ini : Bool} {d pc : Nat} {ls : List (Nat × Value)} {st : List Value} {h : KH} {pc9 : Nat} {ls9 : List (Nat × Value)} {st9 : List Value} {h9 : KH}
theorem r_new {i ci q : Nat} (hd : decode cc pc = .ok (.new i, 3)) (hq : pc + 3 = q) (hw : Cond.classLink own i (kown ci) ∈ ktG ∧ Cond.instantiable (kown ci) (kfts.getD ci []).length ∈ ktG ∧ Cond.initialized (kown ci) ∈ ktG) (hk : kkind h.1 = ci ∧ ci < 13) (k : KS Z own cc nL ini d q ls (.ref h.1 :: st) (knew h) pc9 ls9 st9 h9) : KS Z own cc nL ini d pc ls st h pc9 ls9 st9 h9 := by
  refine ⟨(knew_mon (by rw [hk.1]; omega)).tr k.1, ?_⟩
  subst hq
  intro nF n0 D dA base sA H0 p l' e R s m args below meth c Q C hl hn K lsM H locs cells slots hL hP hS h1 h2
  obtain ⟨C', T, N, ty0, hc, hlen, hws, hty, hnm, hcls, hok⟩ := KFC_all ci hk.2
  obtain ⟨g1, g2, g3, g4⟩ := C.2.2.2.1
  have hkn : kown ci = C' := by unfold kown; rw [hc]
  have hci : ci < 20 := by omega
  rw [hkn, hlen] at hw
  have hnF : h.1 + 1 ≤ nF := Nat.le_trans k.1.1 hn
  have hks : ksz (h.1 + 1) = ksz h.1 + N := by
    show ksz h.1 + kszl h.1 = _
    unfold kszl
    rw [if_pos (by rw [hk.1]; exact hci), hk.1, hlen]
  have hm := ksz_mono hnF
  refine va_new (D := D) (ci := ci) (fs := kfields base (knew h) h.1 (kfts.getD ci [])) C.1.1 C.1.2.1 C.1.2.2.2.2 hws ty0 hty C.1.2.2.2.1 (C.1.2.2.2.2 _ hw.1) (C.1.2.2.2.2 _ hw.2.1) (C.1.2.2.2.2 _ hw.2.2) C.2.1.1.1 hP.1 kws_D hS (fun q hq => by rw [C.2.2.2.2.1] at hq; exact Nat.le_trans (Nat.le_add_right _ _) hq) hc (fun j hj => ?_) (by omega) (by omega) hd fun q H1 hP1 hD1 hS1 => ?_
  · have hf := kfields_get (base := base) (h := knew h) (l := h.1) (ts := kfts.getD ci []) (j := j) (by rw [hlen]; exact hj)
    rw [kty_getD (by rw [hlen]; exact hj)] at hf
    unfold vp_V
    rw [List.getD_eq_getElem?_getD, hf]
    exact kfv_new (hok j hj)
  · refine kW_new (by rw [← C.2.2.2.2.2]; exact C.2.2.2.2.1) h1 hP1 hD1 fun hqe hz => ?_
    subst hqe
    rw [kws_push (kcell_o hk.1 hci)] at hP1
    have hkk := k.2 nF n0 D dA base sA H0 p l' e R s m args below meth c Q C hl hn K lsM H1 locs (cells + 1) (slots + N) hL ⟨hP1, hz⟩ hS1 (by show cells + 1 + n0 = h.1 + 1; omega) (by show slots + N + ksz n0 = ksz (h.1 + 1); omega)
    have e9 : kst base sA (.ref h.1 :: st) = .ref (base + h.1) :: kst base sA st := by
      show Value.ref (kadr base sA h.1) :: kst base sA st = _
      rw [kadr_k (by rw [hk.1]; omega)]
    rw [e9] at hkk
    exact hkk
theorem r_newa {at_ : ArrayType} {kk q : Nat} {n : Int32} (hd : decode cc pc = .ok (.newarray at_, 2)) (hq : pc + 2 = q) (hat : (at_ = .int ∧ kk = 20) ∨ (at_ = .long ∧ kk = 21) ∨ (at_ = .char ∧ kk = 22) ∨ (at_ = .byte ∧ kk = 23)) (hw : Cond.arrayClass (newarray.typeOf at_) ∈ ktG) (hk : kkind h.1 = kk ∧ klen h.1 = n.toNatClampNeg ∧ ¬ n < 0 ∧ klen h.1 ≤ 9000) (k : KS Z own cc nL ini d q ls (.ref h.1 :: st) (knew h) pc9 ls9 st9 h9) : KS Z own cc nL ini d pc ls (.int n :: st) h pc9 ls9 st9 h9 := by
  have hk9 : kkind h.1 < 99 := by rw [hk.1]; rcases hat with ⟨-, z⟩ | ⟨-, z⟩ | ⟨-, z⟩ | ⟨-, z⟩ <;> omega
  have hk20 : ¬ kkind h.1 < 20 := by rw [hk.1]; rcases hat with ⟨-, z⟩ | ⟨-, z⟩ | ⟨-, z⟩ | ⟨-, z⟩ <;> omega
  refine ⟨(knew_mon hk9).tr k.1, ?_⟩
  subst hq
  intro nF n0 D dA base sA H0 p l' e R s m args below meth c Q C hl hn K lsM H locs cells slots hL hP hS h1 h2
  obtain ⟨g1, g2, g3, g4⟩ := C.2.2.2.1
  have hnF : h.1 + 1 ≤ nF := Nat.le_trans k.1.1 hn
  have hks : ksz (h.1 + 1) = ksz h.1 + klen h.1 := by
    show ksz h.1 + kszl h.1 = _
    unfold kszl
    rw [if_neg hk20]
  have hm := ksz_mono hnF
  have hA : ∀ q, H0.size ≤ q → base ≤ q := fun q hq => by rw [C.2.2.2.2.1] at hq; exact Nat.le_trans (Nat.le_add_right _ _) hq
  have e9 : kst base sA (.ref h.1 :: st) = .ref (base + h.1) :: kst base sA st := by
    show Value.ref (kadr base sA h.1) :: kst base sA st = _
    rw [kadr_k hk9]
  have fin : ∀ (q : Nat) (e0 : va_E) (H1 : Heap), kcell dA base (knew h) h.1 = e0 → va_P D kcl (kws dA base h ++ [(q, e0)]) H1 → va_D (fun q => base ≤ q) (kws dA base h ++ [(q, e0)]) → va_S (fun q => base ≤ q) H0 H1 locs → W p l' e R s m args below meth c H1 locs (cells + 1) (slots + klen h.1) Q (F0 m (pc + 2) lsM (.ref q :: kst base sA st)) := by
    intro q e0 H1 he hP1 hD1 hS1
    refine kW_new (by rw [← C.2.2.2.2.2]; exact C.2.2.2.2.1) h1 hP1 hD1 fun hqe hz => ?_
    subst hqe
    rw [kws_push he] at hP1
    have hkk := k.2 nF n0 D dA base sA H0 p l' e R s m args below meth c Q C hl hn K lsM H1 locs (cells + 1) (slots + klen h.1) hL ⟨hP1, hz⟩ hS1 (by show cells + 1 + n0 = h.1 + 1; omega) (by show slots + klen h.1 + ksz n0 = ksz (h.1 + 1); omega)
    rw [e9] at hkk
    exact hkk
  have hb8 : ∀ b : Nat, b ≤ 8 → klen h.1 * b ≤ 536870912 := fun b hb => Nat.le_trans (Nat.mul_le_mul hk.2.2.2 hb) (Nat.le_of_ble_eq_true rfl)
  rcases hat with ⟨rfl, rfl⟩ | ⟨rfl, rfl⟩ | ⟨rfl, rfl⟩ | ⟨rfl, rfl⟩
  · refine va_newa (atype := .int) (ty := .int) (a0 := (klen h.1, .inl (kI (knew h) h.1))) C.1.1 C.1.2.1 (C.1.2.2.2.2 _ hw) rfl C.2.1.1.1 hP.1 kws_D hS hA (fun cA => by rw [kI_new]; rfl) hk.2.2.1 hk.2.1.symm (hb8 4 (by decide)) (by omega) (by omega) hd fun q cA H1 hK1 hP1 hD1 hS1 => ?_
    have ec : cA = dA 20 := Option.some.inj (((hK1.2 6 (cA, .int) rfl).2).symm.trans ((C.2.1.1.1.2 0 _ rfl).2))
    subst ec
    exact fin q _ H1 (kcell_i hk.1 (Or.inl rfl)) hP1 hD1 hS1
  · refine va_newa (atype := .long) (ty := .long) (a0 := (klen h.1, .inr (.inl (kL (knew h) h.1)))) C.1.1 C.1.2.1 (C.1.2.2.2.2 _ hw) rfl C.2.1.1.1 hP.1 kws_D hS hA (fun cA => by rw [kL_new]; rfl) hk.2.2.1 hk.2.1.symm (hb8 8 (by decide)) (by omega) (by omega) hd fun q cA H1 hK1 hP1 hD1 hS1 => ?_
    have ec : cA = dA 21 := Option.some.inj (((hK1.2 6 (cA, .long) rfl).2).symm.trans ((C.2.1.1.1.2 1 _ rfl).2))
    subst ec
    exact fin q _ H1 (kcell_l hk.1) hP1 hD1 hS1
  · refine va_newa (atype := .char) (ty := .char) (a0 := (klen h.1, .inl (kI (knew h) h.1))) C.1.1 C.1.2.1 (C.1.2.2.2.2 _ hw) rfl C.2.1.1.1 hP.1 kws_D hS hA (fun cA => by rw [kI_new]; rfl) hk.2.2.1 hk.2.1.symm (hb8 2 (by decide)) (by omega) (by omega) hd fun q cA H1 hK1 hP1 hD1 hS1 => ?_
    have ec : cA = dA 22 := Option.some.inj (((hK1.2 6 (cA, .char) rfl).2).symm.trans ((C.2.1.1.1.2 2 _ rfl).2))
    subst ec
    exact fin q _ H1 (kcell_i hk.1 (Or.inr (Or.inl rfl))) hP1 hD1 hS1
  · refine va_newa (atype := .byte) (ty := .byte) (a0 := (klen h.1, .inl (kI (knew h) h.1))) C.1.1 C.1.2.1 (C.1.2.2.2.2 _ hw) rfl C.2.1.1.1 hP.1 kws_D hS hA (fun cA => by rw [kI_new]; rfl) hk.2.2.1 hk.2.1.symm (hb8 1 (by decide)) (by omega) (by omega) hd fun q cA H1 hK1 hP1 hD1 hS1 => ?_
    have ec : cA = dA 23 := Option.some.inj (((hK1.2 6 (cA, .byte) rfl).2).symm.trans ((C.2.1.1.1.2 3 _ rfl).2))
    subst ec
    exact fin q _ H1 (kcell_i hk.1 (Or.inr (Or.inr rfl))) hP1 hD1 hS1
theorem r_newq {i q : Nat} {n : Int32} (hd : decode cc pc = .ok (.anewarray i, 3)) (hq : pc + 3 = q) (hw : Cond.classLink own i RX8 ∈ ktG) (hz : ∀ (base : Nat) (sA : Nat → Nat) (U : State), Z base sA U → va_AO RX8 U) (hk : kkind h.1 = 25 ∧ klen h.1 = n.toNatClampNeg ∧ ¬ n < 0 ∧ klen h.1 ≤ 9000) (k : KS Z own cc nL ini d q ls (.ref h.1 :: st) (knew h) pc9 ls9 st9 h9) : KS Z own cc nL ini d pc ls (.int n :: st) h pc9 ls9 st9 h9 := by
  have hk9 : kkind h.1 < 99 := by rw [hk.1]; decide
  refine ⟨(knew_mon hk9).tr k.1, ?_⟩
  subst hq
  intro nF n0 D dA base sA H0 p l' e R s m args below meth c Q C hl hn K lsM H locs cells slots hL hP hS h1 h2
  obtain ⟨g1, g2, g3, g4⟩ := C.2.2.2.1
  have hnF : h.1 + 1 ≤ nF := Nat.le_trans k.1.1 hn
  have hks : ksz (h.1 + 1) = ksz h.1 + klen h.1 := by
    show ksz h.1 + kszl h.1 = _
    unfold kszl
    rw [if_neg (by rw [hk.1]; decide)]
  have hm := ksz_mono hnF
  have hA : ∀ q, H0.size ≤ q → base ≤ q := fun q hq => by rw [C.2.2.2.2.1] at hq; exact Nat.le_trans (Nat.le_add_right _ _) hq
  refine va_newq (C := RX8) C.1.1 C.1.2.1 C.1.2.2.2.1 (C.1.2.2.2.2 _ hw) (hz base sA s C.2.1.1.2.2.2) C.2.1.1.1 hP.1 kws_D hS hA hk.2.2.1 hk.2.1.symm (Nat.le_trans (Nat.mul_le_mul hk.2.2.2 (Nat.le_refl 4)) (Nat.le_of_ble_eq_true rfl)) (by omega) (by omega) hd fun q cA H1 hK1 hP1 hD1 hS1 => ?_
  have ec : cA = dA 25 := by
    obtain ⟨_, _, _, _, _, z1⟩ := (hK1.2 6 (cA, .object RX8) rfl).2
    obtain ⟨_, _, _, _, _, z2⟩ := (C.2.1.1.1.2 5 _ rfl).2
    exact Option.some.inj (z1.symm.trans z2)
  subst ec
  have he : kcell dA base (knew h) h.1 = .inl (dA 25, klen h.1, .inr (.inr (.inr (.inr (fun _ => none))))) := by
    rw [kcell_q hk.1 (Or.inr rfl), kR_new]
    rfl
  refine kW_new (by rw [← C.2.2.2.2.2]; exact C.2.2.2.2.1) h1 hP1 hD1 fun hqe hz2 => ?_
  subst hqe
  rw [kws_push he] at hP1
  have hkk := k.2 nF n0 D dA base sA H0 p l' e R s m args below meth c Q C hl hn K lsM H1 locs (cells + 1) (slots + klen h.1) hL ⟨hP1, hz2⟩ hS1 (by show cells + 1 + n0 = h.1 + 1; omega) (by show slots + klen h.1 + ksz n0 = ksz (h.1 + 1); omega)
  have e9 : kst base sA (.ref h.1 :: st) = .ref (base + h.1) :: kst base sA st := by
    show Value.ref (kadr base sA h.1) :: kst base sA st = _
    rw [kadr_k hk9]
  rw [e9] at hkk
  exact hkk
theorem r_astq {l v q : Nat} {i : Int32} (hd : decode cc pc = .ok (.aastore, 1)) (hq : pc + 1 = q) (ho : kkind l = 25 ∧ l < h.1) (hv : kkind v = 8 ∧ v < h.1) (hi : vp_in i (klen l)) (k : KS Z own cc nL ini d q ls st (ksR h l i.toNatClampNeg v) pc9 ls9 st9 h9) : KS Z own cc nL ini d pc ls (.ref v :: .int i :: .ref l :: st) h pc9 ls9 st9 h9 := by
  refine ⟨k.1, ?_⟩
  subst hq
  intro nF n0 D dA base sA H0 p l' e R s m args below meth c Q C hl hn K lsM H locs cells slots hL hP hS h1 h2
  have he := kws_get (dA := dA) (base := base) ho.2
  rw [kcell_q ho.1 (Or.inr rfl)] at he
  have hev := kws_get (dA := dA) (base := base) hv.2
  rw [kcell_o hv.1 (by decide)] at hev
  have hvl : v < 999999 := Nat.lt_trans (kkind_lt (l := v) (by rw [hv.1]; decide)) (Nat.le_of_ble_eq_true rfl)
  have hset : (kws dA base h).set l (base + l, .inl (dA 25, klen l, .inr (.inr (.inr (.inr (va_up (fun j => krq base (kR h l j)) i.toNatClampNeg (some (base + v)))))))) = kws dA base (ksR h l i.toNatClampNeg v) := by
    refine kws_set rfl ?_ (kcell_other (fun _ _ _ => rfl) (fun _ _ _ => rfl) (fun a b z => by rw [kR_sR, if_neg (fun y => z y.1)]))
    rw [kcell_q ho.1 (Or.inr rfl)]
    congr 7
    funext b
    rw [kR_sR]
    by_cases hb : b = i.toNatClampNeg
    · rw [if_pos ⟨rfl, hb⟩, va_up, if_pos hb, krq, if_neg (Nat.ne_of_lt hvl)]
    · rw [if_neg (fun y => hb y.2), va_up, if_neg hb]
  show W p l' e R s m args below meth c H locs cells slots Q (F0 m pc lsM (Value.ref (kadr base sA v) :: Value.int i :: Value.ref (kadr base sA l) :: kst base sA st))
  rw [kadr_k (l := v) (by rw [hv.1]; decide), kadr_k (l := l) (by rw [ho.1]; decide)]
  exact va_astq (r := (RX8, TX8, 6)) C.1.1 C.1.2.1 C.2.1.1.1 hP.1 kws_D hS l 5 v 8 he rfl hev rfl hi hd fun H1 locs1 a1 _ a3 =>
    kW_size (h := ksR h l i.toNatClampNeg v) (by rw [← C.2.2.2.2.2]; exact C.2.2.2.2.1) h1 (by rw [← hset]; exact a1) (by rw [← C.2.2.2.2.2]; exact a3.1) fun hP2 =>
    k.2 nF n0 D dA base sA H0 p l' e R s m args below meth c Q C hl hn K lsM H1 locs1 cells slots hL hP2 a3 h1 h2
end KR
