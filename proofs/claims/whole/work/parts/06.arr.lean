/-! rows of arrays -/
section KR
variable {Z : Nat → (Nat → Nat) → State → Prop} {own : String} {cc : ByteArray} {nL : Nat} {ini : Bool} {d pc : Nat} {ls : List (Nat × Value)} {st : List Value} {h : KH} {pc9 : Nat} {ls9 : List (Nat × Value)} {st9 : List Value} {h9 : KH}
theorem r_iald {l q : Nat} {i : Int32} (hd : decode cc pc = .ok (.iaload, 1)) (hq : pc + 1 = q) (ho : kkind l = 20 ∧ l < h.1) (hi : vp_in i (klen l)) (k : KS Z own cc nL ini d q ls (.int (kI h l i.toNatClampNeg) :: st) h pc9 ls9 st9 h9) : KS Z own cc nL ini d pc ls (.int i :: .ref l :: st) h pc9 ls9 st9 h9 := by
  refine ⟨k.1, ?_⟩
  subst hq
  intro nF n0 D dA base sA H0 p l' e R s m args below meth c Q C hl hn K lsM H locs cells slots hL hP hS h1 h2
  have he := kws_get (dA := dA) (base := base) ho.2
  rw [kcell_i ho.1 (Or.inl rfl)] at he
  have hkk := k.2 nF n0 D dA base sA H0 p l' e R s m args below meth c Q C hl hn K lsM H locs cells slots hL hP hS h1 h2
  show W p l' e R s m args below meth c H locs cells slots Q (F0 m pc lsM (Value.int i :: Value.ref (kadr base sA l) :: kst base sA st))
  rw [kadr_k (by rw [ho.1]; decide)]
  exact va_iald C.1.1 C.1.2.1 C.2.1.1.1 hP.1 l 0 he rfl hi hd hkk
theorem r_bald {l q : Nat} {i : Int32} (hd : decode cc pc = .ok (.baload, 1)) (hq : pc + 1 = q) (ho : kkind l = 23 ∧ l < h.1) (hi : vp_in i (klen l)) (k : KS Z own cc nL ini d q ls (.int (kI h l i.toNatClampNeg) :: st) h pc9 ls9 st9 h9) : KS Z own cc nL ini d pc ls (.int i :: .ref l :: st) h pc9 ls9 st9 h9 := by
  refine ⟨k.1, ?_⟩
  subst hq
  intro nF n0 D dA base sA H0 p l' e R s m args below meth c Q C hl hn K lsM H locs cells slots hL hP hS h1 h2
  have he := kws_get (dA := dA) (base := base) ho.2
  rw [kcell_i ho.1 (Or.inr (Or.inr rfl))] at he
  have hkk := k.2 nF n0 D dA base sA H0 p l' e R s m args below meth c Q C hl hn K lsM H locs cells slots hL hP hS h1 h2
  show W p l' e R s m args below meth c H locs cells slots Q (F0 m pc lsM (Value.int i :: Value.ref (kadr base sA l) :: kst base sA st))
  rw [kadr_k (by rw [ho.1]; decide)]
  exact va_bald C.1.1 C.1.2.1 C.2.1.1.1 hP.1 l 3 he rfl hi hd hkk
theorem r_cald {l q : Nat} {i : Int32} (hd : decode cc pc = .ok (.caload, 1)) (hq : pc + 1 = q) (ho : kkind l = 22 ∧ l < h.1) (hi : vp_in i (klen l)) (k : KS Z own cc nL ini d q ls (.int (kI h l i.toNatClampNeg) :: st) h pc9 ls9 st9 h9) : KS Z own cc nL ini d pc ls (.int i :: .ref l :: st) h pc9 ls9 st9 h9 := by
  refine ⟨k.1, ?_⟩
  subst hq
  intro nF n0 D dA base sA H0 p l' e R s m args below meth c Q C hl hn K lsM H locs cells slots hL hP hS h1 h2
  have he := kws_get (dA := dA) (base := base) ho.2
  rw [kcell_i ho.1 (Or.inr (Or.inl rfl))] at he
  have hkk := k.2 nF n0 D dA base sA H0 p l' e R s m args below meth c Q C hl hn K lsM H locs cells slots hL hP hS h1 h2
  show W p l' e R s m args below meth c H locs cells slots Q (F0 m pc lsM (Value.int i :: Value.ref (kadr base sA l) :: kst base sA st))
  rw [kadr_k (by rw [ho.1]; decide)]
  exact va_cald C.1.1 C.1.2.1 C.2.1.1.1 hP.1 l 2 he rfl hi hd hkk
theorem r_lald {l q : Nat} {i : Int32} (hd : decode cc pc = .ok (.laload, 1)) (hq : pc + 1 = q) (ho : kkind l = 21 ∧ l < h.1) (hi : vp_in i (klen l)) (k : KS Z own cc nL ini d q ls (.long (kL h l i.toNatClampNeg) :: st) h pc9 ls9 st9 h9) : KS Z own cc nL ini d pc ls (.int i :: .ref l :: st) h pc9 ls9 st9 h9 := by
  refine ⟨k.1, ?_⟩
  subst hq
  intro nF n0 D dA base sA H0 p l' e R s m args below meth c Q C hl hn K lsM H locs cells slots hL hP hS h1 h2
  have he := kws_get (dA := dA) (base := base) ho.2
  rw [kcell_l ho.1] at he
  have hkk := k.2 nF n0 D dA base sA H0 p l' e R s m args below meth c Q C hl hn K lsM H locs cells slots hL hP hS h1 h2
  show W p l' e R s m args below meth c H locs cells slots Q (F0 m pc lsM (Value.int i :: Value.ref (kadr base sA l) :: kst base sA st))
  rw [kadr_k (by rw [ho.1]; decide)]
  exact va_lald C.1.1 C.1.2.1 C.2.1.1.1 hP.1 l 1 he rfl hi hd hkk
theorem r_aald {l q kk : Nat} {i : Int32} (hd : decode cc pc = .ok (.aaload, 1)) (hq : pc + 1 = q) (hkd : kk = 24 ∨ kk = 25) (ho : kkind l = kk ∧ l < h.1) (hi : vp_in i (klen l)) (hr : kR h l i.toNatClampNeg < 999999) (k : KS Z own cc nL ini d q ls (.ref (kR h l i.toNatClampNeg) :: st) h pc9 ls9 st9 h9) : KS Z own cc nL ini d pc ls (.int i :: .ref l :: st) h pc9 ls9 st9 h9 := by
  refine ⟨k.1, ?_⟩
  subst hq
  intro nF n0 D dA base sA H0 p l' e R s m args below meth c Q C hl hn K lsM H locs cells slots hL hP hS h1 h2
  have he := kws_get (dA := dA) (base := base) ho.2
  rw [kcell_q ho.1 hkd] at he
  have hkk := k.2 nF n0 D dA base sA H0 p l' e R s m args below meth c Q C hl hn K lsM H locs cells slots hL hP hS h1 h2
  show W p l' e R s m args below meth c H locs cells slots Q (F0 m pc lsM (Value.int i :: Value.ref (kadr base sA l) :: kst base sA st))
  rw [kadr_k (by rw [ho.1]; omega)]
  have hlt : i.toNatClampNeg < klen l := Nat.not_le.mp fun q => hi (Or.inr q)
  have hv : va_rf (krq base (kR h l i.toNatClampNeg)) = kv base sA (.ref (kR h l i.toNatClampNeg)) := by
    unfold krq
    rw [if_neg (Nat.ne_of_lt hr)]
    show Value.ref _ = Value.ref (kadr base sA _)
    rw [kadr_lt hr]
  have hkk2 : W p l' e R s m args below meth c H locs cells slots Q (F0 m (pc + 1) lsM (va_rf (krq base (kR h l i.toNatClampNeg)) :: kst base sA st)) := by rw [hv]; exact hkk
  rcases hkd with rfl | rfl
  · exact W.aald (ty := .array .int) C.1.1 C.1.2.1 (hP.1 l _ he) ((C.2.1.1.1.2 4 _ rfl).1 _ _) rfl (fun q => by cases q) (by show ¬ (i < 0 ∨ (arrV _ _ _).slots.size ≤ _); rw [arrV_size]; exact hi) (by show (arrV _ _ _).slots[_]? = _; rw [arrV_read _ _ hlt]) rfl rfl hd hkk2
  · exact W.aald (ty := .object RX8) C.1.1 C.1.2.1 (hP.1 l _ he) ((C.2.1.1.1.2 5 _ rfl).1 _ _) rfl (fun q => by cases q) (by show ¬ (i < 0 ∨ (arrV _ _ _).slots.size ≤ _); rw [arrV_size]; exact hi) (by show (arrV _ _ _).slots[_]? = _; rw [arrV_read _ _ hlt]) rfl rfl hd hkk2
theorem r_alen {l q kk : Nat} (hd : decode cc pc = .ok (.arraylength, 1)) (hq : pc + 1 = q) (hkd : 20 ≤ kk ∧ kk ≤ 25) (ho : kkind l = kk ∧ l < h.1) (k : KS Z own cc nL ini d q ls (.int (Int32.ofNat (klen l)) :: st) h pc9 ls9 st9 h9) : KS Z own cc nL ini d pc ls (.ref l :: st) h pc9 ls9 st9 h9 := by
  refine ⟨k.1, ?_⟩
  subst hq
  intro nF n0 D dA base sA H0 p l' e R s m args below meth c Q C hl hn K lsM H locs cells slots hL hP hS h1 h2
  have he := kws_get (dA := dA) (base := base) ho.2
  have hkk := k.2 nF n0 D dA base sA H0 p l' e R s m args below meth c Q C hl hn K lsM H locs cells slots hL hP hS h1 h2
  show W p l' e R s m args below meth c H locs cells slots Q (F0 m pc lsM (Value.ref (kadr base sA l) :: kst base sA st))
  rw [kadr_k (by rw [ho.1]; omega)]
  have hcase : kk = 20 ∨ kk = 21 ∨ kk = 22 ∨ kk = 23 ∨ kk = 24 ∨ kk = 25 := by omega
  rcases hcase with rfl | rfl | rfl | rfl | rfl | rfl
  · rw [kcell_i ho.1 (Or.inl rfl)] at he; exact va_alen C.1.1 C.1.2.1 C.2.1.1.1 hP.1 l 0 he rfl rfl hd hkk
  · rw [kcell_l ho.1] at he; exact va_alen C.1.1 C.1.2.1 C.2.1.1.1 hP.1 l 1 he rfl rfl hd hkk
  · rw [kcell_i ho.1 (Or.inr (Or.inl rfl))] at he; exact va_alen C.1.1 C.1.2.1 C.2.1.1.1 hP.1 l 2 he rfl rfl hd hkk
  · rw [kcell_i ho.1 (Or.inr (Or.inr rfl))] at he; exact va_alen C.1.1 C.1.2.1 C.2.1.1.1 hP.1 l 3 he rfl rfl hd hkk
  · rw [kcell_q ho.1 (Or.inl rfl)] at he; exact va_alen C.1.1 C.1.2.1 C.2.1.1.1 hP.1 l 4 he rfl rfl hd hkk
  · rw [kcell_q ho.1 (Or.inr rfl)] at he; exact va_alen C.1.1 C.1.2.1 C.2.1.1.1 hP.1 l 5 he rfl rfl hd hkk
theorem kI_upd {h : KH} {l j : Nat} {x : Int32} : kI (ksI h l j x) l = upd (kI h l) j x := by
  funext b
  simp [kI_sI, upd]
theorem kL_upd {h : KH} {l j : Nat} {x : Int64} : kL (ksL h l j x) l = vp_updL (kL h l) j x := by
  funext b
  simp [kL_sL, vp_updL]
theorem kset_i {dA : Nat → ClassId} {base : Nat} {h : KH} {l k j : Nat} {x : Int32} (hk : kkind l = k) (hc : k = 20 ∨ k = 22 ∨ k = 23) : (kws dA base h).set l (base + l, .inl (dA k, klen l, .inl (upd (kI h l) j x))) = kws dA base (ksI h l j x) :=
  kws_set rfl (by rw [kcell_i hk hc, kI_upd]) (kcell_other (fun a b z => by rw [kI_sI, if_neg (fun y => z y.1)]) (fun _ _ _ => rfl) (fun _ _ _ => rfl))
theorem r_iast {l q : Nat} {i x : Int32} (hd : decode cc pc = .ok (.iastore, 1)) (hq : pc + 1 = q) (ho : kkind l = 20 ∧ l < h.1) (hi : vp_in i (klen l)) (k : KS Z own cc nL ini d q ls st (ksI h l i.toNatClampNeg x) pc9 ls9 st9 h9) : KS Z own cc nL ini d pc ls (.int x :: .int i :: .ref l :: st) h pc9 ls9 st9 h9 := by
  refine ⟨k.1, ?_⟩
  subst hq
  intro nF n0 D dA base sA H0 p l' e R s m args below meth c Q C hl hn K lsM H locs cells slots hL hP hS h1 h2
  have he := kws_get (dA := dA) (base := base) ho.2
  rw [kcell_i ho.1 (Or.inl rfl)] at he
  show W p l' e R s m args below meth c H locs cells slots Q (F0 m pc lsM (Value.int x :: Value.int i :: Value.ref (kadr base sA l) :: kst base sA st))
  rw [kadr_k (by rw [ho.1]; decide)]
  exact va_iast C.1.1 C.1.2.1 C.2.1.1.1 hP.1 kws_D hS l 0 he rfl hi hd fun H1 locs1 a1 _ a3 =>
    kW_size (h := ksI h l i.toNatClampNeg x) (by rw [← C.2.2.2.2.2]; exact C.2.2.2.2.1) h1 (by rw [← kset_i ho.1 (Or.inl rfl)]; exact a1) (by rw [← C.2.2.2.2.2]; exact a3.1) fun hP2 =>
    k.2 nF n0 D dA base sA H0 p l' e R s m args below meth c Q C hl hn K lsM H1 locs1 cells slots hL hP2 a3 h1 h2
theorem r_bast {l q : Nat} {i x : Int32} (hd : decode cc pc = .ok (.bastore, 1)) (hq : pc + 1 = q) (ho : kkind l = 23 ∧ l < h.1) (hi : vp_in i (klen l)) (k : KS Z own cc nL ini d q ls st (ksI h l i.toNatClampNeg (vp_nar .byte x)) pc9 ls9 st9 h9) : KS Z own cc nL ini d pc ls (.int x :: .int i :: .ref l :: st) h pc9 ls9 st9 h9 := by
  refine ⟨k.1, ?_⟩
  subst hq
  intro nF n0 D dA base sA H0 p l' e R s m args below meth c Q C hl hn K lsM H locs cells slots hL hP hS h1 h2
  have he := kws_get (dA := dA) (base := base) ho.2
  rw [kcell_i ho.1 (Or.inr (Or.inr rfl))] at he
  show W p l' e R s m args below meth c H locs cells slots Q (F0 m pc lsM (Value.int x :: Value.int i :: Value.ref (kadr base sA l) :: kst base sA st))
  rw [kadr_k (by rw [ho.1]; decide)]
  exact va_bast C.1.1 C.1.2.1 C.2.1.1.1 hP.1 kws_D hS l 3 he rfl hi hd fun H1 locs1 a1 _ a3 =>
    kW_size (h := ksI h l i.toNatClampNeg (vp_nar .byte x)) (by rw [← C.2.2.2.2.2]; exact C.2.2.2.2.1) h1 (by rw [← kset_i ho.1 (Or.inr (Or.inr rfl))]; exact a1) (by rw [← C.2.2.2.2.2]; exact a3.1) fun hP2 =>
    k.2 nF n0 D dA base sA H0 p l' e R s m args below meth c Q C hl hn K lsM H1 locs1 cells slots hL hP2 a3 h1 h2
theorem r_cast {l q : Nat} {i x : Int32} (hd : decode cc pc = .ok (.castore, 1)) (hq : pc + 1 = q) (ho : kkind l = 22 ∧ l < h.1) (hi : vp_in i (klen l)) (k : KS Z own cc nL ini d q ls st (ksI h l i.toNatClampNeg (vp_nar .char x)) pc9 ls9 st9 h9) : KS Z own cc nL ini d pc ls (.int x :: .int i :: .ref l :: st) h pc9 ls9 st9 h9 := by
  refine ⟨k.1, ?_⟩
  subst hq
  intro nF n0 D dA base sA H0 p l' e R s m args below meth c Q C hl hn K lsM H locs cells slots hL hP hS h1 h2
  have he := kws_get (dA := dA) (base := base) ho.2
  rw [kcell_i ho.1 (Or.inr (Or.inl rfl))] at he
  show W p l' e R s m args below meth c H locs cells slots Q (F0 m pc lsM (Value.int x :: Value.int i :: Value.ref (kadr base sA l) :: kst base sA st))
  rw [kadr_k (by rw [ho.1]; decide)]
  exact va_cast C.1.1 C.1.2.1 C.2.1.1.1 hP.1 kws_D hS l 2 he rfl hi hd fun H1 locs1 a1 _ a3 =>
    kW_size (h := ksI h l i.toNatClampNeg (vp_nar .char x)) (by rw [← C.2.2.2.2.2]; exact C.2.2.2.2.1) h1 (by rw [← kset_i ho.1 (Or.inr (Or.inl rfl))]; exact a1) (by rw [← C.2.2.2.2.2]; exact a3.1) fun hP2 =>
    k.2 nF n0 D dA base sA H0 p l' e R s m args below meth c Q C hl hn K lsM H1 locs1 cells slots hL hP2 a3 h1 h2
theorem r_last {l q : Nat} {i : Int32} {x : Int64} (hd : decode cc pc = .ok (.lastore, 1)) (hq : pc + 1 = q) (ho : kkind l = 21 ∧ l < h.1) (hi : vp_in i (klen l)) (k : KS Z own cc nL ini d q ls st (ksL h l i.toNatClampNeg x) pc9 ls9 st9 h9) : KS Z own cc nL ini d pc ls (.long x :: .int i :: .ref l :: st) h pc9 ls9 st9 h9 := by
  refine ⟨k.1, ?_⟩
  subst hq
  intro nF n0 D dA base sA H0 p l' e R s m args below meth c Q C hl hn K lsM H locs cells slots hL hP hS h1 h2
  have he := kws_get (dA := dA) (base := base) ho.2
  rw [kcell_l ho.1] at he
  have hset : (kws dA base h).set l (base + l, .inl (dA 21, klen l, .inr (.inl (vp_updL (kL h l) i.toNatClampNeg x)))) = kws dA base (ksL h l i.toNatClampNeg x) :=
    kws_set rfl (by rw [kcell_l ho.1, kL_upd]) (kcell_other (fun _ _ _ => rfl) (fun a b z => by rw [kL_sL, if_neg (fun y => z y.1)]) (fun _ _ _ => rfl))
  show W p l' e R s m args below meth c H locs cells slots Q (F0 m pc lsM (Value.long x :: Value.int i :: Value.ref (kadr base sA l) :: kst base sA st))
  rw [kadr_k (by rw [ho.1]; decide)]
  exact va_last C.1.1 C.1.2.1 C.2.1.1.1 hP.1 kws_D hS l 1 he rfl hi hd fun H1 locs1 a1 _ a3 =>
    kW_size (h := ksL h l i.toNatClampNeg x) (by rw [← C.2.2.2.2.2]; exact C.2.2.2.2.1) h1 (by rw [← hset]; exact a1) (by rw [← C.2.2.2.2.2]; exact a3.1) fun hP2 =>
    k.2 nF n0 D dA base sA H0 p l' e R s m args below meth c Q C hl hn K lsM H1 locs1 cells slots hL hP2 a3 h1 h2
end KR
