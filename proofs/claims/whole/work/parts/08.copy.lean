/-! System.arraycopy of ints -/
def kcp (h : KH) (l0 sp l1 dp n : Nat) : KH := (h.1, fun a b => if a = l1 ∧ dp ≤ b ∧ b < dp + n then kI h l0 (sp + (b - dp)) else h.2.1 a b, h.2.2.1, h.2.2.2)
section KR
variable {Z : Nat → (Nat → Nat) → State → Prop} {own : String} {cc : ByteArray} {nL : Nat} {ini : Bool} {d pc : Nat} {ls : List (Nat × Value)} {st : List Value} {h : KH} {pc9 : Nat} {ls9 : List (Nat × Value)} {st9 : List Value} {h9 : KH}
theorem r_copy {l0 l1 q i : Nat} {sp dp n : Int32} (hd : decode cc pc = .ok (.invokestatic i, 3)) (hq : pc + 3 = q) (hw : Cond.methodLink own i arraycopyName ∈ ktG ∧ Cond.native arraycopyName ∈ ktG ∧ Cond.static arraycopyName ∈ ktG ∧ Cond.initialized "java/lang/System" ∈ ktG) (hdd : 1 ≤ d) (hcat : (st.map fun v => v.category).sum ≤ 8) (ho0 : kkind l0 = 20 ∧ l0 < h.1) (ho : kkind l1 = 20 ∧ l1 < h.1)
    (hb : ¬ sp < 0 ∧ ¬ dp < 0 ∧ ¬ n < 0 ∧ sp.toNatClampNeg + n.toNatClampNeg ≤ klen l0 ∧ dp.toNatClampNeg + n.toNatClampNeg ≤ klen l1) (k : KS Z own cc nL ini d q ls st (kcp h l0 sp.toNatClampNeg l1 dp.toNatClampNeg n.toNatClampNeg) pc9 ls9 st9 h9) : KS Z own cc nL ini d pc ls (.int n :: .int dp :: .ref l1 :: .int sp :: .ref l0 :: st) h pc9 ls9 st9 h9 := by
  refine ⟨k.1, ?_⟩
  subst hq
  intro nF n0 D dA base sA H0 p l' e R s m args below meth c Q C hl hn K lsM H locs cells slots hL hP hS h1 h2
  obtain ⟨g1, g2, g3, g4⟩ := C.2.2.2.1
  have he0 := kws_get (dA := dA) (base := base) ho0.2
  rw [kcell_i ho0.1 (Or.inl rfl)] at he0
  have he := kws_get (dA := dA) (base := base) ho.2
  rw [kcell_i ho.1 (Or.inl rfl)] at he
  have hset : (kws dA base h).set l1 (base + l1, .inl (dA 20, klen l1, .inl (va_cpy (kI h l0) (kI h l1) sp.toNatClampNeg dp.toNatClampNeg n.toNatClampNeg))) = kws dA base (kcp h l0 sp.toNatClampNeg l1 dp.toNatClampNeg n.toNatClampNeg) := by
    refine kws_set rfl ?_ (kcell_other (fun a b z => ?_) (fun _ _ _ => rfl) (fun _ _ _ => rfl))
    · rw [kcell_i ho.1 (Or.inl rfl)]
      congr 4
      funext b
      simp [kI, kcp, va_cpy]
    · show (if a = l1 ∧ _ then _ else _) = _
      rw [if_neg (fun y => z y.1)]
      rfl
  show W p l' e R s m args below meth c H locs cells slots Q (F0 m pc lsM (Value.int n :: Value.int dp :: Value.ref (kadr base sA l1) :: Value.int sp :: Value.ref (kadr base sA l0) :: kst base sA st))
  rw [kadr_k (by rw [ho.1]; decide), kadr_k (by rw [ho0.1]; decide)]
  have hnw : nativeFrameWords "java/lang/System" "arraycopy" 5 ≤ 41 := by decide +kernel
  have hcs : ((kst base sA st).map fun v => v.category).sum ≤ 8 := by rw [kst_catsum]; exact hcat
  exact va_copyi C.1.1 C.1.2.1 (by rw [C.1.2.2.1]; exact hL.1.symm) C.1.2.2.2.1 (C.1.2.2.2.2 _ hw.1) (C.1.2.2.2.2 _ hw.2.1) (C.1.2.2.2.2 _ hw.2.2.1) (C.1.2.2.2.2 _ hw.2.2.2) C.2.1.1.1 hP.1 kws_D hS l0 l1 0 0 he0 he rfl rfl rfl hb.1 hb.2.1 hb.2.2.1 hb.2.2.2.1 hb.2.2.2.2 (fun _ _ => rfl) (by omega) (by omega) hd fun H1 locs1 a1 _ a3 =>
    kW_size (h := kcp h l0 sp.toNatClampNeg l1 dp.toNatClampNeg n.toNatClampNeg) (by rw [← C.2.2.2.2.2]; exact C.2.2.2.2.1) h1 (by rw [← hset]; exact a1) (by rw [← C.2.2.2.2.2]; exact a3.1) fun hP2 =>
    k.2 nF n0 D dA base sA H0 p l' e R s m args below meth c Q C hl hn K lsM H1 locs1 cells slots hL hP2 a3 h1 h2
end KR
