/-! the two String constants: KZs, and String's methods at them -/
def klens : List Nat := [111, 27]
def kbyts : List (List Int32) := [[107, 105, 110, 100, 32, 108, 111, 118, 101, 32, 119, 105, 116, 32, 116, 114, 117, 101, 32, 102, 97, 108, 115, 101, 32, 116, 101, 115, 116, 32, 104, 97, 114, 109, 32, 109, 97, 114, 107, 32, 121, 105, 101, 108, 100, 115, 32, 102, 105, 114, 115, 116, 32, 112, 114, 105, 99, 101, 32, 104, 101, 97, 114, 100, 32, 116, 114, 117, 116, 104, 32, 110, 117, 109, 98, 101, 114, 32, 109, 101, 114, 105, 116, 32, 115, 117, 114, 101, 32, 111, 114, 32, 97, 110, 100, 32, 110, 111, 116, 32, 97, 108, 108, 32, 109, 105, 110, 32, 109, 97, 120], [108, 97, 115, 116, 32, 111, 102, 116, 101, 110, 32, 116, 111, 116, 97, 108, 32, 109, 111, 115, 116, 32, 108, 101, 97, 115, 116]]
/-- what a frame's start says of String constants, of String's statics, of the script (at label 1000030), of the array classes -/
def KZs (xs : Nat → Int32) (L : Nat) (base : Nat) (sA : Nat → Nat) (U : State) : Prop :=
  vk_S 2 klens kbyts (fun i => sA (1000000 + i)) (fun i => sA (1000010 + i)) (fun q => base ≤ q) U U.heap ∧ (vk_R "KingsTest$Reader" 41 "kind love wit true false test harm mark yields first price heard truth number merit sure or and not all min max" (sA 1000000) U ∧ vk_R "KingsTest$Reader" 47 "last often total most least" (sA 1000001) U) ∧
  (va_Z "java/lang/String" "COMPACT_STRINGS" "Z" (.int 1) (fun q => base ≤ q) U U.heap ∧ (va_Z "jdk/internal/util/Preconditions" "SIOOBE_FORMATTER" "Ljava/util/function/BiFunction;" .null (fun q => base ≤ q) U U.heap ∨ va_Z "jdk/internal/util/Preconditions" "SIOOBE_FORMATTER" "Ljava/util/function/BiFunction;" (.ref (sA 1000020)) (fun q => base ≤ q) U U.heap)) ∧
  (va_X (sA 1000030) L xs U U.heap ∧ sA 1000030 < base) ∧ va_AO RX8 U ∧ (Cond.arrayOver (.array .int)).before #[] U = true
theorem kao_moved {u U : State} (hvm : u.vm.Alike U.vm) (h : (Cond.arrayOver (.array .int)).before #[] u = true) : (Cond.arrayOver (.array .int)).before #[] U = true := by
  obtain ⟨comp, c, k, h1, h2, h3, h4, h5⟩ := arrayOverA_spec h
  obtain ⟨k', hk', he⟩ := hvm.2.2 _ _ h3
  have hi : (U.vm.classes.findIdx? fun (x : Class) => match x.kind with | .array component _ => component == comp | _ => false) = some c := by
    have e1 := va_idx_bare U.vm comp
    have e2 := va_idx_bare u.vm comp
    have e3 : U.vm.bare = u.vm.bare := by first | exact hvm.bare_eq | exact hvm.bare_eq.symm
    rw [e3] at e1
    exact (e1.symm.trans e2).trans h2
  have f1 : U.vm.findClass (FieldType.array .int).toString = some comp := by rw [hvm.findClass]; exact h1
  have f2 : U.vm.findClass ("[" ++ (FieldType.array .int).toString) = some c := by rw [hvm.findClass]; exact h5
  unfold Cond.before Cond.holds
  simp only [Cond.value]
  rw [f1, Option.bind_some]
  refine (congrArg (fun o : Option Nat => (o.bind (fun c => (U.vm.classes[c]?).map fun (k : Class) => match k.kind with | .array _ ty => decide (ty = FieldType.array .int) && decide (U.vm.findClass ("[" ++ (FieldType.array .int).toString) = some c) | _ => false) == some true)) hi).trans ?_
  have hkind : k'.kind = .array comp (.array .int) := by rw [he]; exact h4
  simp [hk', hkind, f2]
theorem KZs_ok (xs : Nat → Int32) (L : Nat) : KZok (KZs xs L) := by
  intro base sA s U ⟨h1, ⟨h2, h3⟩, ⟨h4, h5⟩, ⟨h6, h7⟩, h8, h9⟩ hvm hb hz hq
  have ha : s.vm.Alike U.vm := by
    rcases hvm with hW | he
    · exact hW.alike
    · rw [he]; exact Vm.Alike.refl U.vm
  have hk : ∀ a : Nat, a < s.heap.size → ¬ base ≤ a → U.heap[a]? = s.heap[a]? := fun a _ h => hq a (Nat.not_le.mp h)
  refine ⟨(h1.moved ha).kept hk, ⟨?_, ?_⟩, ⟨(h4.moved ha).kept hk, h5.imp (fun z => (z.moved ha).kept hk) (fun z => (z.moved ha).kept hk)⟩, ⟨(h6.moved ha).kept (hq _ h7), h7⟩, h8.moved ha, kao_moved ha h9⟩
  · rcases hvm with hW | he
    · exact h2.warm hW
    · exact h2.same he.symm
  · rcases hvm with hW | he
    · exact h3.warm hW
    · exact h3.same he.symm
def klab (k : Nat) : Nat := 1000000 + k
def kvlab (k : Nat) : Nat := 1000010 + k
theorem klab_x (k : Nat) : ¬ klab k < 999999 := by unfold klab; omega
theorem kvlab_x (k : Nat) : ¬ kvlab k < 999999 := by unfold kvlab; omega
theorem dJ0_length_8abf5_0 : decode cJ0_length_8abf5 0 = .ok (.aload_n 0, 1) := by decide +kernel
theorem dJ0_length_8abf5_1 : decode cJ0_length_8abf5 1 = .ok (.getfield 9, 3) := by decide +kernel
theorem dJ0_length_8abf5_4 : decode cJ0_length_8abf5 4 = .ok (.arraylength, 1) := by decide +kernel
theorem dJ0_length_8abf5_5 : decode cJ0_length_8abf5 5 = .ok (.aload_n 0, 1) := by decide +kernel
theorem dJ0_length_8abf5_6 : decode cJ0_length_8abf5 6 = .ok (.invokevirtual 335, 3) := by decide +kernel
theorem dJ0_length_8abf5_9 : decode cJ0_length_8abf5 9 = .ok (.ishr, 1) := by decide +kernel
theorem dJ0_length_8abf5_10 : decode cJ0_length_8abf5 10 = .ok (.ireturn, 1) := by decide +kernel
theorem dJ0_charAt_5068e_0 : decode cJ0_charAt_5068e 0 = .ok (.aload_n 0, 1) := by decide +kernel
theorem dJ0_charAt_5068e_1 : decode cJ0_charAt_5068e 1 = .ok (.invokevirtual 492, 3) := by decide +kernel
theorem dJ0_charAt_5068e_4 : decode cJ0_charAt_5068e 4 = .ok (.ifCond .eq 12, 3) := by decide +kernel
theorem dJ0_charAt_5068e_7 : decode cJ0_charAt_5068e 7 = .ok (.aload_n 0, 1) := by decide +kernel
theorem dJ0_charAt_5068e_8 : decode cJ0_charAt_5068e 8 = .ok (.getfield 9, 3) := by decide +kernel
theorem dJ0_charAt_5068e_11 : decode cJ0_charAt_5068e 11 = .ok (.iload_n 1, 1) := by decide +kernel
theorem dJ0_charAt_5068e_12 : decode cJ0_charAt_5068e 12 = .ok (.invokestatic 495, 3) := by decide +kernel
theorem dJ0_charAt_5068e_15 : decode cJ0_charAt_5068e 15 = .ok (.ireturn, 1) := by decide +kernel
theorem dJ0_charAt_5068e_16 : decode cJ0_charAt_5068e 16 = .ok (.aload_n 0, 1) := by decide +kernel
theorem dJ0_charAt_5068e_17 : decode cJ0_charAt_5068e 17 = .ok (.getfield 9, 3) := by decide +kernel
theorem dJ0_charAt_5068e_20 : decode cJ0_charAt_5068e 20 = .ok (.iload_n 1, 1) := by decide +kernel
theorem dJ0_charAt_5068e_21 : decode cJ0_charAt_5068e 21 = .ok (.invokestatic 498, 3) := by decide +kernel
theorem dJ0_charAt_5068e_24 : decode cJ0_charAt_5068e 24 = .ok (.ireturn, 1) := by decide +kernel
theorem dJ0_coder_7d493_0 : decode cJ0_coder_7d493 0 = .ok (.getstatic 38, 3) := by decide +kernel
theorem dJ0_coder_7d493_3 : decode cJ0_coder_7d493 3 = .ok (.ifCond .eq 10, 3) := by decide +kernel
theorem dJ0_coder_7d493_6 : decode cJ0_coder_7d493 6 = .ok (.aload_n 0, 1) := by decide +kernel
theorem dJ0_coder_7d493_7 : decode cJ0_coder_7d493 7 = .ok (.getfield 15, 3) := by decide +kernel
theorem dJ0_coder_7d493_10 : decode cJ0_coder_7d493 10 = .ok (.goto 4, 3) := by decide +kernel
theorem dJ0_coder_7d493_13 : decode cJ0_coder_7d493 13 = .ok (.iconst 1, 1) := by decide +kernel
theorem dJ0_coder_7d493_14 : decode cJ0_coder_7d493 14 = .ok (.ireturn, 1) := by decide +kernel
theorem dJ0_isLatin1_aae02_0 : decode cJ0_isLatin1_aae02 0 = .ok (.getstatic 38, 3) := by decide +kernel
theorem dJ0_isLatin1_aae02_3 : decode cJ0_isLatin1_aae02 3 = .ok (.ifCond .eq 14, 3) := by decide +kernel
theorem dJ0_isLatin1_aae02_6 : decode cJ0_isLatin1_aae02 6 = .ok (.aload_n 0, 1) := by decide +kernel
theorem dJ0_isLatin1_aae02_7 : decode cJ0_isLatin1_aae02 7 = .ok (.getfield 15, 3) := by decide +kernel
theorem dJ0_isLatin1_aae02_10 : decode cJ0_isLatin1_aae02 10 = .ok (.ifCond .ne 7, 3) := by decide +kernel
theorem dJ0_isLatin1_aae02_13 : decode cJ0_isLatin1_aae02 13 = .ok (.iconst 1, 1) := by decide +kernel
theorem dJ0_isLatin1_aae02_14 : decode cJ0_isLatin1_aae02 14 = .ok (.goto 4, 3) := by decide +kernel
theorem dJ0_isLatin1_aae02_17 : decode cJ0_isLatin1_aae02 17 = .ok (.iconst 0, 1) := by decide +kernel
theorem dJ0_isLatin1_aae02_18 : decode cJ0_isLatin1_aae02 18 = .ok (.ireturn, 1) := by decide +kernel
theorem dJ0_checkIndex_df160_0 : decode cJ0_checkIndex_df160 0 = .ok (.iload_n 0, 1) := by decide +kernel
theorem dJ0_checkIndex_df160_1 : decode cJ0_checkIndex_df160 1 = .ok (.iload_n 1, 1) := by decide +kernel
theorem dJ0_checkIndex_df160_2 : decode cJ0_checkIndex_df160 2 = .ok (.getstatic 1053, 3) := by decide +kernel
theorem dJ0_checkIndex_df160_5 : decode cJ0_checkIndex_df160 5 = .ok (.invokestatic 1059, 3) := by decide +kernel
theorem dJ0_checkIndex_df160_8 : decode cJ0_checkIndex_df160 8 = .ok (.pop, 1) := by decide +kernel
theorem dJ0_checkIndex_df160_9 : decode cJ0_checkIndex_df160 9 = .ok (.return_, 1) := by decide +kernel
theorem dJ1_charAt_3b067_0 : decode cJ1_charAt_3b067 0 = .ok (.iload_n 1, 1) := by decide +kernel
theorem dJ1_charAt_3b067_1 : decode cJ1_charAt_3b067 1 = .ok (.aload_n 0, 1) := by decide +kernel
theorem dJ1_charAt_3b067_2 : decode cJ1_charAt_3b067 2 = .ok (.arraylength, 1) := by decide +kernel
theorem dJ1_charAt_3b067_3 : decode cJ1_charAt_3b067 3 = .ok (.invokestatic 9, 3) := by decide +kernel
theorem dJ1_charAt_3b067_6 : decode cJ1_charAt_3b067 6 = .ok (.aload_n 0, 1) := by decide +kernel
theorem dJ1_charAt_3b067_7 : decode cJ1_charAt_3b067 7 = .ok (.iload_n 1, 1) := by decide +kernel
theorem dJ1_charAt_3b067_8 : decode cJ1_charAt_3b067 8 = .ok (.baload, 1) := by decide +kernel
theorem dJ1_charAt_3b067_9 : decode cJ1_charAt_3b067 9 = .ok (.sipush 255, 3) := by decide +kernel
theorem dJ1_charAt_3b067_12 : decode cJ1_charAt_3b067 12 = .ok (.iand, 1) := by decide +kernel
theorem dJ1_charAt_3b067_13 : decode cJ1_charAt_3b067 13 = .ok (.i2c, 1) := by decide +kernel
theorem dJ1_charAt_3b067_14 : decode cJ1_charAt_3b067 14 = .ok (.ireturn, 1) := by decide +kernel
theorem dJ3_checkIndex_8e157_0 : decode cJ3_checkIndex_8e157 0 = .ok (.iload_n 0, 1) := by decide +kernel
theorem dJ3_checkIndex_8e157_1 : decode cJ3_checkIndex_8e157 1 = .ok (.ifCond .lt 8, 3) := by decide +kernel
theorem dJ3_checkIndex_8e157_4 : decode cJ3_checkIndex_8e157 4 = .ok (.iload_n 0, 1) := by decide +kernel
theorem dJ3_checkIndex_8e157_5 : decode cJ3_checkIndex_8e157 5 = .ok (.iload_n 1, 1) := by decide +kernel
theorem dJ3_checkIndex_8e157_6 : decode cJ3_checkIndex_8e157 6 = .ok (.if_icmp .lt 10, 3) := by decide +kernel
theorem dJ3_checkIndex_8e157_9 : decode cJ3_checkIndex_8e157 9 = .ok (.aload_n 2, 1) := by decide +kernel
theorem dJ3_checkIndex_8e157_10 : decode cJ3_checkIndex_8e157 10 = .ok (.iload_n 0, 1) := by decide +kernel
theorem dJ3_checkIndex_8e157_11 : decode cJ3_checkIndex_8e157 11 = .ok (.iload_n 1, 1) := by decide +kernel
theorem dJ3_checkIndex_8e157_12 : decode cJ3_checkIndex_8e157 12 = .ok (.invokestatic 95, 3) := by decide +kernel
theorem dJ3_checkIndex_8e157_15 : decode cJ3_checkIndex_8e157 15 = .ok (.athrow, 1) := by decide +kernel
theorem dJ3_checkIndex_8e157_16 : decode cJ3_checkIndex_8e157 16 = .ok (.iload_n 0, 1) := by decide +kernel
theorem dJ3_checkIndex_8e157_17 : decode cJ3_checkIndex_8e157 17 = .ok (.ireturn, 1) := by decide +kernel
theorem kc_RJ0_335 : Cond.methodLink RJ0 335 yJ0_coder_7d493 ∈ ktG ∧ (Cond.instanceMethod yJ0_coder_7d493 ∈ ktG ∧ Cond.selects yJ0_coder_7d493.cls yJ0_coder_7d493 yJ0_coder_7d493 ∈ ktG) ∧ Cond.initialized yJ0_coder_7d493.cls ∈ ktG ∧ Cond.code yJ0_coder_7d493 cJ0_coder_7d493 1 (some .byte) ∈ ktG := ⟨(kwm 225 (by decide +kernel) (by decide +kernel)), ⟨(kwm 226 (by decide +kernel) (by decide +kernel)), (kwm 227 (by decide +kernel) (by decide +kernel))⟩, (kwm 128 (by decide +kernel) (by decide +kernel)), kwm 228 (by decide +kernel) (by decide +kernel)⟩
theorem kc_RJ0_492 : Cond.methodLink RJ0 492 yJ0_isLatin1_aae02 ∈ ktG ∧ (Cond.instanceMethod yJ0_isLatin1_aae02 ∈ ktG ∧ Cond.selects yJ0_isLatin1_aae02.cls yJ0_isLatin1_aae02 yJ0_isLatin1_aae02 ∈ ktG) ∧ Cond.initialized yJ0_isLatin1_aae02.cls ∈ ktG ∧ Cond.code yJ0_isLatin1_aae02 cJ0_isLatin1_aae02 1 (some .boolean) ∈ ktG := ⟨(kwm 235 (by decide +kernel) (by decide +kernel)), ⟨(kwm 236 (by decide +kernel) (by decide +kernel)), (kwm 237 (by decide +kernel) (by decide +kernel))⟩, (kwm 128 (by decide +kernel) (by decide +kernel)), kwm 238 (by decide +kernel) (by decide +kernel)⟩
theorem kc_RJ0_495 : Cond.methodLink RJ0 495 yJ1_charAt_3b067 ∈ ktG ∧ Cond.static yJ1_charAt_3b067 ∈ ktG ∧ Cond.initialized yJ1_charAt_3b067.cls ∈ ktG ∧ Cond.code yJ1_charAt_3b067 cJ1_charAt_3b067 2 (some .char) ∈ ktG := ⟨(kwm 239 (by decide +kernel) (by decide +kernel)), (kwm 240 (by decide +kernel) (by decide +kernel)), (kwm 129 (by decide +kernel) (by decide +kernel)), kwm 241 (by decide +kernel) (by decide +kernel)⟩
theorem kc_RJ1_9 : Cond.methodLink RJ1 9 yJ0_checkIndex_df160 ∈ ktG ∧ Cond.static yJ0_checkIndex_df160 ∈ ktG ∧ Cond.initialized yJ0_checkIndex_df160.cls ∈ ktG ∧ Cond.code yJ0_checkIndex_df160 cJ0_checkIndex_df160 2 none ∈ ktG := ⟨(kwm 242 (by decide +kernel) (by decide +kernel)), (kwm 243 (by decide +kernel) (by decide +kernel)), (kwm 128 (by decide +kernel) (by decide +kernel)), kwm 244 (by decide +kernel) (by decide +kernel)⟩
theorem kc_RJ0_1059 : Cond.methodLink RJ0 1059 yJ3_checkIndex_8e157 ∈ ktG ∧ Cond.static yJ3_checkIndex_8e157 ∈ ktG ∧ Cond.initialized yJ3_checkIndex_8e157.cls ∈ ktG ∧ Cond.code yJ3_checkIndex_8e157 cJ3_checkIndex_8e157 3 (some .int) ∈ ktG := ⟨(kwm 247 (by decide +kernel) (by decide +kernel)), (kwm 248 (by decide +kernel) (by decide +kernel)), (kwm 130 (by decide +kernel) (by decide +kernel)), kwm 249 (by decide +kernel) (by decide +kernel)⟩
theorem kh_J0_length_8abf5 : yJ0_length_8abf5.cls ≠ "java/lang/invoke/MethodHandle" ∧ yJ0_length_8abf5.cls ≠ "java/lang/invoke/VarHandle" ∧ (parseMethodDescriptor yJ0_length_8abf5.desc).map (fun d => d.parameters.length) = some 0 := by decide +kernel
theorem kh_J0_charAt_5068e : yJ0_charAt_5068e.cls ≠ "java/lang/invoke/MethodHandle" ∧ yJ0_charAt_5068e.cls ≠ "java/lang/invoke/VarHandle" ∧ (parseMethodDescriptor yJ0_charAt_5068e.desc).map (fun d => d.parameters.length) = some 1 := by decide +kernel
theorem kh_J0_coder_7d493 : yJ0_coder_7d493.cls ≠ "java/lang/invoke/MethodHandle" ∧ yJ0_coder_7d493.cls ≠ "java/lang/invoke/VarHandle" ∧ (parseMethodDescriptor yJ0_coder_7d493.desc).map (fun d => d.parameters.length) = some 0 := by decide +kernel
theorem kh_J0_isLatin1_aae02 : yJ0_isLatin1_aae02.cls ≠ "java/lang/invoke/MethodHandle" ∧ yJ0_isLatin1_aae02.cls ≠ "java/lang/invoke/VarHandle" ∧ (parseMethodDescriptor yJ0_isLatin1_aae02.desc).map (fun d => d.parameters.length) = some 0 := by decide +kernel
theorem kh_J0_checkIndex_df160 : yJ0_checkIndex_df160.cls ≠ "java/lang/invoke/MethodHandle" ∧ yJ0_checkIndex_df160.cls ≠ "java/lang/invoke/VarHandle" ∧ (parseMethodDescriptor yJ0_checkIndex_df160.desc).map (fun d => d.parameters.length) = some 2 := by decide +kernel
theorem kh_J1_charAt_3b067 : yJ1_charAt_3b067.cls ≠ "java/lang/invoke/MethodHandle" ∧ yJ1_charAt_3b067.cls ≠ "java/lang/invoke/VarHandle" ∧ (parseMethodDescriptor yJ1_charAt_3b067.desc).map (fun d => d.parameters.length) = some 2 := by decide +kernel
theorem kh_J3_checkIndex_8e157 : yJ3_checkIndex_8e157.cls ≠ "java/lang/invoke/MethodHandle" ∧ yJ3_checkIndex_8e157.cls ≠ "java/lang/invoke/VarHandle" ∧ (parseMethodDescriptor yJ3_checkIndex_8e157.desc).map (fun d => d.parameters.length) = some 3 := by decide +kernel
theorem kq_value : Cond.fieldLink RJ0 9 "java/lang/String" "value" "[B" ∈ ktG := kwm 2020 (by decide +kernel) (by decide +kernel)
theorem kq_coder : Cond.fieldLink RJ0 15 "java/lang/String" "coder" "B" ∈ ktG := kwm 2021 (by decide +kernel) (by decide +kernel)
theorem kq_cs : Cond.fieldLink RJ0 38 "java/lang/String" "COMPACT_STRINGS" "Z" ∈ ktG := kwm 229 (by decide +kernel) (by decide +kernel)
theorem kq_fm : Cond.fieldLink RJ0 1053 "jdk/internal/util/Preconditions" "SIOOBE_FORMATTER" "Ljava/util/function/BiFunction;" ∈ ktG := kwm 245 (by decide +kernel) (by decide +kernel)
/-- a static that is null or a reference: both ways on -/
theorem r_getsQ {Z : Nat → (Nat → Nat) → State → Prop} {own : String} {cc : ByteArray} {nL : Nat} {ini : Bool} {d pc : Nat} {ls : List (Nat × Value)} {st : List Value} {h : KH} {pc9 : Nat} {ls9 : List (Nat × Value)} {st9 : List Value} {h9 : KH} {i q lab : Nat} {ref n dd : String} (hd : decode cc pc = .ok (.getstatic i, 3)) (hq : pc + 3 = q) (hl9 : ¬ lab < 999999) (hw : Cond.fieldLink own i ref n dd ∈ ktG) (hz : ∀ (base : Nat) (sA : Nat → Nat) (U : State), Z base sA U → va_Z ref n dd .null (fun q => base ≤ q) U U.heap ∨ va_Z ref n dd (.ref (sA lab)) (fun q => base ≤ q) U U.heap) (k1 : KS Z own cc nL ini d q ls (.null :: st) h pc9 ls9 st9 h9) (k2 : KS Z own cc nL ini d q ls (.ref lab :: st) h pc9 ls9 st9 h9) : KS Z own cc nL ini d pc ls st h pc9 ls9 st9 h9 := by
  refine ⟨k1.1, ?_⟩
  subst hq
  intro nF n0 D dA base sA H0 p l' e R s m args below meth c Q C hl hn K lsM H locs cells slots hL hP hS h1 h2
  rcases hz base sA s C.2.1.1.2.2.2 with z | z
  · exact va_gets C.1.1 C.1.2.1 z (by rw [← C.2.2.2.2.2]; exact hS) C.1.2.2.2.1 (C.1.2.2.2.2 _ hw) (fun _ z => z) hd (k1.2 nF n0 D dA base sA H0 p l' e R s m args below meth c Q C hl hn K lsM H locs cells slots hL hP hS h1 h2)
  · have hkk := k2.2 nF n0 D dA base sA H0 p l' e R s m args below meth c Q C hl hn K lsM H locs cells slots hL hP hS h1 h2
    have e9 : kst base sA (.ref lab :: st) = .ref (sA lab) :: kst base sA st := by
      show Value.ref (kadr base sA lab) :: kst base sA st = _
      rw [kadr_x hl9]
    rw [e9] at hkk
    exact va_gets C.1.1 C.1.2.1 z (by rw [← C.2.2.2.2.2]; exact hS) C.1.2.2.2.1 (C.1.2.2.2.2 _ hw) (fun _ z => z) hd hkk
section KSTR
variable {xs : Nat → Int32} {L : Nat} {k : Nat}
theorem kz_recv (hk : k < 2) : ∀ (base : Nat) (sA : Nat → Nat) (s : State) (H : Heap) (locs : List Loc), KZs xs L base sA s → va_S (fun q => base ≤ q) s.heap H locs → ∃ cell : Cell, H[kadr base sA (klab k)]? = some cell ∧ cell.vm.isStatics = false ∧ s.vm.findClass "java/lang/String" = some cell.cls := fun base sA s H locs hZ hS => by
  rw [kadr_x (klab_x k)]
  exact vk_recv (adK := fun i => sA (1000000 + i)) (i := k) hZ.1 hk hS
theorem kz_coder (hk : k < 2) : ∀ (base : Nat) (sA : Nat → Nat) (U : State), KZs xs L base sA U → va_OF "java/lang/String" "coder" "B" (kv base sA (.int 0)) (sA (klab k)) (fun q => base ≤ q) U U.heap := fun base sA U hZ => (hZ.1.1 k hk).2.1
theorem kz_value (hk : k < 2) : ∀ (base : Nat) (sA : Nat → Nat) (U : State), KZs xs L base sA U → va_OF "java/lang/String" "value" "[B" (kv base sA (.ref (kvlab k))) (sA (klab k)) (fun q => base ≤ q) U U.heap := fun base sA U hZ => by
  have := (hZ.1.1 k hk).2.2.1
  show va_OF _ _ _ (.ref (kadr base sA (kvlab k))) _ _ _ _
  rw [kadr_x (kvlab_x k)]
  exact this
theorem kz_bytes (hk : k < 2) : ∀ (base : Nat) (sA : Nat → Nat) (U : State), KZs xs L base sA U → va_T .byte (sA (kvlab k)) (klens.getD k 0) (fun j => .int ((kbyts.getD k []).getD j 0)) (fun q => base ≤ q) U U.heap := fun base sA U hZ => (hZ.1.1 k hk).2.2.2
theorem s_coder (hk : k < 2) (h : KH) : KM (KZs xs L) yJ0_coder_7d493 cJ0_coder_7d493 1 (some .byte) 1 [.ref (klab k)] h (some (.int 0)) h := by
  refine kx_n (own := RJ0) (by decide +kernel) (by decide +kernel) rfl (Nat.le_of_ble_eq_true rfl) rfl ?_
  refine x_gets (q := 3) (v := .int 1) dJ0_coder_7d493_0 rfl kq_cs (fun base sA U hZ => hZ.2.2.1.1) ?_
  refine x_if_eq_f (q := 6) dJ0_coder_7d493_3 (t := 13) (by decide) rfl (by decide) ?_
  refine x_aload_n (q := 7) (x := klab k) dJ0_coder_7d493_6 rfl rfl ?_
  refine x_getX (q := 10) (v := .int 0) dJ0_coder_7d493_7 rfl (klab_x k) kq_coder (kz_coder hk) ?_
  refine x_goto (q := 14) dJ0_coder_7d493_10 (by decide) ?_
  exact x_end ⟨dJ0_coder_7d493_14, rfl, rfl⟩
theorem s_isLatin1 (hk : k < 2) (h : KH) : KM (KZs xs L) yJ0_isLatin1_aae02 cJ0_isLatin1_aae02 1 (some .boolean) 1 [.ref (klab k)] h (some (.int 1)) h := by
  refine kx_n (own := RJ0) (by decide +kernel) (by decide +kernel) rfl (Nat.le_of_ble_eq_true rfl) (by decide) ?_
  refine x_gets (q := 3) (v := .int 1) dJ0_isLatin1_aae02_0 rfl kq_cs (fun base sA U hZ => hZ.2.2.1.1) ?_
  refine x_if_eq_f (q := 6) dJ0_isLatin1_aae02_3 (t := 17) (by decide) rfl (by decide) ?_
  refine x_aload_n (q := 7) (x := klab k) dJ0_isLatin1_aae02_6 rfl rfl ?_
  refine x_getX (q := 10) (v := .int 0) dJ0_isLatin1_aae02_7 rfl (klab_x k) kq_coder (kz_coder hk) ?_
  refine x_if_ne_f (q := 13) dJ0_isLatin1_aae02_10 (t := 17) (by decide) rfl rfl ?_
  refine x_iconst (q := 14) (v := 1) dJ0_isLatin1_aae02_13 rfl (by decide) ?_
  refine x_goto (q := 18) dJ0_isLatin1_aae02_14 (by decide) ?_
  exact x_end ⟨dJ0_isLatin1_aae02_18, rfl, rfl⟩
theorem s_strlen0 (hk : k < 2) (h : KH) : KM (KZs xs L) yJ0_length_8abf5 cJ0_length_8abf5 1 (some .int) 2 [.ref (klab k)] h (some (.int (Int32.ofNat (klens.getD k 0) >>> ((0 : Int32) &&& 31)))) h := by
  refine kx_i (own := RJ0) (ini := false) (by decide +kernel) (by decide +kernel) rfl (Nat.le_of_ble_eq_true rfl) ?_
  refine x_aload_n (q := 1) (x := klab k) dJ0_length_8abf5_0 rfl rfl ?_
  refine x_getX (q := 4) (v := .ref (kvlab k)) dJ0_length_8abf5_1 rfl (klab_x k) kq_value (kz_value hk) ?_
  refine x_alenX (q := 5) dJ0_length_8abf5_4 rfl (kvlab_x k) (kz_bytes hk) ?_
  refine x_aload_n (q := 6) (x := klab k) dJ0_length_8abf5_5 rfl rfl ?_
  refine x_callVX (q := 9) (as := []) (rest := [.int (Int32.ofNat (klens.getD k 0))]) dJ0_length_8abf5_6 rfl kc_RJ0_335 kh_J0_coder_7d493 (by decide) (Nat.le_of_ble_eq_true rfl) (s_coder hk h) (kz_recv hk) ?_
  refine x_ishr (q := 10) dJ0_length_8abf5_9 rfl ?_
  exact x_end ⟨dJ0_length_8abf5_10, rfl, rfl⟩
theorem s_pidx (h : KH) (i n : Int32) (f : Nat) (h1 : ¬ i < 0) (h2 : i < n) : KM (KZs xs L) yJ3_checkIndex_8e157 cJ3_checkIndex_8e157 3 (some .int) 1 [.int i, .int n, .ref f] h (some (.int i)) h := by
  refine kx_i (own := RJ3) (ini := false) (by decide +kernel) (by decide +kernel) rfl (Nat.le_of_ble_eq_true rfl) ?_
  refine x_iload_n (q := 1) (x := i) dJ3_checkIndex_8e157_0 rfl rfl ?_
  refine x_if_lt_f (q := 4) dJ3_checkIndex_8e157_1 (t := 9) (by decide) rfl h1 ?_
  refine x_iload_n (q := 5) (x := i) dJ3_checkIndex_8e157_4 rfl rfl ?_
  refine x_iload_n (q := 6) (x := n) dJ3_checkIndex_8e157_5 rfl rfl ?_
  refine x_icmp_lt_t (q := 16) dJ3_checkIndex_8e157_6 (by decide) h2 ?_
  refine x_iload_n (q := 17) (x := i) dJ3_checkIndex_8e157_16 rfl rfl ?_
  exact x_end ⟨dJ3_checkIndex_8e157_17, rfl, rfl⟩
theorem s_pidxN (h : KH) (i n : Int32) (h1 : ¬ i < 0) (h2 : i < n) : KM (KZs xs L) yJ3_checkIndex_8e157 cJ3_checkIndex_8e157 3 (some .int) 1 [.int i, .int n, .null] h (some (.int i)) h := by
  refine kx_i (own := RJ3) (ini := false) (by decide +kernel) (by decide +kernel) rfl (Nat.le_of_ble_eq_true rfl) ?_
  refine x_iload_n (q := 1) (x := i) dJ3_checkIndex_8e157_0 rfl rfl ?_
  refine x_if_lt_f (q := 4) dJ3_checkIndex_8e157_1 (t := 9) (by decide) rfl h1 ?_
  refine x_iload_n (q := 5) (x := i) dJ3_checkIndex_8e157_4 rfl rfl ?_
  refine x_iload_n (q := 6) (x := n) dJ3_checkIndex_8e157_5 rfl rfl ?_
  refine x_icmp_lt_t (q := 16) dJ3_checkIndex_8e157_6 (by decide) h2 ?_
  refine x_iload_n (q := 17) (x := i) dJ3_checkIndex_8e157_16 rfl rfl ?_
  exact x_end ⟨dJ3_checkIndex_8e157_17, rfl, rfl⟩
theorem s_sidx (h : KH) (i n : Int32) (h1 : ¬ i < 0) (h2 : i < n) : KM (KZs xs L) yJ0_checkIndex_df160 cJ0_checkIndex_df160 2 none 2 [.int i, .int n] h none h := by
  refine kx_v (own := RJ0) (ini := false) (by decide +kernel) (by decide +kernel) rfl (Nat.le_of_ble_eq_true rfl) ?_
  refine x_iload_n (q := 1) (x := i) dJ0_checkIndex_df160_0 rfl rfl ?_
  refine x_iload_n (q := 2) (x := n) dJ0_checkIndex_df160_1 rfl rfl ?_
  refine ⟨9, [(0, .int i), (1, .int n)], [], h, ⟨dJ0_checkIndex_df160_9, rfl, rfl⟩, ?_⟩
  refine r_getsQ (q := 5) (lab := 1000020) dJ0_checkIndex_df160_2 rfl (by decide) kq_fm (fun base sA U hZ => hZ.2.2.1.2) ?_ ?_
  · refine r_callS (q := 8) (as := [.int i, .int n, .null]) (rest := []) dJ0_checkIndex_df160_5 rfl kc_RJ0_1059 kh_J3_checkIndex_8e157 (by decide) (Nat.le_of_ble_eq_true rfl) (s_pidxN h i n h1 h2) ?_
    exact r_pop (q := 9) dJ0_checkIndex_df160_8 rfl rfl r_end
  · refine r_callS (q := 8) (as := [.int i, .int n, .ref 1000020]) (rest := []) dJ0_checkIndex_df160_5 rfl kc_RJ0_1059 kh_J3_checkIndex_8e157 (by decide) (Nat.le_of_ble_eq_true rfl) (s_pidx h i n 1000020 h1 h2) ?_
    exact r_pop (q := 9) dJ0_checkIndex_df160_8 rfl rfl r_end
/-- a byte of the constants, as a char -/
theorem kbyt_c : ∀ a ∈ kbyts, ∀ b ∈ a, ((b &&& 255).toUInt32 % 65536).toInt32 = b ∧ narrow .char (.int b) = .int b := by decide +kernel
theorem s_lchar (hk : k < 2) (h : KH) (i : Int32) (hi : vp_in i (klens.getD k 0)) (hlt : i < Int32.ofNat (klens.getD k 0)) (hm : (kbyts.getD k []).getD i.toNatClampNeg 0 ∈ kbyts.getD k [] ∧ kbyts.getD k [] ∈ kbyts) : KM (KZs xs L) yJ1_charAt_3b067 cJ1_charAt_3b067 2 (some .char) 3 [.ref (kvlab k), .int i] h (some (.int ((kbyts.getD k []).getD i.toNatClampNeg 0))) h := by
  obtain ⟨e1, e2⟩ := kbyt_c _ hm.2 _ hm.1
  refine kx_n (own := RJ1) (by decide +kernel) (by decide +kernel) rfl (Nat.le_of_ble_eq_true rfl) e2 ?_
  refine x_iload_n (q := 1) (x := i) dJ1_charAt_3b067_0 rfl rfl ?_
  refine x_aload_n (q := 2) (x := kvlab k) dJ1_charAt_3b067_1 rfl rfl ?_
  refine x_alenX (q := 3) dJ1_charAt_3b067_2 rfl (kvlab_x k) (kz_bytes hk) ?_
  refine x_callS (q := 6) (as := [.int i, .int (Int32.ofNat (klens.getD k 0))]) (rest := []) dJ1_charAt_3b067_3 rfl kc_RJ1_9 kh_J0_checkIndex_df160 (by decide) (Nat.le_of_ble_eq_true rfl) (s_sidx h i _ (fun z => hi (Or.inl z)) hlt) ?_
  refine x_aload_n (q := 7) (x := kvlab k) dJ1_charAt_3b067_6 rfl rfl ?_
  refine x_iload_n (q := 8) (x := i) dJ1_charAt_3b067_7 rfl rfl ?_
  refine x_baldX (q := 9) (f := fun j => (kbyts.getD k []).getD j 0) dJ1_charAt_3b067_8 rfl (kvlab_x k) (kz_bytes hk) hi ?_
  refine x_sipush (q := 12) (v := 255) dJ1_charAt_3b067_9 rfl (by decide) ?_
  refine x_iand (q := 13) dJ1_charAt_3b067_12 rfl ?_
  refine x_i2c (q := 14) dJ1_charAt_3b067_13 rfl ?_
  rw [e1]
  exact x_end ⟨dJ1_charAt_3b067_14, rfl, rfl⟩
theorem s_strchar0 (hk : k < 2) (h : KH) (i : Int32) (hi : vp_in i (klens.getD k 0)) (hlt : i < Int32.ofNat (klens.getD k 0)) (hm : (kbyts.getD k []).getD i.toNatClampNeg 0 ∈ kbyts.getD k [] ∧ kbyts.getD k [] ∈ kbyts) : KM (KZs xs L) yJ0_charAt_5068e cJ0_charAt_5068e 2 (some .char) 4 [.ref (klab k), .int i] h (some (.int ((kbyts.getD k []).getD i.toNatClampNeg 0))) h := by
  obtain ⟨e1, e2⟩ := kbyt_c _ hm.2 _ hm.1
  refine kx_n (own := RJ0) (by decide +kernel) (by decide +kernel) rfl (Nat.le_of_ble_eq_true rfl) e2 ?_
  refine x_aload_n (q := 1) (x := klab k) dJ0_charAt_5068e_0 rfl rfl ?_
  refine x_callVX (q := 4) (as := []) (rest := []) dJ0_charAt_5068e_1 rfl kc_RJ0_492 kh_J0_isLatin1_aae02 (by decide) (Nat.le_of_ble_eq_true rfl) (s_isLatin1 hk h) (kz_recv hk) ?_
  refine x_if_eq_f (q := 7) dJ0_charAt_5068e_4 (t := 16) (by decide) rfl (by decide) ?_
  refine x_aload_n (q := 8) (x := klab k) dJ0_charAt_5068e_7 rfl rfl ?_
  refine x_getX (q := 11) (v := .ref (kvlab k)) dJ0_charAt_5068e_8 rfl (klab_x k) kq_value (kz_value hk) ?_
  refine x_iload_n (q := 12) (x := i) dJ0_charAt_5068e_11 rfl rfl ?_
  refine x_callS (q := 15) (as := [.ref (kvlab k), .int i]) (rest := []) dJ0_charAt_5068e_12 rfl kc_RJ0_495 kh_J1_charAt_3b067 (by decide) (Nat.le_of_ble_eq_true rfl) (s_lchar hk h i hi hlt hm) ?_
  exact x_end ⟨dJ0_charAt_5068e_15, rfl, rfl⟩
end KSTR
