-- methods as functions, and that the machine does as they say (by wip/whole/gen_all.py): X3_readInto, X4_readQuestion, X11_court, X11_ask
theorem dX3_readInto_0 : decode cX3_readInto 0 = .ok (.aload_n 1, 1) := by decide +kernel
theorem dX3_readInto_1 : decode cX3_readInto 1 = .ok (.invokevirtual 19, 3) := by decide +kernel
theorem dX3_readInto_4 : decode cX3_readInto 4 = .ok (.aload_n 0, 1) := by decide +kernel
theorem dX3_readInto_5 : decode cX3_readInto 5 = .ok (.getfield 9, 3) := by decide +kernel
theorem dX3_readInto_8 : decode cX3_readInto 8 = .ok (.invokevirtual 24, 3) := by decide +kernel
theorem dX3_readInto_11 : decode cX3_readInto 11 = .ok (.iconst 0, 1) := by decide +kernel
theorem dX3_readInto_12 : decode cX3_readInto 12 = .ok (.istore_n 2, 1) := by decide +kernel
theorem dX3_readInto_13 : decode cX3_readInto 13 = .ok (.iload_n 2, 1) := by decide +kernel
theorem dX3_readInto_14 : decode cX3_readInto 14 = .ok (.bipush 60, 2) := by decide +kernel
theorem dX3_readInto_16 : decode cX3_readInto 16 = .ok (.if_icmp .ge 227, 3) := by decide +kernel
theorem dX3_readInto_19 : decode cX3_readInto 19 = .ok (.aload_n 0, 1) := by decide +kernel
theorem dX3_readInto_20 : decode cX3_readInto 20 = .ok (.getfield 9, 3) := by decide +kernel
theorem dX3_readInto_23 : decode cX3_readInto 23 = .ok (.invokevirtual 29, 3) := by decide +kernel
theorem dX3_readInto_26 : decode cX3_readInto 26 = .ok (.ifCond .eq 217, 3) := by decide +kernel
theorem dX3_readInto_29 : decode cX3_readInto 29 = .ok (.aload_n 0, 1) := by decide +kernel
theorem dX3_readInto_30 : decode cX3_readInto 30 = .ok (.getfield 9, 3) := by decide +kernel
theorem dX3_readInto_33 : decode cX3_readInto 33 = .ok (.invokevirtual 33, 3) := by decide +kernel
theorem dX3_readInto_36 : decode cX3_readInto 36 = .ok (.tableswitch 177 0 10 #[60, 177, 177, 177, 177, 68, 177, 76, 84, 144, 160], 60) := by decide +kernel
theorem dX3_readInto_96 : decode cX3_readInto 96 = .ok (.aload_n 0, 1) := by decide +kernel
theorem dX3_readInto_97 : decode cX3_readInto 97 = .ok (.aload_n 1, 1) := by decide +kernel
theorem dX3_readInto_98 : decode cX3_readInto 98 = .ok (.invokevirtual 37, 3) := by decide +kernel
theorem dX3_readInto_101 : decode cX3_readInto 101 = .ok (.goto 127, 3) := by decide +kernel
theorem dX3_readInto_104 : decode cX3_readInto 104 = .ok (.aload_n 0, 1) := by decide +kernel
theorem dX3_readInto_105 : decode cX3_readInto 105 = .ok (.aload_n 1, 1) := by decide +kernel
theorem dX3_readInto_106 : decode cX3_readInto 106 = .ok (.invokevirtual 41, 3) := by decide +kernel
theorem dX3_readInto_109 : decode cX3_readInto 109 = .ok (.goto 119, 3) := by decide +kernel
theorem dX3_readInto_112 : decode cX3_readInto 112 = .ok (.aload_n 0, 1) := by decide +kernel
theorem dX3_readInto_113 : decode cX3_readInto 113 = .ok (.aload_n 1, 1) := by decide +kernel
theorem dX3_readInto_114 : decode cX3_readInto 114 = .ok (.invokevirtual 44, 3) := by decide +kernel
theorem dX3_readInto_117 : decode cX3_readInto 117 = .ok (.goto 111, 3) := by decide +kernel
theorem dX3_readInto_120 : decode cX3_readInto 120 = .ok (.aload_n 1, 1) := by decide +kernel
theorem dX3_readInto_121 : decode cX3_readInto 121 = .ok (.getfield 47, 3) := by decide +kernel
theorem dX3_readInto_124 : decode cX3_readInto 124 = .ok (.ifCond .eq 21, 3) := by decide +kernel
theorem dX3_readInto_127 : decode cX3_readInto 127 = .ok (.aload_n 0, 1) := by decide +kernel
theorem dX3_readInto_128 : decode cX3_readInto 128 = .ok (.getfield 9, 3) := by decide +kernel
theorem dX3_readInto_131 : decode cX3_readInto 131 = .ok (.iconst 5, 1) := by decide +kernel
theorem dX3_readInto_132 : decode cX3_readInto 132 = .ok (.aload_n 0, 1) := by decide +kernel
theorem dX3_readInto_133 : decode cX3_readInto 133 = .ok (.getfield 9, 3) := by decide +kernel
theorem dX3_readInto_136 : decode cX3_readInto 136 = .ok (.getfield 51, 3) := by decide +kernel
theorem dX3_readInto_139 : decode cX3_readInto 139 = .ok (.invokevirtual 55, 3) := by decide +kernel
theorem dX3_readInto_142 : decode cX3_readInto 142 = .ok (.goto 86, 3) := by decide +kernel
theorem dX3_readInto_145 : decode cX3_readInto 145 = .ok (.aload_n 0, 1) := by decide +kernel
theorem dX3_readInto_146 : decode cX3_readInto 146 = .ok (.getfield 9, 3) := by decide +kernel
theorem dX3_readInto_149 : decode cX3_readInto 149 = .ok (.invokevirtual 59, 3) := by decide +kernel
theorem dX3_readInto_152 : decode cX3_readInto 152 = .ok (.aload_n 0, 1) := by decide +kernel
theorem dX3_readInto_153 : decode cX3_readInto 153 = .ok (.getfield 15, 3) := by decide +kernel
theorem dX3_readInto_156 : decode cX3_readInto 156 = .ok (.aload_n 1, 1) := by decide +kernel
theorem dX3_readInto_157 : decode cX3_readInto 157 = .ok (.getfield 62, 3) := by decide +kernel
theorem dX3_readInto_160 : decode cX3_readInto 160 = .ok (.iconst 0, 1) := by decide +kernel
theorem dX3_readInto_161 : decode cX3_readInto 161 = .ok (.invokevirtual 66, 3) := by decide +kernel
theorem dX3_readInto_164 : decode cX3_readInto 164 = .ok (.aload_n 0, 1) := by decide +kernel
theorem dX3_readInto_165 : decode cX3_readInto 165 = .ok (.getfield 15, 3) := by decide +kernel
theorem dX3_readInto_168 : decode cX3_readInto 168 = .ok (.iconst 0, 1) := by decide +kernel
theorem dX3_readInto_169 : decode cX3_readInto 169 = .ok (.invokevirtual 72, 3) := by decide +kernel
theorem dX3_readInto_172 : decode cX3_readInto 172 = .ok (.aload_n 1, 1) := by decide +kernel
theorem dX3_readInto_173 : decode cX3_readInto 173 = .ok (.iconst 1, 1) := by decide +kernel
theorem dX3_readInto_174 : decode cX3_readInto 174 = .ok (.putfield 47, 3) := by decide +kernel
theorem dX3_readInto_177 : decode cX3_readInto 177 = .ok (.goto 51, 3) := by decide +kernel
theorem dX3_readInto_180 : decode cX3_readInto 180 = .ok (.aload_n 1, 1) := by decide +kernel
theorem dX3_readInto_181 : decode cX3_readInto 181 = .ok (.aload_n 0, 1) := by decide +kernel
theorem dX3_readInto_182 : decode cX3_readInto 182 = .ok (.bipush 9, 2) := by decide +kernel
theorem dX3_readInto_184 : decode cX3_readInto 184 = .ok (.iconst 1, 1) := by decide +kernel
theorem dX3_readInto_185 : decode cX3_readInto 185 = .ok (.bipush 99, 2) := by decide +kernel
theorem dX3_readInto_187 : decode cX3_readInto 187 = .ok (.invokevirtual 76, 3) := by decide +kernel
theorem dX3_readInto_190 : decode cX3_readInto 190 = .ok (.putfield 80, 3) := by decide +kernel
theorem dX3_readInto_193 : decode cX3_readInto 193 = .ok (.goto 35, 3) := by decide +kernel
theorem dX3_readInto_196 : decode cX3_readInto 196 = .ok (.aload_n 1, 1) := by decide +kernel
theorem dX3_readInto_197 : decode cX3_readInto 197 = .ok (.aload_n 0, 1) := by decide +kernel
theorem dX3_readInto_198 : decode cX3_readInto 198 = .ok (.bipush 10, 2) := by decide +kernel
theorem dX3_readInto_200 : decode cX3_readInto 200 = .ok (.iconst 0, 1) := by decide +kernel
theorem dX3_readInto_201 : decode cX3_readInto 201 = .ok (.sipush 9999, 3) := by decide +kernel
theorem dX3_readInto_204 : decode cX3_readInto 204 = .ok (.invokevirtual 76, 3) := by decide +kernel
theorem dX3_readInto_207 : decode cX3_readInto 207 = .ok (.putfield 83, 3) := by decide +kernel
theorem dX3_readInto_210 : decode cX3_readInto 210 = .ok (.goto 18, 3) := by decide +kernel
theorem dX3_readInto_213 : decode cX3_readInto 213 = .ok (.aload_n 0, 1) := by decide +kernel
theorem dX3_readInto_214 : decode cX3_readInto 214 = .ok (.getfield 9, 3) := by decide +kernel
theorem dX3_readInto_217 : decode cX3_readInto 217 = .ok (.iconst 1, 1) := by decide +kernel
theorem dX3_readInto_218 : decode cX3_readInto 218 = .ok (.aload_n 0, 1) := by decide +kernel
theorem dX3_readInto_219 : decode cX3_readInto 219 = .ok (.getfield 9, 3) := by decide +kernel
theorem dX3_readInto_222 : decode cX3_readInto 222 = .ok (.getfield 51, 3) := by decide +kernel
theorem dX3_readInto_225 : decode cX3_readInto 225 = .ok (.invokevirtual 55, 3) := by decide +kernel
theorem dX3_readInto_228 : decode cX3_readInto 228 = .ok (.aload_n 0, 1) := by decide +kernel
theorem dX3_readInto_229 : decode cX3_readInto 229 = .ok (.getfield 9, 3) := by decide +kernel
theorem dX3_readInto_232 : decode cX3_readInto 232 = .ok (.bipush 59, 2) := by decide +kernel
theorem dX3_readInto_234 : decode cX3_readInto 234 = .ok (.invokevirtual 86, 3) := by decide +kernel
theorem dX3_readInto_237 : decode cX3_readInto 237 = .ok (.iinc 2 1, 3) := by decide +kernel
theorem dX3_readInto_240 : decode cX3_readInto 240 = .ok (.goto (-227), 3) := by decide +kernel
theorem dX3_readInto_243 : decode cX3_readInto 243 = .ok (.aload_n 0, 1) := by decide +kernel
theorem dX3_readInto_244 : decode cX3_readInto 244 = .ok (.getfield 9, 3) := by decide +kernel
theorem dX3_readInto_247 : decode cX3_readInto 247 = .ok (.invokevirtual 29, 3) := by decide +kernel
theorem dX3_readInto_250 : decode cX3_readInto 250 = .ok (.ifCond .eq 18, 3) := by decide +kernel
theorem dX3_readInto_253 : decode cX3_readInto 253 = .ok (.aload_n 0, 1) := by decide +kernel
theorem dX3_readInto_254 : decode cX3_readInto 254 = .ok (.getfield 9, 3) := by decide +kernel
theorem dX3_readInto_257 : decode cX3_readInto 257 = .ok (.iconst 5, 1) := by decide +kernel
theorem dX3_readInto_258 : decode cX3_readInto 258 = .ok (.aload_n 0, 1) := by decide +kernel
theorem dX3_readInto_259 : decode cX3_readInto 259 = .ok (.getfield 9, 3) := by decide +kernel
theorem dX3_readInto_262 : decode cX3_readInto 262 = .ok (.getfield 51, 3) := by decide +kernel
theorem dX3_readInto_265 : decode cX3_readInto 265 = .ok (.invokevirtual 55, 3) := by decide +kernel
theorem dX3_readInto_268 : decode cX3_readInto 268 = .ok (.iload_n 2, 1) := by decide +kernel
theorem dX3_readInto_269 : decode cX3_readInto 269 = .ok (.ireturn, 1) := by decide +kernel
theorem kc_RX3_19 : Cond.methodLink RX3 19 yX2_clear ∈ ktG ∧ (Cond.instanceMethod yX2_clear ∈ ktG ∧ Cond.selects yX2_clear.cls yX2_clear yX2_clear ∈ ktG) ∧ Cond.initialized yX2_clear.cls ∈ ktG ∧ Cond.code yX2_clear cX2_clear 1 none ∈ ktG := ⟨(kwm 607 (by decide +kernel) (by decide +kernel)), ⟨(kwm 608 (by decide +kernel) (by decide +kernel)), (kwm 609 (by decide +kernel) (by decide +kernel))⟩, (kwm 134 (by decide +kernel) (by decide +kernel)), kwm 610 (by decide +kernel) (by decide +kernel)⟩
theorem kh_X2_clear : yX2_clear.cls ≠ "java/lang/invoke/MethodHandle" ∧ yX2_clear.cls ≠ "java/lang/invoke/VarHandle" ∧ (parseMethodDescriptor yX2_clear.desc).map (fun d => d.parameters.length) = some 0 := by decide +kernel
theorem kc_RX3_24 : Cond.methodLink RX3 24 yX7_begin ∈ ktG ∧ (Cond.instanceMethod yX7_begin ∈ ktG ∧ Cond.selects yX7_begin.cls yX7_begin yX7_begin ∈ ktG) ∧ Cond.initialized yX7_begin.cls ∈ ktG ∧ Cond.code yX7_begin cX7_begin 1 none ∈ ktG := ⟨(kwm 614 (by decide +kernel) (by decide +kernel)), ⟨(kwm 615 (by decide +kernel) (by decide +kernel)), (kwm 616 (by decide +kernel) (by decide +kernel))⟩, (kwm 127 (by decide +kernel) (by decide +kernel)), kwm 617 (by decide +kernel) (by decide +kernel)⟩
theorem kh_X7_begin : yX7_begin.cls ≠ "java/lang/invoke/MethodHandle" ∧ yX7_begin.cls ≠ "java/lang/invoke/VarHandle" ∧ (parseMethodDescriptor yX7_begin.desc).map (fun d => d.parameters.length) = some 0 := by decide +kernel
theorem kc_RX3_29 : Cond.methodLink RX3 29 yX7_goesOn ∈ ktG ∧ (Cond.instanceMethod yX7_goesOn ∈ ktG ∧ Cond.selects yX7_goesOn.cls yX7_goesOn yX7_goesOn ∈ ktG) ∧ Cond.initialized yX7_goesOn.cls ∈ ktG ∧ Cond.code yX7_goesOn cX7_goesOn 1 (some .boolean) ∈ ktG := ⟨(kwm 643 (by decide +kernel) (by decide +kernel)), ⟨(kwm 644 (by decide +kernel) (by decide +kernel)), (kwm 645 (by decide +kernel) (by decide +kernel))⟩, (kwm 127 (by decide +kernel) (by decide +kernel)), kwm 646 (by decide +kernel) (by decide +kernel)⟩
theorem kh_X7_goesOn : yX7_goesOn.cls ≠ "java/lang/invoke/MethodHandle" ∧ yX7_goesOn.cls ≠ "java/lang/invoke/VarHandle" ∧ (parseMethodDescriptor yX7_goesOn.desc).map (fun d => d.parameters.length) = some 0 := by decide +kernel
theorem kc_RX3_33 : Cond.methodLink RX3 33 yX7_wordHere ∈ ktG ∧ (Cond.instanceMethod yX7_wordHere ∈ ktG ∧ Cond.selects yX7_wordHere.cls yX7_wordHere yX7_wordHere ∈ ktG) ∧ Cond.initialized yX7_wordHere.cls ∈ ktG ∧ Cond.code yX7_wordHere cX7_wordHere 2 (some .int) ∈ ktG := ⟨(kwm 647 (by decide +kernel) (by decide +kernel)), ⟨(kwm 648 (by decide +kernel) (by decide +kernel)), (kwm 649 (by decide +kernel) (by decide +kernel))⟩, (kwm 127 (by decide +kernel) (by decide +kernel)), kwm 650 (by decide +kernel) (by decide +kernel)⟩
theorem kc_RX3_37 : Cond.methodLink RX3 37 yX3_readKind ∈ ktG ∧ (Cond.instanceMethod yX3_readKind ∈ ktG ∧ Cond.selects yX3_readKind.cls yX3_readKind yX3_readKind ∈ ktG) ∧ Cond.initialized yX3_readKind.cls ∈ ktG ∧ Cond.code yX3_readKind cX3_readKind 3 none ∈ ktG := ⟨(kwm 651 (by decide +kernel) (by decide +kernel)), ⟨(kwm 653 (by decide +kernel) (by decide +kernel)), (kwm 4 (by decide +kernel) (by decide +kernel))⟩, (kwm 133 (by decide +kernel) (by decide +kernel)), kwm 654 (by decide +kernel) (by decide +kernel)⟩
theorem kh_X3_readKind : yX3_readKind.cls ≠ "java/lang/invoke/MethodHandle" ∧ yX3_readKind.cls ≠ "java/lang/invoke/VarHandle" ∧ (parseMethodDescriptor yX3_readKind.desc).map (fun d => d.parameters.length) = some 1 := by decide +kernel
theorem kc_RX3_86 : Cond.methodLink RX3 86 yX7_takeSign ∈ ktG ∧ (Cond.instanceMethod yX7_takeSign ∈ ktG ∧ Cond.selects yX7_takeSign.cls yX7_takeSign yX7_takeSign ∈ ktG) ∧ Cond.initialized yX7_takeSign.cls ∈ ktG ∧ Cond.code yX7_takeSign cX7_takeSign 2 none ∈ ktG := ⟨(kwm 773 (by decide +kernel) (by decide +kernel)), ⟨(kwm 742 (by decide +kernel) (by decide +kernel)), (kwm 743 (by decide +kernel) (by decide +kernel))⟩, (kwm 127 (by decide +kernel) (by decide +kernel)), kwm 744 (by decide +kernel) (by decide +kernel)⟩
theorem kc_RX3_41 : Cond.methodLink RX3 41 yX3_readTrial ∈ ktG ∧ (Cond.instanceMethod yX3_readTrial ∈ ktG ∧ Cond.selects yX3_readTrial.cls yX3_readTrial yX3_readTrial ∈ ktG) ∧ Cond.initialized yX3_readTrial.cls ∈ ktG ∧ Cond.code yX3_readTrial cX3_readTrial 3 none ∈ ktG := ⟨(kwm 697 (by decide +kernel) (by decide +kernel)), ⟨(kwm 699 (by decide +kernel) (by decide +kernel)), (kwm 7 (by decide +kernel) (by decide +kernel))⟩, (kwm 133 (by decide +kernel) (by decide +kernel)), kwm 700 (by decide +kernel) (by decide +kernel)⟩
theorem kh_X3_readTrial : yX3_readTrial.cls ≠ "java/lang/invoke/MethodHandle" ∧ yX3_readTrial.cls ≠ "java/lang/invoke/VarHandle" ∧ (parseMethodDescriptor yX3_readTrial.desc).map (fun d => d.parameters.length) = some 1 := by decide +kernel
theorem kc_RX3_44 : Cond.methodLink RX3 44 yX3_readMark ∈ ktG ∧ (Cond.instanceMethod yX3_readMark ∈ ktG ∧ Cond.selects yX3_readMark.cls yX3_readMark yX3_readMark ∈ ktG) ∧ Cond.initialized yX3_readMark.cls ∈ ktG ∧ Cond.code yX3_readMark cX3_readMark 3 none ∈ ktG := ⟨(kwm 701 (by decide +kernel) (by decide +kernel)), ⟨(kwm 703 (by decide +kernel) (by decide +kernel)), (kwm 8 (by decide +kernel) (by decide +kernel))⟩, (kwm 133 (by decide +kernel) (by decide +kernel)), kwm 704 (by decide +kernel) (by decide +kernel)⟩
theorem kh_X3_readMark : yX3_readMark.cls ≠ "java/lang/invoke/MethodHandle" ∧ yX3_readMark.cls ≠ "java/lang/invoke/VarHandle" ∧ (parseMethodDescriptor yX3_readMark.desc).map (fun d => d.parameters.length) = some 1 := by decide +kernel
theorem kl_RX3_47 : KLk RX3 47 2 8 := ⟨RX2, TX2, 12, rfl, by decide, Or.inr (by decide +kernel)⟩
theorem kl_RX3_15 : KLk RX3 15 3 1 := ⟨RX3, TX3, 2, rfl, by decide, Or.inl (kwm 333 (by decide +kernel) (by decide +kernel))⟩
theorem kl_RX3_62 : KLk RX3 62 2 9 := ⟨RX2, TX2, 12, rfl, by decide, Or.inr (by decide +kernel)⟩
theorem kc_RX3_66 : Cond.methodLink RX3 66 yX4_writeTo ∈ ktG ∧ (Cond.instanceMethod yX4_writeTo ∈ ktG ∧ Cond.selects yX4_writeTo.cls yX4_writeTo yX4_writeTo ∈ ktG) ∧ Cond.initialized yX4_writeTo.cls ∈ ktG ∧ Cond.code yX4_writeTo cX4_writeTo 3 none ∈ ktG := ⟨(kwm 705 (by decide +kernel) (by decide +kernel)), ⟨(kwm 706 (by decide +kernel) (by decide +kernel)), (kwm 707 (by decide +kernel) (by decide +kernel))⟩, (kwm 132 (by decide +kernel) (by decide +kernel)), kwm 708 (by decide +kernel) (by decide +kernel)⟩
theorem kh_X4_writeTo : yX4_writeTo.cls ≠ "java/lang/invoke/MethodHandle" ∧ yX4_writeTo.cls ≠ "java/lang/invoke/VarHandle" ∧ (parseMethodDescriptor yX4_writeTo.desc).map (fun d => d.parameters.length) = some 2 := by decide +kernel
theorem kc_RX3_72 : (RX3, 72, yX4_readTest, "KingsTest") ∈ knestM ∧ (Cond.instanceMethod yX4_readTest ∈ ktG ∧ Cond.selects yX4_readTest.cls yX4_readTest yX4_readTest ∈ ktG) ∧ Cond.initialized yX4_readTest.cls ∈ ktG ∧ Cond.code yX4_readTest cX4_readTest 3 none ∈ ktG := ⟨by decide +kernel, ⟨(kwm 711 (by decide +kernel) (by decide +kernel)), (kwm 9 (by decide +kernel) (by decide +kernel))⟩, (kwm 132 (by decide +kernel) (by decide +kernel)), kwm 712 (by decide +kernel) (by decide +kernel)⟩
theorem kl_RX3_80 : KLk RX3 80 2 6 := ⟨RX2, TX2, 12, rfl, by decide, Or.inr (by decide +kernel)⟩
theorem kl_RX3_83 : KLk RX3 83 2 7 := ⟨RX2, TX2, 12, rfl, by decide, Or.inr (by decide +kernel)⟩
def E_X3_readInto_l13 (v0 : Nat) (v1 : Nat) : Int32 × KH → Nat → List (Nat × Value) → List Value → KH → Prop := fun (e : Int32 × KH) pc ls st hh => pc = 243 ∧ ls = [(0, .ref v0), (2, .int e.1)] ∧ st = [] ∧ e.2 = hh
def B_X3_readInto_l13 (v0 : Nat) (v1 : Nat) : ((Int32 × KH) ⊕ (Int32 × KH)) → Nat → List (Nat × Value) → List Value → KH → Prop := Sum.elim (fun (s : Int32 × KH) pc ls st hh => pc = 13 ∧ ls = [(0, .ref v0), (1, .ref v1), (2, .int s.1)] ∧ st = [] ∧ hh = s.2) (E_X3_readInto_l13 v0 v1)
def f_X3_readInto_b228 (h : KH) (v0 : Nat) (v1 : Nat) (v2 : Int32) : Option ((Int32 × KH) ⊕ (Int32 × KH)) :=
  if kkind v0 = 3 then if (kR h v0 0) < 999999 then if kkind (kR h v0 0) = 7 then kb (f_X7_takeSign h (kR h v0 0) (59 : Int32)) fun r4 =>
  kl (v2 + (1 : Int32)) fun x8 =>
  some (.inl (x8, r4)) else none else none else none
set_option maxHeartbeats 4000000 in
set_option maxRecDepth 100000 in
theorem s_X3_readInto_b228 {Z : Nat → (Nat → Nat) → State → Prop} (h : KH) (v0 : Nat) (v1 : Nat) (v2 : Int32) {t : (Int32 × KH) ⊕ (Int32 × KH)} (hn : h.1 = 243) (H : f_X3_readInto_b228 h v0 v1 v2 = some t) : KX Z RX3 cX3_readInto 3 false 221 (B_X3_readInto_l13 v0 v1 t) 228 [(0, .ref v0), (1, .ref v1), (2, .int v2)] [] h := by
  unfold f_X3_readInto_b228 at H
  refine x_aload_n (q := 229) dX3_readInto_228 rfl rfl ?_
  replace H := kif H; obtain ⟨g1, H⟩ := H
  replace H := kif H; obtain ⟨g2, H⟩ := H
  refine x_getR (q := 232) dX3_readInto_229 rfl kl_RX3_9 rfl (k243 g1 (by decide) hn) g2 ?_
  refine x_bipush (q := 234) (v := (59 : Int32)) dX3_readInto_232 rfl (by decide) ?_
  replace H := kif H; obtain ⟨g3, H⟩ := H
  replace H := kbe H; obtain ⟨r4, c5, H⟩ := H
  have m6 := s_X7_takeSign (Z := Z) h (kR h v0 0) (59 : Int32) hn c5
  refine x_callV (q := 237) (as := [.int (59 : Int32)]) (rest := []) dX3_readInto_234 rfl kc_RX3_86 kh_X7_takeSign (by decide) (Nat.le_of_ble_eq_true rfl) m6 (ci := 7) (by exact ⟨rfl, by decide⟩) (k243 g3 (by decide) hn) ?_
  have n7 : (r4).1 = 243 := m6.1.full hn
  replace H := kle H; obtain ⟨x8, q9, H⟩ := H
  refine x_iinc (q := 240) (i := 2) (ls2 := [(2, .int x8), (0, .ref v0), (1, .ref v1)]) dX3_readInto_237 rfl rfl (by decide) (by rw [q9]; rfl) ?_
  refine x_goto dX3_readInto_240 (q := 13) (by decide) ?_
  cases H
  refine x_sub (ls2 := [(0, .ref v0), (1, .ref v1), (2, .int x8)]) [1, 2, 0] rfl ?_
  exact x_end (x_cfg rfl)
def f_X3_readInto_l13 (v0 : Nat) (v1 : Nat) (s : Int32 × KH) : Option ((Int32 × KH) ⊕ (Int32 × KH)) :=
  if (60 : Int32) ≤ s.1 then
  some (.inr (s.1, s.2))
  else
  if kkind v0 = 3 then if (kR s.2 v0 0) < 999999 then if kkind (kR s.2 v0 0) = 7 then kb (f_X7_goesOn s.2 (kR s.2 v0 0)) fun r5 =>
  if r5 = 0 then
  some (.inr (s.1, s.2))
  else
  kb (f_X7_wordHere s.2 (kR s.2 v0 0)) fun r9 =>
  if r9 = (0 : Int32) then
  kb (f_X3_readKind s.2 v0 v1) fun r13 =>
  f_X3_readInto_b228 r13 v0 v1 s.1
  else if r9 = (1 : Int32) then
  kb (f_X7_stop s.2 (kR s.2 v0 0) (1 : Int32) (kI s.2 (kR s.2 v0 0) 4)) fun r18 =>
  f_X3_readInto_b228 r18 v0 v1 s.1
  else if r9 = (2 : Int32) then
  kb (f_X7_stop s.2 (kR s.2 v0 0) (1 : Int32) (kI s.2 (kR s.2 v0 0) 4)) fun r23 =>
  f_X3_readInto_b228 r23 v0 v1 s.1
  else if r9 = (3 : Int32) then
  kb (f_X7_stop s.2 (kR s.2 v0 0) (1 : Int32) (kI s.2 (kR s.2 v0 0) 4)) fun r28 =>
  f_X3_readInto_b228 r28 v0 v1 s.1
  else if r9 = (4 : Int32) then
  kb (f_X7_stop s.2 (kR s.2 v0 0) (1 : Int32) (kI s.2 (kR s.2 v0 0) 4)) fun r33 =>
  f_X3_readInto_b228 r33 v0 v1 s.1
  else if r9 = (5 : Int32) then
  kb (f_X3_readTrial s.2 v0 v1) fun r38 =>
  f_X3_readInto_b228 r38 v0 v1 s.1
  else if r9 = (6 : Int32) then
  kb (f_X7_stop s.2 (kR s.2 v0 0) (1 : Int32) (kI s.2 (kR s.2 v0 0) 4)) fun r43 =>
  f_X3_readInto_b228 r43 v0 v1 s.1
  else if r9 = (7 : Int32) then
  kb (f_X3_readMark s.2 v0 v1) fun r48 =>
  f_X3_readInto_b228 r48 v0 v1 s.1
  else if r9 = (8 : Int32) then
  if kkind v1 = 2 then if (kI s.2 v1 8) = 0 then
  kb (f_X7_next s.2 (kR s.2 v0 0)) fun r55 =>
  if (kR r55 v0 1) < 999999 then if (kR r55 v1 9) < 999999 then if kkind (kR r55 v0 1) = 4 then kb (f_X4_writeTo r55 (kR r55 v0 1) (kR r55 v1 9) (0 : Int32)) fun r62 =>
  if (kR r62 v0 1) < 999999 then if kkind (kR r62 v0 1) = 4 then kb (f_X4_readTest r62 (kR r62 v0 1) (0 : Int32)) fun r68 =>
  kl (ksI r68 v1 8 (1 : Int32)) fun h72 =>
  f_X3_readInto_b228 h72 v0 v1 s.1 else none else none else none else none else none
  else
  kb (f_X7_stop s.2 (kR s.2 v0 0) (5 : Int32) (kI s.2 (kR s.2 v0 0) 4)) fun r75 =>
  f_X3_readInto_b228 r75 v0 v1 s.1 else none
  else if r9 = (9 : Int32) then
  kb (f_X3_takeBehind s.2 v0 (9 : Int32) (1 : Int32) (99 : Int32)) fun r80 =>
  if kkind v1 = 2 then kl (ksI r80.2 v1 6 r80.1) fun h85 =>
  f_X3_readInto_b228 h85 v0 v1 s.1 else none
  else if r9 = (10 : Int32) then
  kb (f_X3_takeBehind s.2 v0 (10 : Int32) (0 : Int32) (9999 : Int32)) fun r89 =>
  if kkind v1 = 2 then kl (ksI r89.2 v1 7 r89.1) fun h94 =>
  f_X3_readInto_b228 h94 v0 v1 s.1 else none
  else 
  kb (f_X7_stop s.2 (kR s.2 v0 0) (1 : Int32) (kI s.2 (kR s.2 v0 0) 4)) fun r97 =>
  f_X3_readInto_b228 r97 v0 v1 s.1 else none else none else none
set_option maxHeartbeats 4000000 in
set_option maxRecDepth 100000 in
theorem s_X3_readInto_l13 {Z : Nat → (Nat → Nat) → State → Prop} (v0 : Nat) (v1 : Nat) (s : Int32 × KH) (t : (Int32 × KH) ⊕ (Int32 × KH)) (hn : (s.2).1 = 243) (H : f_X3_readInto_l13 v0 v1 s = some t) : KX Z RX3 cX3_readInto 3 false 221 (B_X3_readInto_l13 v0 v1 t) 13 [(0, .ref v0), (1, .ref v1), (2, .int s.1)] [] s.2 := by
  unfold f_X3_readInto_l13 at H
  refine x_iload_n (q := 14) dX3_readInto_13 rfl rfl ?_
  refine x_bipush (q := 16) (v := (60 : Int32)) dX3_readInto_14 rfl (by decide) ?_
  replace H := kite H; rcases H with ⟨g1, H⟩ | ⟨g1, H⟩
  · refine x_icmp_ge_t dX3_readInto_16 (q := 243) (by decide) g1 ?_
    cases H
    refine x_sub (ls2 := [(0, .ref v0), (2, .int s.1)]) [0, 2] rfl ?_
    exact x_end (x_cfg rfl)
  · refine x_icmp_ge_f (q := 19) dX3_readInto_16 (t := 243) (by decide) rfl g1 ?_
    refine x_aload_n (q := 20) dX3_readInto_19 rfl rfl ?_
    replace H := kif H; obtain ⟨g2, H⟩ := H
    replace H := kif H; obtain ⟨g3, H⟩ := H
    refine x_getR (q := 23) dX3_readInto_20 rfl kl_RX3_9 rfl (k243 g2 (by decide) hn) g3 ?_
    replace H := kif H; obtain ⟨g4, H⟩ := H
    replace H := kbe H; obtain ⟨r5, c6, H⟩ := H
    have m7 := s_X7_goesOn (Z := Z) s.2 (kR s.2 v0 0) hn c6
    refine x_callV (q := 26) (as := []) (rest := []) dX3_readInto_23 rfl kc_RX3_29 kh_X7_goesOn (by decide) (Nat.le_of_ble_eq_true rfl) m7 (ci := 7) (by exact ⟨rfl, by decide⟩) (k243 g4 (by decide) hn) ?_
    replace H := kite H; rcases H with ⟨g8, H⟩ | ⟨g8, H⟩
    · refine x_if_eq_t dX3_readInto_26 (q := 243) (by decide) g8 ?_
      cases H
      refine x_sub (ls2 := [(0, .ref v0), (2, .int s.1)]) [0, 2] rfl ?_
      exact x_end (x_cfg rfl)
    · refine x_if_eq_f (q := 29) dX3_readInto_26 (t := 243) (by decide) rfl g8 ?_
      refine x_aload_n (q := 30) dX3_readInto_29 rfl rfl ?_
      refine x_getR (q := 33) dX3_readInto_30 rfl kl_RX3_9 rfl (k243 g2 (by decide) hn) g3 ?_
      replace H := kbe H; obtain ⟨r9, c10, H⟩ := H
      have m11 := s_X7_wordHere (Z := Z) s.2 (kR s.2 v0 0) hn c10
      refine x_callV (q := 36) (as := []) (rest := []) dX3_readInto_33 rfl kc_RX3_33 kh_X7_wordHere (by decide) (Nat.le_of_ble_eq_true rfl) m11 (ci := 7) (by exact ⟨rfl, by decide⟩) (k243 g4 (by decide) hn) ?_
      replace H := kite H; rcases H with ⟨g12, H⟩ | ⟨g12, H⟩
      · refine x_tableIn (v := (0 : Int32)) (off := 60) dX3_readInto_36 g12 (by decide) (q := 96) (by decide) ?_
        refine x_aload_n (q := 97) dX3_readInto_96 rfl rfl ?_
        refine x_aload_n (q := 98) dX3_readInto_97 rfl rfl ?_
        replace H := kbe H; obtain ⟨r13, c14, H⟩ := H
        have m15 := s_X3_readKind (Z := Z) s.2 v0 v1 hn c14
        refine x_callV (q := 101) (as := [.ref v1]) (rest := []) dX3_readInto_98 rfl kc_RX3_37 kh_X3_readKind (by decide) (Nat.le_of_ble_eq_true rfl) m15 (ci := 3) (by exact ⟨rfl, by decide⟩) (k243 g2 (by decide) hn) ?_
        have n16 : (r13).1 = 243 := m15.1.full hn
        refine x_goto dX3_readInto_101 (q := 228) (by decide) ?_
        refine x_sub (ls2 := [(0, .ref v0), (1, .ref v1), (2, .int s.1)]) [0, 1, 2] rfl ?_
        exact s_X3_readInto_b228 r13 v0 v1 s.1 n16 H
      replace H := kite H; rcases H with ⟨g17, H⟩ | ⟨g17, H⟩
      · refine x_tableIn (v := (1 : Int32)) (off := 177) dX3_readInto_36 g17 (by decide) (q := 213) (by decide) ?_
        refine x_aload_n (q := 214) dX3_readInto_213 rfl rfl ?_
        refine x_getR (q := 217) dX3_readInto_214 rfl kl_RX3_9 rfl (k243 g2 (by decide) hn) g3 ?_
        refine x_iconst (q := 218) (v := (1 : Int32)) dX3_readInto_217 rfl (by decide) ?_
        refine x_aload_n (q := 219) dX3_readInto_218 rfl rfl ?_
        refine x_getR (q := 222) dX3_readInto_219 rfl kl_RX3_9 rfl (k243 g2 (by decide) hn) g3 ?_
        refine x_getI (q := 225) dX3_readInto_222 rfl kl_RX3_51 (Or.inl rfl) (k243 g4 (by decide) hn) ?_
        replace H := kbe H; obtain ⟨r18, c19, H⟩ := H
        have m20 := s_X7_stop (Z := Z) s.2 (kR s.2 v0 0) (1 : Int32) (kI s.2 (kR s.2 v0 0) 4) hn c19
        refine x_callV (q := 228) (as := [.int (1 : Int32), .int (kI s.2 (kR s.2 v0 0) 4)]) (rest := []) dX3_readInto_225 rfl kc_RX3_55 kh_X7_stop (by decide) (Nat.le_of_ble_eq_true rfl) m20 (ci := 7) (by exact ⟨rfl, by decide⟩) (k243 g4 (by decide) hn) ?_
        have n21 : (r18).1 = 243 := m20.1.full hn
        refine x_sub (ls2 := [(0, .ref v0), (1, .ref v1), (2, .int s.1)]) [0, 1, 2] rfl ?_
        exact s_X3_readInto_b228 r18 v0 v1 s.1 n21 H
      replace H := kite H; rcases H with ⟨g22, H⟩ | ⟨g22, H⟩
      · refine x_tableIn (v := (2 : Int32)) (off := 177) dX3_readInto_36 g22 (by decide) (q := 213) (by decide) ?_
        refine x_aload_n (q := 214) dX3_readInto_213 rfl rfl ?_
        refine x_getR (q := 217) dX3_readInto_214 rfl kl_RX3_9 rfl (k243 g2 (by decide) hn) g3 ?_
        refine x_iconst (q := 218) (v := (1 : Int32)) dX3_readInto_217 rfl (by decide) ?_
        refine x_aload_n (q := 219) dX3_readInto_218 rfl rfl ?_
        refine x_getR (q := 222) dX3_readInto_219 rfl kl_RX3_9 rfl (k243 g2 (by decide) hn) g3 ?_
        refine x_getI (q := 225) dX3_readInto_222 rfl kl_RX3_51 (Or.inl rfl) (k243 g4 (by decide) hn) ?_
        replace H := kbe H; obtain ⟨r23, c24, H⟩ := H
        have m25 := s_X7_stop (Z := Z) s.2 (kR s.2 v0 0) (1 : Int32) (kI s.2 (kR s.2 v0 0) 4) hn c24
        refine x_callV (q := 228) (as := [.int (1 : Int32), .int (kI s.2 (kR s.2 v0 0) 4)]) (rest := []) dX3_readInto_225 rfl kc_RX3_55 kh_X7_stop (by decide) (Nat.le_of_ble_eq_true rfl) m25 (ci := 7) (by exact ⟨rfl, by decide⟩) (k243 g4 (by decide) hn) ?_
        have n26 : (r23).1 = 243 := m25.1.full hn
        refine x_sub (ls2 := [(0, .ref v0), (1, .ref v1), (2, .int s.1)]) [0, 1, 2] rfl ?_
        exact s_X3_readInto_b228 r23 v0 v1 s.1 n26 H
      replace H := kite H; rcases H with ⟨g27, H⟩ | ⟨g27, H⟩
      · refine x_tableIn (v := (3 : Int32)) (off := 177) dX3_readInto_36 g27 (by decide) (q := 213) (by decide) ?_
        refine x_aload_n (q := 214) dX3_readInto_213 rfl rfl ?_
        refine x_getR (q := 217) dX3_readInto_214 rfl kl_RX3_9 rfl (k243 g2 (by decide) hn) g3 ?_
        refine x_iconst (q := 218) (v := (1 : Int32)) dX3_readInto_217 rfl (by decide) ?_
        refine x_aload_n (q := 219) dX3_readInto_218 rfl rfl ?_
        refine x_getR (q := 222) dX3_readInto_219 rfl kl_RX3_9 rfl (k243 g2 (by decide) hn) g3 ?_
        refine x_getI (q := 225) dX3_readInto_222 rfl kl_RX3_51 (Or.inl rfl) (k243 g4 (by decide) hn) ?_
        replace H := kbe H; obtain ⟨r28, c29, H⟩ := H
        have m30 := s_X7_stop (Z := Z) s.2 (kR s.2 v0 0) (1 : Int32) (kI s.2 (kR s.2 v0 0) 4) hn c29
        refine x_callV (q := 228) (as := [.int (1 : Int32), .int (kI s.2 (kR s.2 v0 0) 4)]) (rest := []) dX3_readInto_225 rfl kc_RX3_55 kh_X7_stop (by decide) (Nat.le_of_ble_eq_true rfl) m30 (ci := 7) (by exact ⟨rfl, by decide⟩) (k243 g4 (by decide) hn) ?_
        have n31 : (r28).1 = 243 := m30.1.full hn
        refine x_sub (ls2 := [(0, .ref v0), (1, .ref v1), (2, .int s.1)]) [0, 1, 2] rfl ?_
        exact s_X3_readInto_b228 r28 v0 v1 s.1 n31 H
      replace H := kite H; rcases H with ⟨g32, H⟩ | ⟨g32, H⟩
      · refine x_tableIn (v := (4 : Int32)) (off := 177) dX3_readInto_36 g32 (by decide) (q := 213) (by decide) ?_
        refine x_aload_n (q := 214) dX3_readInto_213 rfl rfl ?_
        refine x_getR (q := 217) dX3_readInto_214 rfl kl_RX3_9 rfl (k243 g2 (by decide) hn) g3 ?_
        refine x_iconst (q := 218) (v := (1 : Int32)) dX3_readInto_217 rfl (by decide) ?_
        refine x_aload_n (q := 219) dX3_readInto_218 rfl rfl ?_
        refine x_getR (q := 222) dX3_readInto_219 rfl kl_RX3_9 rfl (k243 g2 (by decide) hn) g3 ?_
        refine x_getI (q := 225) dX3_readInto_222 rfl kl_RX3_51 (Or.inl rfl) (k243 g4 (by decide) hn) ?_
        replace H := kbe H; obtain ⟨r33, c34, H⟩ := H
        have m35 := s_X7_stop (Z := Z) s.2 (kR s.2 v0 0) (1 : Int32) (kI s.2 (kR s.2 v0 0) 4) hn c34
        refine x_callV (q := 228) (as := [.int (1 : Int32), .int (kI s.2 (kR s.2 v0 0) 4)]) (rest := []) dX3_readInto_225 rfl kc_RX3_55 kh_X7_stop (by decide) (Nat.le_of_ble_eq_true rfl) m35 (ci := 7) (by exact ⟨rfl, by decide⟩) (k243 g4 (by decide) hn) ?_
        have n36 : (r33).1 = 243 := m35.1.full hn
        refine x_sub (ls2 := [(0, .ref v0), (1, .ref v1), (2, .int s.1)]) [0, 1, 2] rfl ?_
        exact s_X3_readInto_b228 r33 v0 v1 s.1 n36 H
      replace H := kite H; rcases H with ⟨g37, H⟩ | ⟨g37, H⟩
      · refine x_tableIn (v := (5 : Int32)) (off := 68) dX3_readInto_36 g37 (by decide) (q := 104) (by decide) ?_
        refine x_aload_n (q := 105) dX3_readInto_104 rfl rfl ?_
        refine x_aload_n (q := 106) dX3_readInto_105 rfl rfl ?_
        replace H := kbe H; obtain ⟨r38, c39, H⟩ := H
        have m40 := s_X3_readTrial (Z := Z) s.2 v0 v1 hn c39
        refine x_callV (q := 109) (as := [.ref v1]) (rest := []) dX3_readInto_106 rfl kc_RX3_41 kh_X3_readTrial (by decide) (Nat.le_of_ble_eq_true rfl) m40 (ci := 3) (by exact ⟨rfl, by decide⟩) (k243 g2 (by decide) hn) ?_
        have n41 : (r38).1 = 243 := m40.1.full hn
        refine x_goto dX3_readInto_109 (q := 228) (by decide) ?_
        refine x_sub (ls2 := [(0, .ref v0), (1, .ref v1), (2, .int s.1)]) [0, 1, 2] rfl ?_
        exact s_X3_readInto_b228 r38 v0 v1 s.1 n41 H
      replace H := kite H; rcases H with ⟨g42, H⟩ | ⟨g42, H⟩
      · refine x_tableIn (v := (6 : Int32)) (off := 177) dX3_readInto_36 g42 (by decide) (q := 213) (by decide) ?_
        refine x_aload_n (q := 214) dX3_readInto_213 rfl rfl ?_
        refine x_getR (q := 217) dX3_readInto_214 rfl kl_RX3_9 rfl (k243 g2 (by decide) hn) g3 ?_
        refine x_iconst (q := 218) (v := (1 : Int32)) dX3_readInto_217 rfl (by decide) ?_
        refine x_aload_n (q := 219) dX3_readInto_218 rfl rfl ?_
        refine x_getR (q := 222) dX3_readInto_219 rfl kl_RX3_9 rfl (k243 g2 (by decide) hn) g3 ?_
        refine x_getI (q := 225) dX3_readInto_222 rfl kl_RX3_51 (Or.inl rfl) (k243 g4 (by decide) hn) ?_
        replace H := kbe H; obtain ⟨r43, c44, H⟩ := H
        have m45 := s_X7_stop (Z := Z) s.2 (kR s.2 v0 0) (1 : Int32) (kI s.2 (kR s.2 v0 0) 4) hn c44
        refine x_callV (q := 228) (as := [.int (1 : Int32), .int (kI s.2 (kR s.2 v0 0) 4)]) (rest := []) dX3_readInto_225 rfl kc_RX3_55 kh_X7_stop (by decide) (Nat.le_of_ble_eq_true rfl) m45 (ci := 7) (by exact ⟨rfl, by decide⟩) (k243 g4 (by decide) hn) ?_
        have n46 : (r43).1 = 243 := m45.1.full hn
        refine x_sub (ls2 := [(0, .ref v0), (1, .ref v1), (2, .int s.1)]) [0, 1, 2] rfl ?_
        exact s_X3_readInto_b228 r43 v0 v1 s.1 n46 H
      replace H := kite H; rcases H with ⟨g47, H⟩ | ⟨g47, H⟩
      · refine x_tableIn (v := (7 : Int32)) (off := 76) dX3_readInto_36 g47 (by decide) (q := 112) (by decide) ?_
        refine x_aload_n (q := 113) dX3_readInto_112 rfl rfl ?_
        refine x_aload_n (q := 114) dX3_readInto_113 rfl rfl ?_
        replace H := kbe H; obtain ⟨r48, c49, H⟩ := H
        have m50 := s_X3_readMark (Z := Z) s.2 v0 v1 hn c49
        refine x_callV (q := 117) (as := [.ref v1]) (rest := []) dX3_readInto_114 rfl kc_RX3_44 kh_X3_readMark (by decide) (Nat.le_of_ble_eq_true rfl) m50 (ci := 3) (by exact ⟨rfl, by decide⟩) (k243 g2 (by decide) hn) ?_
        have n51 : (r48).1 = 243 := m50.1.full hn
        refine x_goto dX3_readInto_117 (q := 228) (by decide) ?_
        refine x_sub (ls2 := [(0, .ref v0), (1, .ref v1), (2, .int s.1)]) [0, 1, 2] rfl ?_
        exact s_X3_readInto_b228 r48 v0 v1 s.1 n51 H
      replace H := kite H; rcases H with ⟨g52, H⟩ | ⟨g52, H⟩
      · refine x_tableIn (v := (8 : Int32)) (off := 84) dX3_readInto_36 g52 (by decide) (q := 120) (by decide) ?_
        refine x_aload_n (q := 121) dX3_readInto_120 rfl rfl ?_
        replace H := kif H; obtain ⟨g53, H⟩ := H
        refine x_getI (q := 124) dX3_readInto_121 rfl kl_RX3_47 (Or.inr rfl) (k243 g53 (by decide) hn) ?_
        replace H := kite H; rcases H with ⟨g54, H⟩ | ⟨g54, H⟩
        · refine x_if_eq_t dX3_readInto_124 (q := 145) (by decide) g54 ?_
          refine x_aload_n (q := 146) dX3_readInto_145 rfl rfl ?_
          refine x_getR (q := 149) dX3_readInto_146 rfl kl_RX3_9 rfl (k243 g2 (by decide) hn) g3 ?_
          replace H := kbe H; obtain ⟨r55, c56, H⟩ := H
          have m57 := s_X7_next (Z := Z) s.2 (kR s.2 v0 0) hn c56
          refine x_callV (q := 152) (as := []) (rest := []) dX3_readInto_149 rfl kc_RX3_59 kh_X7_next (by decide) (Nat.le_of_ble_eq_true rfl) m57 (ci := 7) (by exact ⟨rfl, by decide⟩) (k243 g4 (by decide) hn) ?_
          have n58 : (r55).1 = 243 := m57.1.full hn
          refine x_aload_n (q := 153) dX3_readInto_152 rfl rfl ?_
          replace H := kif H; obtain ⟨g59, H⟩ := H
          refine x_getR (q := 156) dX3_readInto_153 rfl kl_RX3_15 rfl (k243 g2 (by decide) n58) g59 ?_
          refine x_aload_n (q := 157) dX3_readInto_156 rfl rfl ?_
          replace H := kif H; obtain ⟨g60, H⟩ := H
          refine x_getR (q := 160) dX3_readInto_157 rfl kl_RX3_62 rfl (k243 g53 (by decide) n58) g60 ?_
          refine x_iconst (q := 161) (v := (0 : Int32)) dX3_readInto_160 rfl (by decide) ?_
          replace H := kif H; obtain ⟨g61, H⟩ := H
          replace H := kbe H; obtain ⟨r62, c63, H⟩ := H
          have m64 := s_X4_writeTo (Z := Z) r55 (kR r55 v0 1) (kR r55 v1 9) (0 : Int32) n58 c63
          refine x_callV (q := 164) (as := [.ref (kR r55 v1 9), .int (0 : Int32)]) (rest := []) dX3_readInto_161 rfl kc_RX3_66 kh_X4_writeTo (by decide) (Nat.le_of_ble_eq_true rfl) m64 (ci := 4) (by exact ⟨rfl, by decide⟩) (k243 g61 (by decide) n58) ?_
          have n65 : (r62).1 = 243 := m64.1.full n58
          refine x_aload_n (q := 165) dX3_readInto_164 rfl rfl ?_
          replace H := kif H; obtain ⟨g66, H⟩ := H
          refine x_getR (q := 168) dX3_readInto_165 rfl kl_RX3_15 rfl (k243 g2 (by decide) n65) g66 ?_
          refine x_iconst (q := 169) (v := (0 : Int32)) dX3_readInto_168 rfl (by decide) ?_
          replace H := kif H; obtain ⟨g67, H⟩ := H
          replace H := kbe H; obtain ⟨r68, c69, H⟩ := H
          have m70 := s_X4_readTest (Z := Z) r62 (kR r62 v0 1) (0 : Int32) n65 c69
          refine x_callVN (q := 172) (as := [.int (0 : Int32)]) (rest := []) dX3_readInto_169 rfl kc_RX3_72 kh_X4_readTest (by decide) (Nat.le_of_ble_eq_true rfl) m70 (ci := 4) (by exact ⟨rfl, by decide⟩) (k243 g67 (by decide) n65) ?_
          have n71 : (r68).1 = 243 := m70.1.full n65
          refine x_aload_n (q := 173) dX3_readInto_172 rfl rfl ?_
          refine x_iconst (q := 174) (v := (1 : Int32)) dX3_readInto_173 rfl (by decide) ?_
          replace H := kle H; obtain ⟨h72, q73, H⟩ := H
          refine x_putZ (q := 177) dX3_readInto_174 rfl kl_RX3_47 (Or.inl rfl) rfl (by decide) (k243 g53 (by decide) n71) ?_
          refine x_nmH q73 ?_
          have n74 : h72.1 = 243 := by rw [q73]; exact n71
          refine x_goto dX3_readInto_177 (q := 228) (by decide) ?_
          refine x_sub (ls2 := [(0, .ref v0), (1, .ref v1), (2, .int s.1)]) [0, 1, 2] rfl ?_
          exact s_X3_readInto_b228 h72 v0 v1 s.1 n74 H
        · refine x_if_eq_f (q := 127) dX3_readInto_124 (t := 145) (by decide) rfl g54 ?_
          refine x_aload_n (q := 128) dX3_readInto_127 rfl rfl ?_
          refine x_getR (q := 131) dX3_readInto_128 rfl kl_RX3_9 rfl (k243 g2 (by decide) hn) g3 ?_
          refine x_iconst (q := 132) (v := (5 : Int32)) dX3_readInto_131 rfl (by decide) ?_
          refine x_aload_n (q := 133) dX3_readInto_132 rfl rfl ?_
          refine x_getR (q := 136) dX3_readInto_133 rfl kl_RX3_9 rfl (k243 g2 (by decide) hn) g3 ?_
          refine x_getI (q := 139) dX3_readInto_136 rfl kl_RX3_51 (Or.inl rfl) (k243 g4 (by decide) hn) ?_
          replace H := kbe H; obtain ⟨r75, c76, H⟩ := H
          have m77 := s_X7_stop (Z := Z) s.2 (kR s.2 v0 0) (5 : Int32) (kI s.2 (kR s.2 v0 0) 4) hn c76
          refine x_callV (q := 142) (as := [.int (5 : Int32), .int (kI s.2 (kR s.2 v0 0) 4)]) (rest := []) dX3_readInto_139 rfl kc_RX3_55 kh_X7_stop (by decide) (Nat.le_of_ble_eq_true rfl) m77 (ci := 7) (by exact ⟨rfl, by decide⟩) (k243 g4 (by decide) hn) ?_
          have n78 : (r75).1 = 243 := m77.1.full hn
          refine x_goto dX3_readInto_142 (q := 228) (by decide) ?_
          refine x_sub (ls2 := [(0, .ref v0), (1, .ref v1), (2, .int s.1)]) [0, 1, 2] rfl ?_
          exact s_X3_readInto_b228 r75 v0 v1 s.1 n78 H
      replace H := kite H; rcases H with ⟨g79, H⟩ | ⟨g79, H⟩
      · refine x_tableIn (v := (9 : Int32)) (off := 144) dX3_readInto_36 g79 (by decide) (q := 180) (by decide) ?_
        refine x_aload_n (q := 181) dX3_readInto_180 rfl rfl ?_
        refine x_aload_n (q := 182) dX3_readInto_181 rfl rfl ?_
        refine x_bipush (q := 184) (v := (9 : Int32)) dX3_readInto_182 rfl (by decide) ?_
        refine x_iconst (q := 185) (v := (1 : Int32)) dX3_readInto_184 rfl (by decide) ?_
        refine x_bipush (q := 187) (v := (99 : Int32)) dX3_readInto_185 rfl (by decide) ?_
        replace H := kbe H; obtain ⟨r80, c81, H⟩ := H
        have m82 := s_X3_takeBehind (Z := Z) s.2 v0 (9 : Int32) (1 : Int32) (99 : Int32) hn c81
        refine x_callV (q := 190) (as := [.int (9 : Int32), .int (1 : Int32), .int (99 : Int32)]) (rest := [.ref v1]) dX3_readInto_187 rfl kc_RX3_76 kh_X3_takeBehind (by decide) (Nat.le_of_ble_eq_true rfl) m82 (ci := 3) (by exact ⟨rfl, by decide⟩) (k243 g2 (by decide) hn) ?_
        have n83 : (r80.2).1 = 243 := m82.1.full hn
        replace H := kif H; obtain ⟨g84, H⟩ := H
        replace H := kle H; obtain ⟨h85, q86, H⟩ := H
        refine x_putI (q := 193) dX3_readInto_190 rfl kl_RX3_80 (Or.inl rfl) rfl (k243 g84 (by decide) n83) ?_
        refine x_nmH q86 ?_
        have n87 : h85.1 = 243 := by rw [q86]; exact n83
        refine x_goto dX3_readInto_193 (q := 228) (by decide) ?_
        refine x_sub (ls2 := [(0, .ref v0), (1, .ref v1), (2, .int s.1)]) [0, 1, 2] rfl ?_
        exact s_X3_readInto_b228 h85 v0 v1 s.1 n87 H
      replace H := kite H; rcases H with ⟨g88, H⟩ | ⟨g88, H⟩
      · refine x_tableIn (v := (10 : Int32)) (off := 160) dX3_readInto_36 g88 (by decide) (q := 196) (by decide) ?_
        refine x_aload_n (q := 197) dX3_readInto_196 rfl rfl ?_
        refine x_aload_n (q := 198) dX3_readInto_197 rfl rfl ?_
        refine x_bipush (q := 200) (v := (10 : Int32)) dX3_readInto_198 rfl (by decide) ?_
        refine x_iconst (q := 201) (v := (0 : Int32)) dX3_readInto_200 rfl (by decide) ?_
        refine x_sipush (q := 204) (v := (9999 : Int32)) dX3_readInto_201 rfl (by decide) ?_
        replace H := kbe H; obtain ⟨r89, c90, H⟩ := H
        have m91 := s_X3_takeBehind (Z := Z) s.2 v0 (10 : Int32) (0 : Int32) (9999 : Int32) hn c90
        refine x_callV (q := 207) (as := [.int (10 : Int32), .int (0 : Int32), .int (9999 : Int32)]) (rest := [.ref v1]) dX3_readInto_204 rfl kc_RX3_76 kh_X3_takeBehind (by decide) (Nat.le_of_ble_eq_true rfl) m91 (ci := 3) (by exact ⟨rfl, by decide⟩) (k243 g2 (by decide) hn) ?_
        have n92 : (r89.2).1 = 243 := m91.1.full hn
        replace H := kif H; obtain ⟨g93, H⟩ := H
        replace H := kle H; obtain ⟨h94, q95, H⟩ := H
        refine x_putI (q := 210) dX3_readInto_207 rfl kl_RX3_83 (Or.inl rfl) rfl (k243 g93 (by decide) n92) ?_
        refine x_nmH q95 ?_
        have n96 : h94.1 = 243 := by rw [q95]; exact n92
        refine x_goto dX3_readInto_210 (q := 228) (by decide) ?_
        refine x_sub (ls2 := [(0, .ref v0), (1, .ref v1), (2, .int s.1)]) [0, 1, 2] rfl ?_
        exact s_X3_readInto_b228 h94 v0 v1 s.1 n96 H
      refine x_tableOut dX3_readInto_36 (q := 213) (by decide) (by have z0 : r9.toInt ≠ 0 := kne g12 (by decide); have z1 : r9.toInt ≠ 1 := kne g17 (by decide); have z2 : r9.toInt ≠ 2 := kne g22 (by decide); have z3 : r9.toInt ≠ 3 := kne g27 (by decide); have z4 : r9.toInt ≠ 4 := kne g32 (by decide); have z5 : r9.toInt ≠ 5 := kne g37 (by decide); have z6 : r9.toInt ≠ 6 := kne g42 (by decide); have z7 : r9.toInt ≠ 7 := kne g47 (by decide); have z8 : r9.toInt ≠ 8 := kne g52 (by decide); have z9 : r9.toInt ≠ 9 := kne g79 (by decide); have z10 : r9.toInt ≠ 10 := kne g88 (by decide); omega) ?_
      refine x_aload_n (q := 214) dX3_readInto_213 rfl rfl ?_
      refine x_getR (q := 217) dX3_readInto_214 rfl kl_RX3_9 rfl (k243 g2 (by decide) hn) g3 ?_
      refine x_iconst (q := 218) (v := (1 : Int32)) dX3_readInto_217 rfl (by decide) ?_
      refine x_aload_n (q := 219) dX3_readInto_218 rfl rfl ?_
      refine x_getR (q := 222) dX3_readInto_219 rfl kl_RX3_9 rfl (k243 g2 (by decide) hn) g3 ?_
      refine x_getI (q := 225) dX3_readInto_222 rfl kl_RX3_51 (Or.inl rfl) (k243 g4 (by decide) hn) ?_
      replace H := kbe H; obtain ⟨r97, c98, H⟩ := H
      have m99 := s_X7_stop (Z := Z) s.2 (kR s.2 v0 0) (1 : Int32) (kI s.2 (kR s.2 v0 0) 4) hn c98
      refine x_callV (q := 228) (as := [.int (1 : Int32), .int (kI s.2 (kR s.2 v0 0) 4)]) (rest := []) dX3_readInto_225 rfl kc_RX3_55 kh_X7_stop (by decide) (Nat.le_of_ble_eq_true rfl) m99 (ci := 7) (by exact ⟨rfl, by decide⟩) (k243 g4 (by decide) hn) ?_
      have n100 : (r97).1 = 243 := m99.1.full hn
      refine x_sub (ls2 := [(0, .ref v0), (1, .ref v1), (2, .int s.1)]) [0, 1, 2] rfl ?_
      exact s_X3_readInto_b228 r97 v0 v1 s.1 n100 H
theorem sl_X3_readInto_l13 {Z : Nat → (Nat → Nat) → State → Prop} (v0 : Nat) (v1 : Nat) (n : Nat) (s : Int32 × KH) (r : Int32 × KH) (hn : (s.2).1 = 243) (H : kloop (f_X3_readInto_l13 v0 v1) n s = some r) : KX Z RX3 cX3_readInto 3 false 221 (E_X3_readInto_l13 v0 v1 r) 13 [(0, .ref v0), (1, .ref v1), (2, .int s.1)] [] s.2 :=
  k_loop (ls := (fun (s : Int32 × KH) => ([(0, .ref v0), (1, .ref v1), (2, .int s.1)] : List (Nat × Value)))) (hp := (fun (s : Int32 × KH) => (s.2 : KH))) (G := E_X3_readInto_l13 v0 v1) (fun s t hn H => s_X3_readInto_l13 v0 v1 s t hn H) n s r hn H
def f_X3_readInto_b243 (h : KH) (v0 : Nat) (v2 : Int32) : Option (Int32 × KH) :=
  if kkind v0 = 3 then if (kR h v0 0) < 999999 then if kkind (kR h v0 0) = 7 then kb (f_X7_goesOn h (kR h v0 0)) fun r4 =>
  if r4 = 0 then
  some (v2, h)
  else
  kb (f_X7_stop h (kR h v0 0) (5 : Int32) (kI h (kR h v0 0) 4)) fun r8 =>
  some (v2, r8) else none else none else none
set_option maxHeartbeats 4000000 in
set_option maxRecDepth 100000 in
theorem s_X3_readInto_b243 {Z : Nat → (Nat → Nat) → State → Prop} (h : KH) (v0 : Nat) (v2 : Int32) {t : Int32 × KH} (hn : h.1 = 243) (H : f_X3_readInto_b243 h v0 v2 = some t) : KX Z RX3 cX3_readInto 3 false 221 (KRi cX3_readInto t.1 t.2) 243 [(0, .ref v0), (2, .int v2)] [] h := by
  unfold f_X3_readInto_b243 at H
  refine x_aload_n (q := 244) dX3_readInto_243 rfl rfl ?_
  replace H := kif H; obtain ⟨g1, H⟩ := H
  replace H := kif H; obtain ⟨g2, H⟩ := H
  refine x_getR (q := 247) dX3_readInto_244 rfl kl_RX3_9 rfl (k243 g1 (by decide) hn) g2 ?_
  replace H := kif H; obtain ⟨g3, H⟩ := H
  replace H := kbe H; obtain ⟨r4, c5, H⟩ := H
  have m6 := s_X7_goesOn (Z := Z) h (kR h v0 0) hn c5
  refine x_callV (q := 250) (as := []) (rest := []) dX3_readInto_247 rfl kc_RX3_29 kh_X7_goesOn (by decide) (Nat.le_of_ble_eq_true rfl) m6 (ci := 7) (by exact ⟨rfl, by decide⟩) (k243 g3 (by decide) hn) ?_
  replace H := kite H; rcases H with ⟨g7, H⟩ | ⟨g7, H⟩
  · refine x_if_eq_t dX3_readInto_250 (q := 268) (by decide) g7 ?_
    refine x_iload_n (q := 269) dX3_readInto_268 rfl rfl ?_
    cases H
    exact x_end ⟨dX3_readInto_269, rfl, rfl⟩
  · refine x_if_eq_f (q := 253) dX3_readInto_250 (t := 268) (by decide) rfl g7 ?_
    refine x_aload_n (q := 254) dX3_readInto_253 rfl rfl ?_
    refine x_getR (q := 257) dX3_readInto_254 rfl kl_RX3_9 rfl (k243 g1 (by decide) hn) g2 ?_
    refine x_iconst (q := 258) (v := (5 : Int32)) dX3_readInto_257 rfl (by decide) ?_
    refine x_aload_n (q := 259) dX3_readInto_258 rfl rfl ?_
    refine x_getR (q := 262) dX3_readInto_259 rfl kl_RX3_9 rfl (k243 g1 (by decide) hn) g2 ?_
    refine x_getI (q := 265) dX3_readInto_262 rfl kl_RX3_51 (Or.inl rfl) (k243 g3 (by decide) hn) ?_
    replace H := kbe H; obtain ⟨r8, c9, H⟩ := H
    have m10 := s_X7_stop (Z := Z) h (kR h v0 0) (5 : Int32) (kI h (kR h v0 0) 4) hn c9
    refine x_callV (q := 268) (as := [.int (5 : Int32), .int (kI h (kR h v0 0) 4)]) (rest := []) dX3_readInto_265 rfl kc_RX3_55 kh_X7_stop (by decide) (Nat.le_of_ble_eq_true rfl) m10 (ci := 7) (by exact ⟨rfl, by decide⟩) (k243 g3 (by decide) hn) ?_
    have n11 : (r8).1 = 243 := m10.1.full hn
    refine x_iload_n (q := 269) dX3_readInto_268 rfl rfl ?_
    cases H
    exact x_end ⟨dX3_readInto_269, rfl, rfl⟩
def f_X3_readInto (h : KH) (v0 : Nat) (v1 : Nat) : Option (Int32 × KH) :=
  if kkind v1 = 2 then kb (f_X2_clear h v1) fun r2 =>
  if kkind v0 = 3 then if (kR r2 v0 0) < 999999 then if kkind (kR r2 v0 0) = 7 then kb (f_X7_begin r2 (kR r2 v0 0)) fun r9 =>
  kb (kloop (f_X3_readInto_l13 v0 v1) KF ((0 : Int32), r9)) fun e13 =>
  f_X3_readInto_b243 e13.2 v0 e13.1 else none else none else none else none
set_option maxHeartbeats 4000000 in
set_option maxRecDepth 100000 in
theorem s0_X3_readInto {Z : Nat → (Nat → Nat) → State → Prop} (h : KH) (v0 : Nat) (v1 : Nat) {t : Int32 × KH} (hn : h.1 = 243) (H : f_X3_readInto h v0 v1 = some t) : KX Z RX3 cX3_readInto 3 false 221 (KRi cX3_readInto t.1 t.2) 0 [(0, .ref v0), (1, .ref v1)] [] h := by
  unfold f_X3_readInto at H
  refine x_aload_n (q := 1) dX3_readInto_0 rfl rfl ?_
  replace H := kif H; obtain ⟨g1, H⟩ := H
  replace H := kbe H; obtain ⟨r2, c3, H⟩ := H
  have m4 := s_X2_clear (Z := Z) h v1 hn c3
  refine x_callV (q := 4) (as := []) (rest := []) dX3_readInto_1 rfl kc_RX3_19 kh_X2_clear (by decide) (Nat.le_of_ble_eq_true rfl) m4 (ci := 2) (by exact ⟨rfl, by decide⟩) (k243 g1 (by decide) hn) ?_
  have n5 : (r2).1 = 243 := m4.1.full hn
  refine x_aload_n (q := 5) dX3_readInto_4 rfl rfl ?_
  replace H := kif H; obtain ⟨g6, H⟩ := H
  replace H := kif H; obtain ⟨g7, H⟩ := H
  refine x_getR (q := 8) dX3_readInto_5 rfl kl_RX3_9 rfl (k243 g6 (by decide) n5) g7 ?_
  replace H := kif H; obtain ⟨g8, H⟩ := H
  replace H := kbe H; obtain ⟨r9, c10, H⟩ := H
  have m11 := s_X7_begin (Z := Z) r2 (kR r2 v0 0) n5 c10
  refine x_callV (q := 11) (as := []) (rest := []) dX3_readInto_8 rfl kc_RX3_24 kh_X7_begin (by decide) (Nat.le_of_ble_eq_true rfl) m11 (ci := 7) (by exact ⟨rfl, by decide⟩) (k243 g8 (by decide) n5) ?_
  have n12 : (r9).1 = 243 := m11.1.full n5
  refine x_iconst (q := 12) (v := (0 : Int32)) dX3_readInto_11 rfl (by decide) ?_
  refine x_istore_n (q := 13) (i := 2) (ls2 := [(2, .int (0 : Int32)), (0, .ref v0), (1, .ref v1)]) dX3_readInto_12 rfl rfl (by decide) rfl ?_
  refine x_sub (ls2 := [(0, .ref v0), (1, .ref v1), (2, .int (0 : Int32))]) [1, 2, 0] rfl ?_
  replace H := kbe H; obtain ⟨e13, c14, H⟩ := H
  refine x_app (sl_X3_readInto_l13 v0 v1 KF ((0 : Int32), r9) e13 n12 c14) fun pc2 ls2 st2 h2 hg m15 => ?_
  obtain ⟨rfl, rfl, rfl, rfl⟩ := hg
  refine x_sub (ls2 := [(0, .ref v0), (2, .int e13.1)]) [0, 1] rfl ?_
  exact s_X3_readInto_b243 e13.2 v0 e13.1 (m15.full n12) H
theorem s_X3_readInto {Z : Nat → (Nat → Nat) → State → Prop} (h : KH) (v0 : Nat) (v1 : Nat) {t : Int32 × KH} (hn : h.1 = 243) (H : f_X3_readInto h v0 v1 = some t) : KM Z yX3_readInto cX3_readInto 3 (some .int) 221 [.ref v0, .ref v1] h (some (.int t.1)) t.2 :=
  kx_i (own := RX3) (ini := false) (by decide +kernel) (by decide +kernel) rfl (Nat.le_of_ble_eq_true rfl) (s0_X3_readInto h v0 v1 hn H)
theorem dX4_readQuestion_0 : decode cX4_readQuestion 0 = .ok (.aload_n 0, 1) := by decide +kernel
theorem dX4_readQuestion_1 : decode cX4_readQuestion 1 = .ok (.aload_n 1, 1) := by decide +kernel
theorem dX4_readQuestion_2 : decode cX4_readQuestion 2 = .ok (.iconst 1, 1) := by decide +kernel
theorem dX4_readQuestion_3 : decode cX4_readQuestion 3 = .ok (.invokevirtual 29, 3) := by decide +kernel
theorem dX4_readQuestion_6 : decode cX4_readQuestion 6 = .ok (.aload_n 0, 1) := by decide +kernel
theorem dX4_readQuestion_7 : decode cX4_readQuestion 7 = .ok (.getfield 15, 3) := by decide +kernel
theorem dX4_readQuestion_10 : decode cX4_readQuestion 10 = .ok (.invokevirtual 33, 3) := by decide +kernel
theorem dX4_readQuestion_13 : decode cX4_readQuestion 13 = .ok (.aload_n 0, 1) := by decide +kernel
theorem dX4_readQuestion_14 : decode cX4_readQuestion 14 = .ok (.getfield 15, 3) := by decide +kernel
theorem dX4_readQuestion_17 : decode cX4_readQuestion 17 = .ok (.invokevirtual 38, 3) := by decide +kernel
theorem dX4_readQuestion_20 : decode cX4_readQuestion 20 = .ok (.istore_n 2, 1) := by decide +kernel
theorem dX4_readQuestion_21 : decode cX4_readQuestion 21 = .ok (.iload_n 2, 1) := by decide +kernel
theorem dX4_readQuestion_22 : decode cX4_readQuestion 22 = .ok (.bipush 9, 2) := by decide +kernel
theorem dX4_readQuestion_24 : decode cX4_readQuestion 24 = .ok (.if_icmp .eq 15, 3) := by decide +kernel
theorem dX4_readQuestion_27 : decode cX4_readQuestion 27 = .ok (.iload_n 2, 1) := by decide +kernel
theorem dX4_readQuestion_28 : decode cX4_readQuestion 28 = .ok (.bipush 22, 2) := by decide +kernel
theorem dX4_readQuestion_30 : decode cX4_readQuestion 30 = .ok (.if_icmp .eq 9, 3) := by decide +kernel
theorem dX4_readQuestion_33 : decode cX4_readQuestion 33 = .ok (.iload_n 2, 1) := by decide +kernel
theorem dX4_readQuestion_34 : decode cX4_readQuestion 34 = .ok (.bipush 23, 2) := by decide +kernel
theorem dX4_readQuestion_36 : decode cX4_readQuestion 36 = .ok (.if_icmp .ne 18, 3) := by decide +kernel
theorem dX4_readQuestion_39 : decode cX4_readQuestion 39 = .ok (.aload_n 0, 1) := by decide +kernel
theorem dX4_readQuestion_40 : decode cX4_readQuestion 40 = .ok (.getfield 15, 3) := by decide +kernel
theorem dX4_readQuestion_43 : decode cX4_readQuestion 43 = .ok (.invokevirtual 42, 3) := by decide +kernel
theorem dX4_readQuestion_46 : decode cX4_readQuestion 46 = .ok (.aload_n 0, 1) := by decide +kernel
theorem dX4_readQuestion_47 : decode cX4_readQuestion 47 = .ok (.iconst 0, 1) := by decide +kernel
theorem dX4_readQuestion_48 : decode cX4_readQuestion 48 = .ok (.invokevirtual 45, 3) := by decide +kernel
theorem dX4_readQuestion_51 : decode cX4_readQuestion 51 = .ok (.goto 51, 3) := by decide +kernel
theorem dX4_readQuestion_54 : decode cX4_readQuestion 54 = .ok (.iload_n 2, 1) := by decide +kernel
theorem dX4_readQuestion_55 : decode cX4_readQuestion 55 = .ok (.bipush 24, 2) := by decide +kernel
theorem dX4_readQuestion_57 : decode cX4_readQuestion 57 = .ok (.if_icmp .eq 15, 3) := by decide +kernel
theorem dX4_readQuestion_60 : decode cX4_readQuestion 60 = .ok (.iload_n 2, 1) := by decide +kernel
theorem dX4_readQuestion_61 : decode cX4_readQuestion 61 = .ok (.bipush 25, 2) := by decide +kernel
theorem dX4_readQuestion_63 : decode cX4_readQuestion 63 = .ok (.if_icmp .eq 9, 3) := by decide +kernel
theorem dX4_readQuestion_66 : decode cX4_readQuestion 66 = .ok (.iload_n 2, 1) := by decide +kernel
theorem dX4_readQuestion_67 : decode cX4_readQuestion 67 = .ok (.bipush 26, 2) := by decide +kernel
theorem dX4_readQuestion_69 : decode cX4_readQuestion 69 = .ok (.if_icmp .ne 18, 3) := by decide +kernel
theorem dX4_readQuestion_72 : decode cX4_readQuestion 72 = .ok (.aload_n 0, 1) := by decide +kernel
theorem dX4_readQuestion_73 : decode cX4_readQuestion 73 = .ok (.getfield 15, 3) := by decide +kernel
theorem dX4_readQuestion_76 : decode cX4_readQuestion 76 = .ok (.invokevirtual 42, 3) := by decide +kernel
theorem dX4_readQuestion_79 : decode cX4_readQuestion 79 = .ok (.aload_n 0, 1) := by decide +kernel
theorem dX4_readQuestion_80 : decode cX4_readQuestion 80 = .ok (.iconst 0, 1) := by decide +kernel
theorem dX4_readQuestion_81 : decode cX4_readQuestion 81 = .ok (.invokevirtual 49, 3) := by decide +kernel
theorem dX4_readQuestion_84 : decode cX4_readQuestion 84 = .ok (.goto 18, 3) := by decide +kernel
theorem dX4_readQuestion_87 : decode cX4_readQuestion 87 = .ok (.aload_n 0, 1) := by decide +kernel
theorem dX4_readQuestion_88 : decode cX4_readQuestion 88 = .ok (.getfield 15, 3) := by decide +kernel
theorem dX4_readQuestion_91 : decode cX4_readQuestion 91 = .ok (.iconst 1, 1) := by decide +kernel
theorem dX4_readQuestion_92 : decode cX4_readQuestion 92 = .ok (.aload_n 0, 1) := by decide +kernel
theorem dX4_readQuestion_93 : decode cX4_readQuestion 93 = .ok (.getfield 15, 3) := by decide +kernel
theorem dX4_readQuestion_96 : decode cX4_readQuestion 96 = .ok (.getfield 52, 3) := by decide +kernel
theorem dX4_readQuestion_99 : decode cX4_readQuestion 99 = .ok (.invokevirtual 55, 3) := by decide +kernel
theorem dX4_readQuestion_102 : decode cX4_readQuestion 102 = .ok (.aload_n 0, 1) := by decide +kernel
theorem dX4_readQuestion_103 : decode cX4_readQuestion 103 = .ok (.getfield 15, 3) := by decide +kernel
theorem dX4_readQuestion_106 : decode cX4_readQuestion 106 = .ok (.invokevirtual 59, 3) := by decide +kernel
theorem dX4_readQuestion_109 : decode cX4_readQuestion 109 = .ok (.ifCond .eq 18, 3) := by decide +kernel
theorem dX4_readQuestion_112 : decode cX4_readQuestion 112 = .ok (.aload_n 0, 1) := by decide +kernel
theorem dX4_readQuestion_113 : decode cX4_readQuestion 113 = .ok (.getfield 15, 3) := by decide +kernel
theorem dX4_readQuestion_116 : decode cX4_readQuestion 116 = .ok (.iconst 1, 1) := by decide +kernel
theorem dX4_readQuestion_117 : decode cX4_readQuestion 117 = .ok (.aload_n 0, 1) := by decide +kernel
theorem dX4_readQuestion_118 : decode cX4_readQuestion 118 = .ok (.getfield 15, 3) := by decide +kernel
theorem dX4_readQuestion_121 : decode cX4_readQuestion 121 = .ok (.getfield 52, 3) := by decide +kernel
theorem dX4_readQuestion_124 : decode cX4_readQuestion 124 = .ok (.invokevirtual 55, 3) := by decide +kernel
theorem dX4_readQuestion_127 : decode cX4_readQuestion 127 = .ok (.iload_n 2, 1) := by decide +kernel
theorem dX4_readQuestion_128 : decode cX4_readQuestion 128 = .ok (.ireturn, 1) := by decide +kernel
theorem kc_RX4_29 : Cond.methodLink RX4 29 yX4_writeTo ∈ ktG ∧ (Cond.instanceMethod yX4_writeTo ∈ ktG ∧ Cond.selects yX4_writeTo.cls yX4_writeTo yX4_writeTo ∈ ktG) ∧ Cond.initialized yX4_writeTo.cls ∈ ktG ∧ Cond.code yX4_writeTo cX4_writeTo 3 none ∈ ktG := ⟨(kwm 1131 (by decide +kernel) (by decide +kernel)), ⟨(kwm 706 (by decide +kernel) (by decide +kernel)), (kwm 707 (by decide +kernel) (by decide +kernel))⟩, (kwm 132 (by decide +kernel) (by decide +kernel)), kwm 708 (by decide +kernel) (by decide +kernel)⟩
theorem kc_RX4_33 : Cond.methodLink RX4 33 yX7_begin ∈ ktG ∧ (Cond.instanceMethod yX7_begin ∈ ktG ∧ Cond.selects yX7_begin.cls yX7_begin yX7_begin ∈ ktG) ∧ Cond.initialized yX7_begin.cls ∈ ktG ∧ Cond.code yX7_begin cX7_begin 1 none ∈ ktG := ⟨(kwm 1132 (by decide +kernel) (by decide +kernel)), ⟨(kwm 615 (by decide +kernel) (by decide +kernel)), (kwm 616 (by decide +kernel) (by decide +kernel))⟩, (kwm 127 (by decide +kernel) (by decide +kernel)), kwm 617 (by decide +kernel) (by decide +kernel)⟩
theorem kc_RX4_59 : Cond.methodLink RX4 59 yX7_goesOn ∈ ktG ∧ (Cond.instanceMethod yX7_goesOn ∈ ktG ∧ Cond.selects yX7_goesOn.cls yX7_goesOn yX7_goesOn ∈ ktG) ∧ Cond.initialized yX7_goesOn.cls ∈ ktG ∧ Cond.code yX7_goesOn cX7_goesOn 1 (some .boolean) ∈ ktG := ⟨(kwm 1133 (by decide +kernel) (by decide +kernel)), ⟨(kwm 644 (by decide +kernel) (by decide +kernel)), (kwm 645 (by decide +kernel) (by decide +kernel))⟩, (kwm 127 (by decide +kernel) (by decide +kernel)), kwm 646 (by decide +kernel) (by decide +kernel)⟩
def f_X4_readQuestion_b102 (h : KH) (v0 : Nat) (v2 : Int32) : Option (Int32 × KH) :=
  if kkind v0 = 4 then if (kR h v0 0) < 999999 then if kkind (kR h v0 0) = 7 then kb (f_X7_goesOn h (kR h v0 0)) fun r4 =>
  if r4 = 0 then
  some (v2, h)
  else
  kb (f_X7_stop h (kR h v0 0) (1 : Int32) (kI h (kR h v0 0) 4)) fun r8 =>
  some (v2, r8) else none else none else none
set_option maxHeartbeats 4000000 in
set_option maxRecDepth 100000 in
theorem s_X4_readQuestion_b102 {Z : Nat → (Nat → Nat) → State → Prop} (h : KH) (v0 : Nat) (v2 : Int32) {t : Int32 × KH} (hn : h.1 = 243) (H : f_X4_readQuestion_b102 h v0 v2 = some t) : KX Z RX4 cX4_readQuestion 3 false 221 (KRi cX4_readQuestion t.1 t.2) 102 [(0, .ref v0), (2, .int v2)] [] h := by
  unfold f_X4_readQuestion_b102 at H
  refine x_aload_n (q := 103) dX4_readQuestion_102 rfl rfl ?_
  replace H := kif H; obtain ⟨g1, H⟩ := H
  replace H := kif H; obtain ⟨g2, H⟩ := H
  refine x_getR (q := 106) dX4_readQuestion_103 rfl kl_RX4_15 rfl (k243 g1 (by decide) hn) g2 ?_
  replace H := kif H; obtain ⟨g3, H⟩ := H
  replace H := kbe H; obtain ⟨r4, c5, H⟩ := H
  have m6 := s_X7_goesOn (Z := Z) h (kR h v0 0) hn c5
  refine x_callV (q := 109) (as := []) (rest := []) dX4_readQuestion_106 rfl kc_RX4_59 kh_X7_goesOn (by decide) (Nat.le_of_ble_eq_true rfl) m6 (ci := 7) (by exact ⟨rfl, by decide⟩) (k243 g3 (by decide) hn) ?_
  replace H := kite H; rcases H with ⟨g7, H⟩ | ⟨g7, H⟩
  · refine x_if_eq_t dX4_readQuestion_109 (q := 127) (by decide) g7 ?_
    refine x_iload_n (q := 128) dX4_readQuestion_127 rfl rfl ?_
    cases H
    exact x_end ⟨dX4_readQuestion_128, rfl, rfl⟩
  · refine x_if_eq_f (q := 112) dX4_readQuestion_109 (t := 127) (by decide) rfl g7 ?_
    refine x_aload_n (q := 113) dX4_readQuestion_112 rfl rfl ?_
    refine x_getR (q := 116) dX4_readQuestion_113 rfl kl_RX4_15 rfl (k243 g1 (by decide) hn) g2 ?_
    refine x_iconst (q := 117) (v := (1 : Int32)) dX4_readQuestion_116 rfl (by decide) ?_
    refine x_aload_n (q := 118) dX4_readQuestion_117 rfl rfl ?_
    refine x_getR (q := 121) dX4_readQuestion_118 rfl kl_RX4_15 rfl (k243 g1 (by decide) hn) g2 ?_
    refine x_getI (q := 124) dX4_readQuestion_121 rfl kl_RX4_52 (Or.inl rfl) (k243 g3 (by decide) hn) ?_
    replace H := kbe H; obtain ⟨r8, c9, H⟩ := H
    have m10 := s_X7_stop (Z := Z) h (kR h v0 0) (1 : Int32) (kI h (kR h v0 0) 4) hn c9
    refine x_callV (q := 127) (as := [.int (1 : Int32), .int (kI h (kR h v0 0) 4)]) (rest := []) dX4_readQuestion_124 rfl kc_RX4_55 kh_X7_stop (by decide) (Nat.le_of_ble_eq_true rfl) m10 (ci := 7) (by exact ⟨rfl, by decide⟩) (k243 g3 (by decide) hn) ?_
    have n11 : (r8).1 = 243 := m10.1.full hn
    refine x_iload_n (q := 128) dX4_readQuestion_127 rfl rfl ?_
    cases H
    exact x_end ⟨dX4_readQuestion_128, rfl, rfl⟩
def f_X4_readQuestion_b39 (h : KH) (v0 : Nat) (v2 : Int32) : Option (Int32 × KH) :=
  if kkind v0 = 4 then if (kR h v0 0) < 999999 then if kkind (kR h v0 0) = 7 then kb (f_X7_next h (kR h v0 0)) fun r4 =>
  kb (f_X4_readTest r4 v0 (0 : Int32)) fun r8 =>
  f_X4_readQuestion_b102 r8 v0 v2 else none else none else none
set_option maxHeartbeats 4000000 in
set_option maxRecDepth 100000 in
theorem s_X4_readQuestion_b39 {Z : Nat → (Nat → Nat) → State → Prop} (h : KH) (v0 : Nat) (v2 : Int32) {t : Int32 × KH} (hn : h.1 = 243) (H : f_X4_readQuestion_b39 h v0 v2 = some t) : KX Z RX4 cX4_readQuestion 3 false 221 (KRi cX4_readQuestion t.1 t.2) 39 [(0, .ref v0), (2, .int v2)] [] h := by
  unfold f_X4_readQuestion_b39 at H
  refine x_aload_n (q := 40) dX4_readQuestion_39 rfl rfl ?_
  replace H := kif H; obtain ⟨g1, H⟩ := H
  replace H := kif H; obtain ⟨g2, H⟩ := H
  refine x_getR (q := 43) dX4_readQuestion_40 rfl kl_RX4_15 rfl (k243 g1 (by decide) hn) g2 ?_
  replace H := kif H; obtain ⟨g3, H⟩ := H
  replace H := kbe H; obtain ⟨r4, c5, H⟩ := H
  have m6 := s_X7_next (Z := Z) h (kR h v0 0) hn c5
  refine x_callV (q := 46) (as := []) (rest := []) dX4_readQuestion_43 rfl kc_RX4_42 kh_X7_next (by decide) (Nat.le_of_ble_eq_true rfl) m6 (ci := 7) (by exact ⟨rfl, by decide⟩) (k243 g3 (by decide) hn) ?_
  have n7 : (r4).1 = 243 := m6.1.full hn
  refine x_aload_n (q := 47) dX4_readQuestion_46 rfl rfl ?_
  refine x_iconst (q := 48) (v := (0 : Int32)) dX4_readQuestion_47 rfl (by decide) ?_
  replace H := kbe H; obtain ⟨r8, c9, H⟩ := H
  have m10 := s_X4_readTest (Z := Z) r4 v0 (0 : Int32) n7 c9
  refine x_callV (q := 51) (as := [.int (0 : Int32)]) (rest := []) dX4_readQuestion_48 rfl kc_RX4_45 kh_X4_readTest (by decide) (Nat.le_of_ble_eq_true rfl) m10 (ci := 4) (by exact ⟨rfl, by decide⟩) (k243 g1 (by decide) n7) ?_
  have n11 : (r8).1 = 243 := m10.1.full n7
  refine x_goto dX4_readQuestion_51 (q := 102) (by decide) ?_
  refine x_sub (ls2 := [(0, .ref v0), (2, .int v2)]) [0, 1] rfl ?_
  exact s_X4_readQuestion_b102 r8 v0 v2 n11 H
def f_X4_readQuestion_b72 (h : KH) (v0 : Nat) (v2 : Int32) : Option (Int32 × KH) :=
  if kkind v0 = 4 then if (kR h v0 0) < 999999 then if kkind (kR h v0 0) = 7 then kb (f_X7_next h (kR h v0 0)) fun r4 =>
  kb (f_X4_readSum r4 v0 (0 : Int32)) fun r8 =>
  f_X4_readQuestion_b102 r8 v0 v2 else none else none else none
set_option maxHeartbeats 4000000 in
set_option maxRecDepth 100000 in
theorem s_X4_readQuestion_b72 {Z : Nat → (Nat → Nat) → State → Prop} (h : KH) (v0 : Nat) (v2 : Int32) {t : Int32 × KH} (hn : h.1 = 243) (H : f_X4_readQuestion_b72 h v0 v2 = some t) : KX Z RX4 cX4_readQuestion 3 false 221 (KRi cX4_readQuestion t.1 t.2) 72 [(0, .ref v0), (2, .int v2)] [] h := by
  unfold f_X4_readQuestion_b72 at H
  refine x_aload_n (q := 73) dX4_readQuestion_72 rfl rfl ?_
  replace H := kif H; obtain ⟨g1, H⟩ := H
  replace H := kif H; obtain ⟨g2, H⟩ := H
  refine x_getR (q := 76) dX4_readQuestion_73 rfl kl_RX4_15 rfl (k243 g1 (by decide) hn) g2 ?_
  replace H := kif H; obtain ⟨g3, H⟩ := H
  replace H := kbe H; obtain ⟨r4, c5, H⟩ := H
  have m6 := s_X7_next (Z := Z) h (kR h v0 0) hn c5
  refine x_callV (q := 79) (as := []) (rest := []) dX4_readQuestion_76 rfl kc_RX4_42 kh_X7_next (by decide) (Nat.le_of_ble_eq_true rfl) m6 (ci := 7) (by exact ⟨rfl, by decide⟩) (k243 g3 (by decide) hn) ?_
  have n7 : (r4).1 = 243 := m6.1.full hn
  refine x_aload_n (q := 80) dX4_readQuestion_79 rfl rfl ?_
  refine x_iconst (q := 81) (v := (0 : Int32)) dX4_readQuestion_80 rfl (by decide) ?_
  replace H := kbe H; obtain ⟨r8, c9, H⟩ := H
  have m10 := s_X4_readSum (Z := Z) r4 v0 (0 : Int32) n7 c9
  refine x_callV (q := 84) (as := [.int (0 : Int32)]) (rest := []) dX4_readQuestion_81 rfl kc_RX4_49 kh_X4_readSum (by decide) (Nat.le_of_ble_eq_true rfl) m10 (ci := 4) (by exact ⟨rfl, by decide⟩) (k243 g1 (by decide) n7) ?_
  have n11 : (r8).1 = 243 := m10.1.full n7
  refine x_goto dX4_readQuestion_84 (q := 102) (by decide) ?_
  refine x_sub (ls2 := [(0, .ref v0), (2, .int v2)]) [0, 1] rfl ?_
  exact s_X4_readQuestion_b102 r8 v0 v2 n11 H
def f_X4_readQuestion (h : KH) (v0 : Nat) (v1 : Nat) : Option (Int32 × KH) :=
  if kkind v0 = 4 then kb (f_X4_writeTo h v0 v1 (1 : Int32)) fun r2 =>
  if (kR r2 v0 0) < 999999 then if kkind (kR r2 v0 0) = 7 then kb (f_X7_begin r2 (kR r2 v0 0)) fun r8 =>
  if (kR r8 v0 0) < 999999 then if kkind (kR r8 v0 0) = 7 then kb (f_X7_wordHere r8 (kR r8 v0 0)) fun r14 =>
  if r14 = (9 : Int32) then
  f_X4_readQuestion_b39 r8 v0 r14
  else
  if r14 = (22 : Int32) then
  f_X4_readQuestion_b39 r8 v0 r14
  else
  if r14 = (23 : Int32) then
  f_X4_readQuestion_b39 r8 v0 r14
  else
  if r14 = (24 : Int32) then
  f_X4_readQuestion_b72 r8 v0 r14
  else
  if r14 = (25 : Int32) then
  f_X4_readQuestion_b72 r8 v0 r14
  else
  if r14 = (26 : Int32) then
  f_X4_readQuestion_b72 r8 v0 r14
  else
  kb (f_X7_stop r8 (kR r8 v0 0) (1 : Int32) (kI r8 (kR r8 v0 0) 4)) fun r23 =>
  f_X4_readQuestion_b102 r23 v0 r14 else none else none else none else none else none
set_option maxHeartbeats 4000000 in
set_option maxRecDepth 100000 in
theorem s0_X4_readQuestion {Z : Nat → (Nat → Nat) → State → Prop} (h : KH) (v0 : Nat) (v1 : Nat) {t : Int32 × KH} (hn : h.1 = 243) (H : f_X4_readQuestion h v0 v1 = some t) : KX Z RX4 cX4_readQuestion 3 false 221 (KRi cX4_readQuestion t.1 t.2) 0 [(0, .ref v0), (1, .ref v1)] [] h := by
  unfold f_X4_readQuestion at H
  refine x_aload_n (q := 1) dX4_readQuestion_0 rfl rfl ?_
  refine x_aload_n (q := 2) dX4_readQuestion_1 rfl rfl ?_
  refine x_iconst (q := 3) (v := (1 : Int32)) dX4_readQuestion_2 rfl (by decide) ?_
  replace H := kif H; obtain ⟨g1, H⟩ := H
  replace H := kbe H; obtain ⟨r2, c3, H⟩ := H
  have m4 := s_X4_writeTo (Z := Z) h v0 v1 (1 : Int32) hn c3
  refine x_callV (q := 6) (as := [.ref v1, .int (1 : Int32)]) (rest := []) dX4_readQuestion_3 rfl kc_RX4_29 kh_X4_writeTo (by decide) (Nat.le_of_ble_eq_true rfl) m4 (ci := 4) (by exact ⟨rfl, by decide⟩) (k243 g1 (by decide) hn) ?_
  have n5 : (r2).1 = 243 := m4.1.full hn
  refine x_aload_n (q := 7) dX4_readQuestion_6 rfl rfl ?_
  replace H := kif H; obtain ⟨g6, H⟩ := H
  refine x_getR (q := 10) dX4_readQuestion_7 rfl kl_RX4_15 rfl (k243 g1 (by decide) n5) g6 ?_
  replace H := kif H; obtain ⟨g7, H⟩ := H
  replace H := kbe H; obtain ⟨r8, c9, H⟩ := H
  have m10 := s_X7_begin (Z := Z) r2 (kR r2 v0 0) n5 c9
  refine x_callV (q := 13) (as := []) (rest := []) dX4_readQuestion_10 rfl kc_RX4_33 kh_X7_begin (by decide) (Nat.le_of_ble_eq_true rfl) m10 (ci := 7) (by exact ⟨rfl, by decide⟩) (k243 g7 (by decide) n5) ?_
  have n11 : (r8).1 = 243 := m10.1.full n5
  refine x_aload_n (q := 14) dX4_readQuestion_13 rfl rfl ?_
  replace H := kif H; obtain ⟨g12, H⟩ := H
  refine x_getR (q := 17) dX4_readQuestion_14 rfl kl_RX4_15 rfl (k243 g1 (by decide) n11) g12 ?_
  replace H := kif H; obtain ⟨g13, H⟩ := H
  replace H := kbe H; obtain ⟨r14, c15, H⟩ := H
  have m16 := s_X7_wordHere (Z := Z) r8 (kR r8 v0 0) n11 c15
  refine x_callV (q := 20) (as := []) (rest := []) dX4_readQuestion_17 rfl kc_RX4_38 kh_X7_wordHere (by decide) (Nat.le_of_ble_eq_true rfl) m16 (ci := 7) (by exact ⟨rfl, by decide⟩) (k243 g13 (by decide) n11) ?_
  refine x_istore_n (q := 21) (i := 2) (ls2 := [(2, .int r14), (0, .ref v0), (1, .ref v1)]) dX4_readQuestion_20 rfl rfl (by decide) rfl ?_
  refine x_iload_n (q := 22) dX4_readQuestion_21 rfl rfl ?_
  refine x_bipush (q := 24) (v := (9 : Int32)) dX4_readQuestion_22 rfl (by decide) ?_
  replace H := kite H; rcases H with ⟨g17, H⟩ | ⟨g17, H⟩
  · refine x_icmp_eq_t dX4_readQuestion_24 (q := 39) (by decide) g17 ?_
    refine x_sub (ls2 := [(0, .ref v0), (2, .int r14)]) [1, 0] rfl ?_
    exact s_X4_readQuestion_b39 r8 v0 r14 n11 H
  · refine x_icmp_eq_f (q := 27) dX4_readQuestion_24 (t := 39) (by decide) rfl g17 ?_
    refine x_iload_n (q := 28) dX4_readQuestion_27 rfl rfl ?_
    refine x_bipush (q := 30) (v := (22 : Int32)) dX4_readQuestion_28 rfl (by decide) ?_
    replace H := kite H; rcases H with ⟨g18, H⟩ | ⟨g18, H⟩
    · refine x_icmp_eq_t dX4_readQuestion_30 (q := 39) (by decide) g18 ?_
      refine x_sub (ls2 := [(0, .ref v0), (2, .int r14)]) [1, 0] rfl ?_
      exact s_X4_readQuestion_b39 r8 v0 r14 n11 H
    · refine x_icmp_eq_f (q := 33) dX4_readQuestion_30 (t := 39) (by decide) rfl g18 ?_
      refine x_iload_n (q := 34) dX4_readQuestion_33 rfl rfl ?_
      refine x_bipush (q := 36) (v := (23 : Int32)) dX4_readQuestion_34 rfl (by decide) ?_
      replace H := kite H; rcases H with ⟨g19, H⟩ | ⟨g19, H⟩
      · refine x_icmp_ne_f (q := 39) dX4_readQuestion_36 (t := 54) (by decide) rfl g19 ?_
        refine x_sub (ls2 := [(0, .ref v0), (2, .int r14)]) [1, 0] rfl ?_
        exact s_X4_readQuestion_b39 r8 v0 r14 n11 H
      · refine x_icmp_ne_t dX4_readQuestion_36 (q := 54) (by decide) g19 ?_
        refine x_iload_n (q := 55) dX4_readQuestion_54 rfl rfl ?_
        refine x_bipush (q := 57) (v := (24 : Int32)) dX4_readQuestion_55 rfl (by decide) ?_
        replace H := kite H; rcases H with ⟨g20, H⟩ | ⟨g20, H⟩
        · refine x_icmp_eq_t dX4_readQuestion_57 (q := 72) (by decide) g20 ?_
          refine x_sub (ls2 := [(0, .ref v0), (2, .int r14)]) [1, 0] rfl ?_
          exact s_X4_readQuestion_b72 r8 v0 r14 n11 H
        · refine x_icmp_eq_f (q := 60) dX4_readQuestion_57 (t := 72) (by decide) rfl g20 ?_
          refine x_iload_n (q := 61) dX4_readQuestion_60 rfl rfl ?_
          refine x_bipush (q := 63) (v := (25 : Int32)) dX4_readQuestion_61 rfl (by decide) ?_
          replace H := kite H; rcases H with ⟨g21, H⟩ | ⟨g21, H⟩
          · refine x_icmp_eq_t dX4_readQuestion_63 (q := 72) (by decide) g21 ?_
            refine x_sub (ls2 := [(0, .ref v0), (2, .int r14)]) [1, 0] rfl ?_
            exact s_X4_readQuestion_b72 r8 v0 r14 n11 H
          · refine x_icmp_eq_f (q := 66) dX4_readQuestion_63 (t := 72) (by decide) rfl g21 ?_
            refine x_iload_n (q := 67) dX4_readQuestion_66 rfl rfl ?_
            refine x_bipush (q := 69) (v := (26 : Int32)) dX4_readQuestion_67 rfl (by decide) ?_
            replace H := kite H; rcases H with ⟨g22, H⟩ | ⟨g22, H⟩
            · refine x_icmp_ne_f (q := 72) dX4_readQuestion_69 (t := 87) (by decide) rfl g22 ?_
              refine x_sub (ls2 := [(0, .ref v0), (2, .int r14)]) [1, 0] rfl ?_
              exact s_X4_readQuestion_b72 r8 v0 r14 n11 H
            · refine x_icmp_ne_t dX4_readQuestion_69 (q := 87) (by decide) g22 ?_
              refine x_aload_n (q := 88) dX4_readQuestion_87 rfl rfl ?_
              refine x_getR (q := 91) dX4_readQuestion_88 rfl kl_RX4_15 rfl (k243 g1 (by decide) n11) g12 ?_
              refine x_iconst (q := 92) (v := (1 : Int32)) dX4_readQuestion_91 rfl (by decide) ?_
              refine x_aload_n (q := 93) dX4_readQuestion_92 rfl rfl ?_
              refine x_getR (q := 96) dX4_readQuestion_93 rfl kl_RX4_15 rfl (k243 g1 (by decide) n11) g12 ?_
              refine x_getI (q := 99) dX4_readQuestion_96 rfl kl_RX4_52 (Or.inl rfl) (k243 g13 (by decide) n11) ?_
              replace H := kbe H; obtain ⟨r23, c24, H⟩ := H
              have m25 := s_X7_stop (Z := Z) r8 (kR r8 v0 0) (1 : Int32) (kI r8 (kR r8 v0 0) 4) n11 c24
              refine x_callV (q := 102) (as := [.int (1 : Int32), .int (kI r8 (kR r8 v0 0) 4)]) (rest := []) dX4_readQuestion_99 rfl kc_RX4_55 kh_X7_stop (by decide) (Nat.le_of_ble_eq_true rfl) m25 (ci := 7) (by exact ⟨rfl, by decide⟩) (k243 g13 (by decide) n11) ?_
              have n26 : (r23).1 = 243 := m25.1.full n11
              refine x_sub (ls2 := [(0, .ref v0), (2, .int r14)]) [1, 0] rfl ?_
              exact s_X4_readQuestion_b102 r23 v0 r14 n26 H
theorem s_X4_readQuestion {Z : Nat → (Nat → Nat) → State → Prop} (h : KH) (v0 : Nat) (v1 : Nat) {t : Int32 × KH} (hn : h.1 = 243) (H : f_X4_readQuestion h v0 v1 = some t) : KM Z yX4_readQuestion cX4_readQuestion 3 (some .int) 221 [.ref v0, .ref v1] h (some (.int t.1)) t.2 :=
  kx_i (own := RX4) (ini := false) (by decide +kernel) (by decide +kernel) rfl (Nat.le_of_ble_eq_true rfl) (s0_X4_readQuestion h v0 v1 hn H)
theorem dX11_court_0 : decode cX11_court 0 = .ok (.aload_n 0, 1) := by decide +kernel
theorem dX11_court_1 : decode cX11_court 1 = .ok (.getfield 50, 3) := by decide +kernel
theorem dX11_court_4 : decode cX11_court 4 = .ok (.aload_n 0, 1) := by decide +kernel
theorem dX11_court_5 : decode cX11_court 5 = .ok (.getfield 61, 3) := by decide +kernel
theorem dX11_court_8 : decode cX11_court 8 = .ok (.invokevirtual 126, 3) := by decide +kernel
theorem dX11_court_11 : decode cX11_court 11 = .ok (.istore_n 1, 1) := by decide +kernel
theorem dX11_court_12 : decode cX11_court 12 = .ok (.aload_n 0, 1) := by decide +kernel
theorem dX11_court_13 : decode cX11_court 13 = .ok (.getfield 12, 3) := by decide +kernel
theorem dX11_court_16 : decode cX11_court 16 = .ok (.iconst 0, 1) := by decide +kernel
theorem dX11_court_17 : decode cX11_court 17 = .ok (.putfield 115, 3) := by decide +kernel
theorem dX11_court_20 : decode cX11_court 20 = .ok (.aload_n 0, 1) := by decide +kernel
theorem dX11_court_21 : decode cX11_court 21 = .ok (.getfield 28, 3) := by decide +kernel
theorem dX11_court_24 : decode cX11_court 24 = .ok (.getfield 130, 3) := by decide +kernel
theorem dX11_court_27 : decode cX11_court 27 = .ok (.ifCond .eq 9, 3) := by decide +kernel
theorem dX11_court_30 : decode cX11_court 30 = .ok (.aload_n 0, 1) := by decide +kernel
theorem dX11_court_31 : decode cX11_court 31 = .ok (.iconst 1, 1) := by decide +kernel
theorem dX11_court_32 : decode cX11_court 32 = .ok (.invokevirtual 118, 3) := by decide +kernel
theorem dX11_court_35 : decode cX11_court 35 = .ok (.ireturn, 1) := by decide +kernel
theorem dX11_court_36 : decode cX11_court 36 = .ok (.aload_n 0, 1) := by decide +kernel
theorem dX11_court_37 : decode cX11_court 37 = .ok (.getfield 57, 3) := by decide +kernel
theorem dX11_court_40 : decode cX11_court 40 = .ok (.astore_n 2, 1) := by decide +kernel
theorem dX11_court_41 : decode cX11_court 41 = .ok (.aload_n 0, 1) := by decide +kernel
theorem dX11_court_42 : decode cX11_court 42 = .ok (.aload_n 0, 1) := by decide +kernel
theorem dX11_court_43 : decode cX11_court 43 = .ok (.getfield 61, 3) := by decide +kernel
theorem dX11_court_46 : decode cX11_court 46 = .ok (.putfield 57, 3) := by decide +kernel
theorem dX11_court_49 : decode cX11_court 49 = .ok (.aload_n 0, 1) := by decide +kernel
theorem dX11_court_50 : decode cX11_court 50 = .ok (.aload_n 2, 1) := by decide +kernel
theorem dX11_court_51 : decode cX11_court 51 = .ok (.putfield 61, 3) := by decide +kernel
theorem dX11_court_54 : decode cX11_court 54 = .ok (.aload_n 0, 1) := by decide +kernel
theorem dX11_court_55 : decode cX11_court 55 = .ok (.getfield 67, 3) := by decide +kernel
theorem dX11_court_58 : decode cX11_court 58 = .ok (.invokevirtual 133, 3) := by decide +kernel
theorem dX11_court_61 : decode cX11_court 61 = .ok (.aload_n 0, 1) := by decide +kernel
theorem dX11_court_62 : decode cX11_court 62 = .ok (.iconst 0, 1) := by decide +kernel
theorem dX11_court_63 : decode cX11_court 63 = .ok (.putfield 99, 3) := by decide +kernel
theorem dX11_court_66 : decode cX11_court 66 = .ok (.aload_n 0, 1) := by decide +kernel
theorem dX11_court_67 : decode cX11_court 67 = .ok (.getfield 77, 3) := by decide +kernel
theorem dX11_court_70 : decode cX11_court 70 = .ok (.iconst 0, 1) := by decide +kernel
theorem dX11_court_71 : decode cX11_court 71 = .ok (.putfield 136, 3) := by decide +kernel
theorem dX11_court_74 : decode cX11_court 74 = .ok (.aload_n 0, 1) := by decide +kernel
theorem dX11_court_75 : decode cX11_court 75 = .ok (.getfield 84, 3) := by decide +kernel
theorem dX11_court_78 : decode cX11_court 78 = .ok (.iconst 0, 1) := by decide +kernel
theorem dX11_court_79 : decode cX11_court 79 = .ok (.putfield 139, 3) := by decide +kernel
theorem dX11_court_82 : decode cX11_court 82 = .ok (.iload_n 1, 1) := by decide +kernel
theorem dX11_court_83 : decode cX11_court 83 = .ok (.ireturn, 1) := by decide +kernel
theorem kl_RX11_50 : KLk RX11 50 11 4 := ⟨RX11, TX11, 18, rfl, by decide, Or.inl (kwm 532 (by decide +kernel) (by decide +kernel))⟩
theorem kl_RX11_61 : KLk RX11 61 11 6 := ⟨RX11, TX11, 18, rfl, by decide, Or.inl (kwm 534 (by decide +kernel) (by decide +kernel))⟩
theorem kc_RX11_126 : Cond.methodLink RX11 126 yX3_readInto ∈ ktG ∧ (Cond.instanceMethod yX3_readInto ∈ ktG ∧ Cond.selects yX3_readInto.cls yX3_readInto yX3_readInto ∈ ktG) ∧ Cond.initialized yX3_readInto.cls ∈ ktG ∧ Cond.code yX3_readInto cX3_readInto 3 (some .int) ∈ ktG := ⟨(kwm 603 (by decide +kernel) (by decide +kernel)), ⟨(kwm 604 (by decide +kernel) (by decide +kernel)), (kwm 605 (by decide +kernel) (by decide +kernel))⟩, (kwm 133 (by decide +kernel) (by decide +kernel)), kwm 606 (by decide +kernel) (by decide +kernel)⟩
theorem kh_X3_readInto : yX3_readInto.cls ≠ "java/lang/invoke/MethodHandle" ∧ yX3_readInto.cls ≠ "java/lang/invoke/VarHandle" ∧ (parseMethodDescriptor yX3_readInto.desc).map (fun d => d.parameters.length) = some 1 := by decide +kernel
def f_X11_court (h : KH) (v0 : Nat) : Option (Int32 × KH) :=
  if kkind v0 = 11 then if (kR h v0 4) < 999999 then if (kR h v0 6) < 999999 then if kkind (kR h v0 4) = 3 then kb (f_X3_readInto h (kR h v0 4) (kR h v0 6)) fun r5 =>
  if (kR r5.2 v0 0) < 999999 then if kkind (kR r5.2 v0 0) = 9 then kl (ksI r5.2 (kR r5.2 v0 0) 1 (0 : Int32)) fun h11 =>
  if (kR h11 v0 2) < 999999 then if kkind (kR h11 v0 2) = 7 then if (kI h11 (kR h11 v0 2) 7) = 0 then
  if (kR h11 v0 5) < 999999 then kl (kR h11 v0 5) fun x18 =>
  if (kR h11 v0 6) < 999999 then if (kR h11 v0 6) < 999999 then kl (ksR h11 v0 5 (kR h11 v0 6)) fun h22 =>
  if x18 < 999999 then kl (ksR h22 v0 6 x18) fun h26 =>
  if (kR h26 v0 7) < 999999 then if kkind (kR h26 v0 7) = 8 then kb (f_X8_clear h26 (kR h26 v0 7)) fun r31 =>
  kl (ksI r31 v0 13 (0 : Int32)) fun h35 =>
  if (kR h35 v0 9) < 999999 then if kkind (kR h35 v0 9) = 5 then kl (ksI h35 (kR h35 v0 9) 3 (0 : Int32)) fun h40 =>
  if (kR h40 v0 10) < 999999 then if kkind (kR h40 v0 10) = 0 then kl (ksI h40 (kR h40 v0 10) 3 (0 : Int32)) fun h45 =>
  some (r5.1, h45) else none else none else none else none else none else none else none else none else none else none
  else
  kb (f_X11_refuse h11 v0 (1 : Int32)) fun r48 =>
  some (r48.1, r48.2) else none else none else none else none else none else none else none else none
set_option maxHeartbeats 4000000 in
set_option maxRecDepth 100000 in
theorem s0_X11_court {Z : Nat → (Nat → Nat) → State → Prop} (h : KH) (v0 : Nat) {t : Int32 × KH} (hn : h.1 = 243) (H : f_X11_court h v0 = some t) : KX Z RX11 cX11_court 3 false 222 (KRi cX11_court t.1 t.2) 0 [(0, .ref v0)] [] h := by
  unfold f_X11_court at H
  refine x_aload_n (q := 1) dX11_court_0 rfl rfl ?_
  replace H := kif H; obtain ⟨g1, H⟩ := H
  replace H := kif H; obtain ⟨g2, H⟩ := H
  refine x_getR (q := 4) dX11_court_1 rfl kl_RX11_50 rfl (k243 g1 (by decide) hn) g2 ?_
  refine x_aload_n (q := 5) dX11_court_4 rfl rfl ?_
  replace H := kif H; obtain ⟨g3, H⟩ := H
  refine x_getR (q := 8) dX11_court_5 rfl kl_RX11_61 rfl (k243 g1 (by decide) hn) g3 ?_
  replace H := kif H; obtain ⟨g4, H⟩ := H
  replace H := kbe H; obtain ⟨r5, c6, H⟩ := H
  have m7 := s_X3_readInto (Z := Z) h (kR h v0 4) (kR h v0 6) hn c6
  refine x_callV (q := 11) (as := [.ref (kR h v0 6)]) (rest := []) dX11_court_8 rfl kc_RX11_126 kh_X3_readInto (by decide) (Nat.le_of_ble_eq_true rfl) m7 (ci := 3) (by exact ⟨rfl, by decide⟩) (k243 g4 (by decide) hn) ?_
  have n8 : (r5.2).1 = 243 := m7.1.full hn
  refine x_istore_n (q := 12) (i := 1) (ls2 := [(1, .int r5.1), (0, .ref v0)]) dX11_court_11 rfl rfl (by decide) rfl ?_
  refine x_aload_n (q := 13) dX11_court_12 rfl rfl ?_
  replace H := kif H; obtain ⟨g9, H⟩ := H
  refine x_getR (q := 16) dX11_court_13 rfl kl_RX11_12 rfl (k243 g1 (by decide) n8) g9 ?_
  refine x_iconst (q := 17) (v := (0 : Int32)) dX11_court_16 rfl (by decide) ?_
  replace H := kif H; obtain ⟨g10, H⟩ := H
  replace H := kle H; obtain ⟨h11, q12, H⟩ := H
  refine x_putI (q := 20) dX11_court_17 rfl kl_RX11_115 (Or.inl rfl) rfl (k243 g10 (by decide) n8) ?_
  refine x_nmH q12 ?_
  have n13 : h11.1 = 243 := by rw [q12]; exact n8
  refine x_aload_n (q := 21) dX11_court_20 rfl rfl ?_
  replace H := kif H; obtain ⟨g14, H⟩ := H
  refine x_getR (q := 24) dX11_court_21 rfl kl_RX11_28 rfl (k243 g1 (by decide) n13) g14 ?_
  replace H := kif H; obtain ⟨g15, H⟩ := H
  refine x_getI (q := 27) dX11_court_24 rfl kl_RX11_130 (Or.inl rfl) (k243 g15 (by decide) n13) ?_
  replace H := kite H; rcases H with ⟨g16, H⟩ | ⟨g16, H⟩
  · refine x_if_eq_t dX11_court_27 (q := 36) (by decide) g16 ?_
    refine x_aload_n (q := 37) dX11_court_36 rfl rfl ?_
    replace H := kif H; obtain ⟨g17, H⟩ := H
    refine x_getR (q := 40) dX11_court_37 rfl kl_RX11_57 rfl (k243 g1 (by decide) n13) g17 ?_
    replace H := kle H; obtain ⟨x18, q19, H⟩ := H
    refine x_nmR q19 ?_
    refine x_astore_n (q := 41) (i := 2) (ls2 := [(2, .ref x18), (1, .int r5.1), (0, .ref v0)]) dX11_court_40 rfl rfl (by decide) rfl ?_
    refine x_aload_n (q := 42) dX11_court_41 rfl rfl ?_
    refine x_aload_n (q := 43) dX11_court_42 rfl rfl ?_
    replace H := kif H; obtain ⟨g20, H⟩ := H
    refine x_getR (q := 46) dX11_court_43 rfl kl_RX11_61 rfl (k243 g1 (by decide) n13) g20 ?_
    replace H := kif H; obtain ⟨g21, H⟩ := H
    replace H := kle H; obtain ⟨h22, q23, H⟩ := H
    refine x_putR (q := 49) dX11_court_46 rfl kl_RX11_57 (Or.inl rfl) rfl g21 (k243 g1 (by decide) n13) ?_
    refine x_nmH q23 ?_
    have n24 : h22.1 = 243 := by rw [q23]; exact n13
    refine x_aload_n (q := 50) dX11_court_49 rfl rfl ?_
    refine x_aload_n (q := 51) dX11_court_50 rfl rfl ?_
    replace H := kif H; obtain ⟨g25, H⟩ := H
    replace H := kle H; obtain ⟨h26, q27, H⟩ := H
    refine x_putR (q := 54) dX11_court_51 rfl kl_RX11_61 (Or.inl rfl) rfl g25 (k243 g1 (by decide) n24) ?_
    refine x_nmH q27 ?_
    have n28 : h26.1 = 243 := by rw [q27]; exact n24
    refine x_aload_n (q := 55) dX11_court_54 rfl rfl ?_
    replace H := kif H; obtain ⟨g29, H⟩ := H
    refine x_getR (q := 58) dX11_court_55 rfl kl_RX11_67 rfl (k243 g1 (by decide) n28) g29 ?_
    replace H := kif H; obtain ⟨g30, H⟩ := H
    replace H := kbe H; obtain ⟨r31, c32, H⟩ := H
    have m33 := s_X8_clear (Z := Z) h26 (kR h26 v0 7) n28 c32
    refine x_callV (q := 61) (as := []) (rest := []) dX11_court_58 rfl kc_RX11_133 kh_X8_clear (by decide) (Nat.le_of_ble_eq_true rfl) m33 (ci := 8) (by exact ⟨rfl, by decide⟩) (k243 g30 (by decide) n28) ?_
    have n34 : (r31).1 = 243 := m33.1.full n28
    refine x_aload_n (q := 62) dX11_court_61 rfl rfl ?_
    refine x_iconst (q := 63) (v := (0 : Int32)) dX11_court_62 rfl (by decide) ?_
    replace H := kle H; obtain ⟨h35, q36, H⟩ := H
    refine x_putI (q := 66) dX11_court_63 rfl kl_RX11_99 (Or.inl rfl) rfl (k243 g1 (by decide) n34) ?_
    refine x_nmH q36 ?_
    have n37 : h35.1 = 243 := by rw [q36]; exact n34
    refine x_aload_n (q := 67) dX11_court_66 rfl rfl ?_
    replace H := kif H; obtain ⟨g38, H⟩ := H
    refine x_getR (q := 70) dX11_court_67 rfl kl_RX11_77 rfl (k243 g1 (by decide) n37) g38 ?_
    refine x_iconst (q := 71) (v := (0 : Int32)) dX11_court_70 rfl (by decide) ?_
    replace H := kif H; obtain ⟨g39, H⟩ := H
    replace H := kle H; obtain ⟨h40, q41, H⟩ := H
    refine x_putI (q := 74) dX11_court_71 rfl kl_RX11_136 (Or.inl rfl) rfl (k243 g39 (by decide) n37) ?_
    refine x_nmH q41 ?_
    have n42 : h40.1 = 243 := by rw [q41]; exact n37
    refine x_aload_n (q := 75) dX11_court_74 rfl rfl ?_
    replace H := kif H; obtain ⟨g43, H⟩ := H
    refine x_getR (q := 78) dX11_court_75 rfl kl_RX11_84 rfl (k243 g1 (by decide) n42) g43 ?_
    refine x_iconst (q := 79) (v := (0 : Int32)) dX11_court_78 rfl (by decide) ?_
    replace H := kif H; obtain ⟨g44, H⟩ := H
    replace H := kle H; obtain ⟨h45, q46, H⟩ := H
    refine x_putI (q := 82) dX11_court_79 rfl kl_RX11_139 (Or.inl rfl) rfl (k243 g44 (by decide) n42) ?_
    refine x_nmH q46 ?_
    have n47 : h45.1 = 243 := by rw [q46]; exact n42
    refine x_iload_n (q := 83) dX11_court_82 rfl rfl ?_
    cases H
    exact x_end ⟨dX11_court_83, rfl, rfl⟩
  · refine x_if_eq_f (q := 30) dX11_court_27 (t := 36) (by decide) rfl g16 ?_
    refine x_aload_n (q := 31) dX11_court_30 rfl rfl ?_
    refine x_iconst (q := 32) (v := (1 : Int32)) dX11_court_31 rfl (by decide) ?_
    replace H := kbe H; obtain ⟨r48, c49, H⟩ := H
    have m50 := s_X11_refuse (Z := Z) h11 v0 (1 : Int32) n13 c49
    refine x_callV (q := 35) (as := [.int (1 : Int32)]) (rest := []) dX11_court_32 rfl kc_RX11_118 kh_X11_refuse (by decide) (Nat.le_of_ble_eq_true rfl) m50 (ci := 11) (by exact ⟨rfl, by decide⟩) (k243 g1 (by decide) n13) ?_
    have n51 : (r48.2).1 = 243 := m50.1.full n13
    cases H
    exact x_end ⟨dX11_court_35, rfl, rfl⟩
theorem s_X11_court {Z : Nat → (Nat → Nat) → State → Prop} (h : KH) (v0 : Nat) {t : Int32 × KH} (hn : h.1 = 243) (H : f_X11_court h v0 = some t) : KM Z yX11_court cX11_court 3 (some .int) 222 [.ref v0] h (some (.int t.1)) t.2 :=
  kx_i (own := RX11) (ini := false) (by decide +kernel) (by decide +kernel) rfl (Nat.le_of_ble_eq_true rfl) (s0_X11_court h v0 hn H)
theorem dX11_ask_0 : decode cX11_ask 0 = .ok (.aload_n 0, 1) := by decide +kernel
theorem dX11_ask_1 : decode cX11_ask 1 = .ok (.getfield 41, 3) := by decide +kernel
theorem dX11_ask_4 : decode cX11_ask 4 = .ok (.aload_n 0, 1) := by decide +kernel
theorem dX11_ask_5 : decode cX11_ask 5 = .ok (.getfield 19, 3) := by decide +kernel
theorem dX11_ask_8 : decode cX11_ask 8 = .ok (.getfield 34, 3) := by decide +kernel
theorem dX11_ask_11 : decode cX11_ask 11 = .ok (.invokevirtual 313, 3) := by decide +kernel
theorem dX11_ask_14 : decode cX11_ask 14 = .ok (.istore_n 1, 1) := by decide +kernel
theorem dX11_ask_15 : decode cX11_ask 15 = .ok (.aload_n 0, 1) := by decide +kernel
theorem dX11_ask_16 : decode cX11_ask 16 = .ok (.getfield 12, 3) := by decide +kernel
theorem dX11_ask_19 : decode cX11_ask 19 = .ok (.iconst 0, 1) := by decide +kernel
theorem dX11_ask_20 : decode cX11_ask 20 = .ok (.putfield 115, 3) := by decide +kernel
theorem dX11_ask_23 : decode cX11_ask 23 = .ok (.aload_n 0, 1) := by decide +kernel
theorem dX11_ask_24 : decode cX11_ask 24 = .ok (.getfield 28, 3) := by decide +kernel
theorem dX11_ask_27 : decode cX11_ask 27 = .ok (.getfield 130, 3) := by decide +kernel
theorem dX11_ask_30 : decode cX11_ask 30 = .ok (.ifCond .eq 7, 3) := by decide +kernel
theorem dX11_ask_33 : decode cX11_ask 33 = .ok (.ldc2_w 221, 3) := by decide +kernel
theorem dX11_ask_36 : decode cX11_ask 36 = .ok (.lreturn, 1) := by decide +kernel
theorem dX11_ask_37 : decode cX11_ask 37 = .ok (.aload_n 0, 1) := by decide +kernel
theorem dX11_ask_38 : decode cX11_ask 38 = .ok (.getfield 91, 3) := by decide +kernel
theorem dX11_ask_41 : decode cX11_ask 41 = .ok (.aload_n 0, 1) := by decide +kernel
theorem dX11_ask_42 : decode cX11_ask 42 = .ok (.getfield 57, 3) := by decide +kernel
theorem dX11_ask_45 : decode cX11_ask 45 = .ok (.aload_n 0, 1) := by decide +kernel
theorem dX11_ask_46 : decode cX11_ask 46 = .ok (.getfield 67, 3) := by decide +kernel
theorem dX11_ask_49 : decode cX11_ask 49 = .ok (.invokevirtual 223, 3) := by decide +kernel
theorem dX11_ask_52 : decode cX11_ask 52 = .ok (.aload_n 0, 1) := by decide +kernel
theorem dX11_ask_53 : decode cX11_ask 53 = .ok (.getfield 19, 3) := by decide +kernel
theorem dX11_ask_56 : decode cX11_ask 56 = .ok (.iload_n 1, 1) := by decide +kernel
theorem dX11_ask_57 : decode cX11_ask 57 = .ok (.invokevirtual 317, 3) := by decide +kernel
theorem dX11_ask_60 : decode cX11_ask 60 = .ok (.iconst 0, 1) := by decide +kernel
theorem dX11_ask_61 : decode cX11_ask 61 = .ok (.istore_n 2, 1) := by decide +kernel
theorem dX11_ask_62 : decode cX11_ask 62 = .ok (.iload_n 2, 1) := by decide +kernel
theorem dX11_ask_63 : decode cX11_ask 63 = .ok (.aload_n 0, 1) := by decide +kernel
theorem dX11_ask_64 : decode cX11_ask 64 = .ok (.getfield 57, 3) := by decide +kernel
theorem dX11_ask_67 : decode cX11_ask 67 = .ok (.getfield 146, 3) := by decide +kernel
theorem dX11_ask_70 : decode cX11_ask 70 = .ok (.if_icmp .ge 37, 3) := by decide +kernel
theorem dX11_ask_73 : decode cX11_ask 73 = .ok (.aload_n 0, 1) := by decide +kernel
theorem dX11_ask_74 : decode cX11_ask 74 = .ok (.getfield 19, 3) := by decide +kernel
theorem dX11_ask_77 : decode cX11_ask 77 = .ok (.aload_n 0, 1) := by decide +kernel
theorem dX11_ask_78 : decode cX11_ask 78 = .ok (.getfield 57, 3) := by decide +kernel
theorem dX11_ask_81 : decode cX11_ask 81 = .ok (.aload_n 0, 1) := by decide +kernel
theorem dX11_ask_82 : decode cX11_ask 82 = .ok (.getfield 67, 3) := by decide +kernel
theorem dX11_ask_85 : decode cX11_ask 85 = .ok (.aload_n 0, 1) := by decide +kernel
theorem dX11_ask_86 : decode cX11_ask 86 = .ok (.getfield 91, 3) := by decide +kernel
theorem dX11_ask_89 : decode cX11_ask 89 = .ok (.iload_n 2, 1) := by decide +kernel
theorem dX11_ask_90 : decode cX11_ask 90 = .ok (.invokevirtual 320, 3) := by decide +kernel
theorem dX11_ask_93 : decode cX11_ask 93 = .ok (.aload_n 0, 1) := by decide +kernel
theorem dX11_ask_94 : decode cX11_ask 94 = .ok (.getfield 19, 3) := by decide +kernel
theorem dX11_ask_97 : decode cX11_ask 97 = .ok (.iload_n 2, 1) := by decide +kernel
theorem dX11_ask_98 : decode cX11_ask 98 = .ok (.invokevirtual 324, 3) := by decide +kernel
theorem dX11_ask_101 : decode cX11_ask 101 = .ok (.iinc 2 1, 3) := by decide +kernel
theorem dX11_ask_104 : decode cX11_ask 104 = .ok (.goto (-42), 3) := by decide +kernel
theorem dX11_ask_107 : decode cX11_ask 107 = .ok (.aload_n 0, 1) := by decide +kernel
theorem dX11_ask_108 : decode cX11_ask 108 = .ok (.getfield 19, 3) := by decide +kernel
theorem dX11_ask_111 : decode cX11_ask 111 = .ok (.getfield 327, 3) := by decide +kernel
theorem dX11_ask_114 : decode cX11_ask 114 = .ok (.lreturn, 1) := by decide +kernel
theorem kl_RX11_41 : KLk RX11 41 11 3 := ⟨RX11, TX11, 18, rfl, by decide, Or.inl (kwm 531 (by decide +kernel) (by decide +kernel))⟩
theorem kl_RX11_19 : KLk RX11 19 11 1 := ⟨RX11, TX11, 18, rfl, by decide, Or.inl (kwm 529 (by decide +kernel) (by decide +kernel))⟩
theorem kl_RX11_34 : KLk RX11 34 6 0 := ⟨RX6, TX6, 5, rfl, by decide, Or.inr (by decide +kernel)⟩
theorem kc_RX11_313 : Cond.methodLink RX11 313 yX4_readQuestion ∈ ktG ∧ (Cond.instanceMethod yX4_readQuestion ∈ ktG ∧ Cond.selects yX4_readQuestion.cls yX4_readQuestion yX4_readQuestion ∈ ktG) ∧ Cond.initialized yX4_readQuestion.cls ∈ ktG ∧ Cond.code yX4_readQuestion cX4_readQuestion 3 (some .int) ∈ ktG := ⟨(kwm 1127 (by decide +kernel) (by decide +kernel)), ⟨(kwm 1128 (by decide +kernel) (by decide +kernel)), (kwm 1129 (by decide +kernel) (by decide +kernel))⟩, (kwm 132 (by decide +kernel) (by decide +kernel)), kwm 1130 (by decide +kernel) (by decide +kernel)⟩
theorem kh_X4_readQuestion : yX4_readQuestion.cls ≠ "java/lang/invoke/MethodHandle" ∧ yX4_readQuestion.cls ≠ "java/lang/invoke/VarHandle" ∧ (parseMethodDescriptor yX4_readQuestion.desc).map (fun d => d.parameters.length) = some 1 := by decide +kernel
theorem kc_RX11_317 : Cond.methodLink RX11 317 yX6_begin ∈ ktG ∧ (Cond.instanceMethod yX6_begin ∈ ktG ∧ Cond.selects yX6_begin.cls yX6_begin yX6_begin ∈ ktG) ∧ Cond.initialized yX6_begin.cls ∈ ktG ∧ Cond.code yX6_begin cX6_begin 2 none ∈ ktG := ⟨(kwm 1134 (by decide +kernel) (by decide +kernel)), ⟨(kwm 1135 (by decide +kernel) (by decide +kernel)), (kwm 1136 (by decide +kernel) (by decide +kernel))⟩, (kwm 125 (by decide +kernel) (by decide +kernel)), kwm 1137 (by decide +kernel) (by decide +kernel)⟩
theorem kh_X6_begin : yX6_begin.cls ≠ "java/lang/invoke/MethodHandle" ∧ yX6_begin.cls ≠ "java/lang/invoke/VarHandle" ∧ (parseMethodDescriptor yX6_begin.desc).map (fun d => d.parameters.length) = some 1 := by decide +kernel
theorem kc_RX11_320 : Cond.methodLink RX11 320 yX6_setValues ∈ ktG ∧ (Cond.instanceMethod yX6_setValues ∈ ktG ∧ Cond.selects yX6_setValues.cls yX6_setValues yX6_setValues ∈ ktG) ∧ Cond.initialized yX6_setValues.cls ∈ ktG ∧ Cond.code yX6_setValues cX6_setValues 9 none ∈ ktG := ⟨(kwm 1139 (by decide +kernel) (by decide +kernel)), ⟨(kwm 1140 (by decide +kernel) (by decide +kernel)), (kwm 1141 (by decide +kernel) (by decide +kernel))⟩, (kwm 125 (by decide +kernel) (by decide +kernel)), kwm 1142 (by decide +kernel) (by decide +kernel)⟩
theorem kh_X6_setValues : yX6_setValues.cls ≠ "java/lang/invoke/MethodHandle" ∧ yX6_setValues.cls ≠ "java/lang/invoke/VarHandle" ∧ (parseMethodDescriptor yX6_setValues.desc).map (fun d => d.parameters.length) = some 4 := by decide +kernel
theorem kc_RX11_324 : Cond.methodLink RX11 324 yX6_take ∈ ktG ∧ (Cond.instanceMethod yX6_take ∈ ktG ∧ Cond.selects yX6_take.cls yX6_take yX6_take ∈ ktG) ∧ Cond.initialized yX6_take.cls ∈ ktG ∧ Cond.code yX6_take cX6_take 3 none ∈ ktG := ⟨(kwm 1148 (by decide +kernel) (by decide +kernel)), ⟨(kwm 1149 (by decide +kernel) (by decide +kernel)), (kwm 1150 (by decide +kernel) (by decide +kernel))⟩, (kwm 125 (by decide +kernel) (by decide +kernel)), kwm 1151 (by decide +kernel) (by decide +kernel)⟩
theorem kh_X6_take : yX6_take.cls ≠ "java/lang/invoke/MethodHandle" ∧ yX6_take.cls ≠ "java/lang/invoke/VarHandle" ∧ (parseMethodDescriptor yX6_take.desc).map (fun d => d.parameters.length) = some 1 := by decide +kernel
theorem kl_RX11_327 : KLk RX11 327 6 3 := ⟨RX6, TX6, 5, rfl, by decide, Or.inr (by decide +kernel)⟩
def E_X11_ask_l62 (v0 : Nat) : KH → Nat → List (Nat × Value) → List Value → KH → Prop := fun (e : KH) pc ls st hh => pc = 107 ∧ ls = [(0, .ref v0)] ∧ st = [] ∧ e = hh
def B_X11_ask_l62 (v0 : Nat) : ((Int32 × KH) ⊕ (KH)) → Nat → List (Nat × Value) → List Value → KH → Prop := Sum.elim (fun (s : Int32 × KH) pc ls st hh => pc = 62 ∧ ls = [(0, .ref v0), (2, .int s.1)] ∧ st = [] ∧ hh = s.2) (E_X11_ask_l62 v0)
def f_X11_ask_l62 (v0 : Nat) (s : Int32 × KH) : Option ((Int32 × KH) ⊕ (KH)) :=
  if kkind v0 = 11 then if (kR s.2 v0 5) < 999999 then if kkind (kR s.2 v0 5) = 2 then if (kI s.2 (kR s.2 v0 5) 4) ≤ s.1 then
  some (.inr s.2)
  else
  if (kR s.2 v0 1) < 999999 then if (kR s.2 v0 7) < 999999 then if (kR s.2 v0 11) < 999999 then if kkind (kR s.2 v0 1) = 6 then kb (f_X6_setValues s.2 (kR s.2 v0 1) (kR s.2 v0 5) (kR s.2 v0 7) (kR s.2 v0 11) s.1) fun r9 =>
  if (kR r9 v0 1) < 999999 then if kkind (kR r9 v0 1) = 6 then kb (f_X6_take r9 (kR r9 v0 1) s.1) fun r15 =>
  kl (s.1 + (1 : Int32)) fun x19 =>
  some (.inl (x19, r15)) else none else none else none else none else none else none else none else none else none
set_option maxHeartbeats 4000000 in
set_option maxRecDepth 100000 in
theorem s_X11_ask_l62 {Z : Nat → (Nat → Nat) → State → Prop} (v0 : Nat) (s : Int32 × KH) (t : (Int32 × KH) ⊕ (KH)) (hn : (s.2).1 = 243) (H : f_X11_ask_l62 v0 s = some t) : KX Z RX11 cX11_ask 3 false 222 (B_X11_ask_l62 v0 t) 62 [(0, .ref v0), (2, .int s.1)] [] s.2 := by
  unfold f_X11_ask_l62 at H
  refine x_iload_n (q := 63) dX11_ask_62 rfl rfl ?_
  refine x_aload_n (q := 64) dX11_ask_63 rfl rfl ?_
  replace H := kif H; obtain ⟨g1, H⟩ := H
  replace H := kif H; obtain ⟨g2, H⟩ := H
  refine x_getR (q := 67) dX11_ask_64 rfl kl_RX11_57 rfl (k243 g1 (by decide) hn) g2 ?_
  replace H := kif H; obtain ⟨g3, H⟩ := H
  refine x_getI (q := 70) dX11_ask_67 rfl kl_RX11_146 (Or.inl rfl) (k243 g3 (by decide) hn) ?_
  replace H := kite H; rcases H with ⟨g4, H⟩ | ⟨g4, H⟩
  · refine x_icmp_ge_t dX11_ask_70 (q := 107) (by decide) g4 ?_
    cases H
    refine x_sub (ls2 := [(0, .ref v0)]) [0] rfl ?_
    exact x_end (x_cfg rfl)
  · refine x_icmp_ge_f (q := 73) dX11_ask_70 (t := 107) (by decide) rfl g4 ?_
    refine x_aload_n (q := 74) dX11_ask_73 rfl rfl ?_
    replace H := kif H; obtain ⟨g5, H⟩ := H
    refine x_getR (q := 77) dX11_ask_74 rfl kl_RX11_19 rfl (k243 g1 (by decide) hn) g5 ?_
    refine x_aload_n (q := 78) dX11_ask_77 rfl rfl ?_
    refine x_getR (q := 81) dX11_ask_78 rfl kl_RX11_57 rfl (k243 g1 (by decide) hn) g2 ?_
    refine x_aload_n (q := 82) dX11_ask_81 rfl rfl ?_
    replace H := kif H; obtain ⟨g6, H⟩ := H
    refine x_getR (q := 85) dX11_ask_82 rfl kl_RX11_67 rfl (k243 g1 (by decide) hn) g6 ?_
    refine x_aload_n (q := 86) dX11_ask_85 rfl rfl ?_
    replace H := kif H; obtain ⟨g7, H⟩ := H
    refine x_getR (q := 89) dX11_ask_86 rfl kl_RX11_91 rfl (k243 g1 (by decide) hn) g7 ?_
    refine x_iload_n (q := 90) dX11_ask_89 rfl rfl ?_
    replace H := kif H; obtain ⟨g8, H⟩ := H
    replace H := kbe H; obtain ⟨r9, c10, H⟩ := H
    have m11 := s_X6_setValues (Z := Z) s.2 (kR s.2 v0 1) (kR s.2 v0 5) (kR s.2 v0 7) (kR s.2 v0 11) s.1 hn c10
    refine x_callV (q := 93) (as := [.ref (kR s.2 v0 5), .ref (kR s.2 v0 7), .ref (kR s.2 v0 11), .int s.1]) (rest := []) dX11_ask_90 rfl kc_RX11_320 kh_X6_setValues (by decide) (Nat.le_of_ble_eq_true rfl) m11 (ci := 6) (by exact ⟨rfl, by decide⟩) (k243 g8 (by decide) hn) ?_
    have n12 : (r9).1 = 243 := m11.1.full hn
    refine x_aload_n (q := 94) dX11_ask_93 rfl rfl ?_
    replace H := kif H; obtain ⟨g13, H⟩ := H
    refine x_getR (q := 97) dX11_ask_94 rfl kl_RX11_19 rfl (k243 g1 (by decide) n12) g13 ?_
    refine x_iload_n (q := 98) dX11_ask_97 rfl rfl ?_
    replace H := kif H; obtain ⟨g14, H⟩ := H
    replace H := kbe H; obtain ⟨r15, c16, H⟩ := H
    have m17 := s_X6_take (Z := Z) r9 (kR r9 v0 1) s.1 n12 c16
    refine x_callV (q := 101) (as := [.int s.1]) (rest := []) dX11_ask_98 rfl kc_RX11_324 kh_X6_take (by decide) (Nat.le_of_ble_eq_true rfl) m17 (ci := 6) (by exact ⟨rfl, by decide⟩) (k243 g14 (by decide) n12) ?_
    have n18 : (r15).1 = 243 := m17.1.full n12
    replace H := kle H; obtain ⟨x19, q20, H⟩ := H
    refine x_iinc (q := 104) (i := 2) (ls2 := [(2, .int x19), (0, .ref v0)]) dX11_ask_101 rfl rfl (by decide) (by rw [q20]; rfl) ?_
    refine x_goto dX11_ask_104 (q := 62) (by decide) ?_
    cases H
    refine x_sub (ls2 := [(0, .ref v0), (2, .int x19)]) [1, 0] rfl ?_
    exact x_end (x_cfg rfl)
theorem sl_X11_ask_l62 {Z : Nat → (Nat → Nat) → State → Prop} (v0 : Nat) (n : Nat) (s : Int32 × KH) (r : KH) (hn : (s.2).1 = 243) (H : kloop (f_X11_ask_l62 v0) n s = some r) : KX Z RX11 cX11_ask 3 false 222 (E_X11_ask_l62 v0 r) 62 [(0, .ref v0), (2, .int s.1)] [] s.2 :=
  k_loop (ls := (fun (s : Int32 × KH) => ([(0, .ref v0), (2, .int s.1)] : List (Nat × Value)))) (hp := (fun (s : Int32 × KH) => (s.2 : KH))) (G := E_X11_ask_l62 v0) (fun s t hn H => s_X11_ask_l62 v0 s t hn H) n s r hn H
def f_X11_ask (h : KH) (v0 : Nat) : Option (Int64 × KH) :=
  if kkind v0 = 11 then if (kR h v0 3) < 999999 then if (kR h v0 1) < 999999 then if kkind (kR h v0 1) = 6 then if (kR h (kR h v0 1) 0) < 999999 then if kkind (kR h v0 3) = 4 then kb (f_X4_readQuestion h (kR h v0 3) (kR h (kR h v0 1) 0)) fun r7 =>
  if (kR r7.2 v0 0) < 999999 then if kkind (kR r7.2 v0 0) = 9 then kl (ksI r7.2 (kR r7.2 v0 0) 1 (0 : Int32)) fun h13 =>
  if (kR h13 v0 2) < 999999 then if kkind (kR h13 v0 2) = 7 then if (kI h13 (kR h13 v0 2) 7) = 0 then
  if (kR h13 v0 11) < 999999 then if (kR h13 v0 5) < 999999 then if (kR h13 v0 7) < 999999 then if kkind (kR h13 v0 11) = 10 then kb (f_X10_weigh h13 (kR h13 v0 11) (kR h13 v0 5) (kR h13 v0 7)) fun r23 =>
  if (kR r23 v0 1) < 999999 then if kkind (kR r23 v0 1) = 6 then kb (f_X6_begin r23 (kR r23 v0 1) r7.1) fun r29 =>
  kb (kloop (f_X11_ask_l62 v0) KF ((0 : Int32), r29)) fun e33 =>
  if (kR e33 v0 1) < 999999 then if kkind (kR e33 v0 1) = 6 then some ((kL e33 (kR e33 v0 1) 3), e33) else none else none else none else none else none else none else none else none
  else
  some ((-1000000000000000 : Int64), h13) else none else none else none else none else none else none else none else none else none else none
set_option maxHeartbeats 4000000 in
set_option maxRecDepth 100000 in
theorem s0_X11_ask {Z : Nat → (Nat → Nat) → State → Prop} (h : KH) (v0 : Nat) {t : Int64 × KH} (hn : h.1 = 243) (H : f_X11_ask h v0 = some t) : KX Z RX11 cX11_ask 3 false 222 (KRl cX11_ask t.1 t.2) 0 [(0, .ref v0)] [] h := by
  unfold f_X11_ask at H
  refine x_aload_n (q := 1) dX11_ask_0 rfl rfl ?_
  replace H := kif H; obtain ⟨g1, H⟩ := H
  replace H := kif H; obtain ⟨g2, H⟩ := H
  refine x_getR (q := 4) dX11_ask_1 rfl kl_RX11_41 rfl (k243 g1 (by decide) hn) g2 ?_
  refine x_aload_n (q := 5) dX11_ask_4 rfl rfl ?_
  replace H := kif H; obtain ⟨g3, H⟩ := H
  refine x_getR (q := 8) dX11_ask_5 rfl kl_RX11_19 rfl (k243 g1 (by decide) hn) g3 ?_
  replace H := kif H; obtain ⟨g4, H⟩ := H
  replace H := kif H; obtain ⟨g5, H⟩ := H
  refine x_getR (q := 11) dX11_ask_8 rfl kl_RX11_34 rfl (k243 g4 (by decide) hn) g5 ?_
  replace H := kif H; obtain ⟨g6, H⟩ := H
  replace H := kbe H; obtain ⟨r7, c8, H⟩ := H
  have m9 := s_X4_readQuestion (Z := Z) h (kR h v0 3) (kR h (kR h v0 1) 0) hn c8
  refine x_callV (q := 14) (as := [.ref (kR h (kR h v0 1) 0)]) (rest := []) dX11_ask_11 rfl kc_RX11_313 kh_X4_readQuestion (by decide) (Nat.le_of_ble_eq_true rfl) m9 (ci := 4) (by exact ⟨rfl, by decide⟩) (k243 g6 (by decide) hn) ?_
  have n10 : (r7.2).1 = 243 := m9.1.full hn
  refine x_istore_n (q := 15) (i := 1) (ls2 := [(1, .int r7.1), (0, .ref v0)]) dX11_ask_14 rfl rfl (by decide) rfl ?_
  refine x_aload_n (q := 16) dX11_ask_15 rfl rfl ?_
  replace H := kif H; obtain ⟨g11, H⟩ := H
  refine x_getR (q := 19) dX11_ask_16 rfl kl_RX11_12 rfl (k243 g1 (by decide) n10) g11 ?_
  refine x_iconst (q := 20) (v := (0 : Int32)) dX11_ask_19 rfl (by decide) ?_
  replace H := kif H; obtain ⟨g12, H⟩ := H
  replace H := kle H; obtain ⟨h13, q14, H⟩ := H
  refine x_putI (q := 23) dX11_ask_20 rfl kl_RX11_115 (Or.inl rfl) rfl (k243 g12 (by decide) n10) ?_
  refine x_nmH q14 ?_
  have n15 : h13.1 = 243 := by rw [q14]; exact n10
  refine x_aload_n (q := 24) dX11_ask_23 rfl rfl ?_
  replace H := kif H; obtain ⟨g16, H⟩ := H
  refine x_getR (q := 27) dX11_ask_24 rfl kl_RX11_28 rfl (k243 g1 (by decide) n15) g16 ?_
  replace H := kif H; obtain ⟨g17, H⟩ := H
  refine x_getI (q := 30) dX11_ask_27 rfl kl_RX11_130 (Or.inl rfl) (k243 g17 (by decide) n15) ?_
  replace H := kite H; rcases H with ⟨g18, H⟩ | ⟨g18, H⟩
  · refine x_if_eq_t dX11_ask_30 (q := 37) (by decide) g18 ?_
    refine x_aload_n (q := 38) dX11_ask_37 rfl rfl ?_
    replace H := kif H; obtain ⟨g19, H⟩ := H
    refine x_getR (q := 41) dX11_ask_38 rfl kl_RX11_91 rfl (k243 g1 (by decide) n15) g19 ?_
    refine x_aload_n (q := 42) dX11_ask_41 rfl rfl ?_
    replace H := kif H; obtain ⟨g20, H⟩ := H
    refine x_getR (q := 45) dX11_ask_42 rfl kl_RX11_57 rfl (k243 g1 (by decide) n15) g20 ?_
    refine x_aload_n (q := 46) dX11_ask_45 rfl rfl ?_
    replace H := kif H; obtain ⟨g21, H⟩ := H
    refine x_getR (q := 49) dX11_ask_46 rfl kl_RX11_67 rfl (k243 g1 (by decide) n15) g21 ?_
    replace H := kif H; obtain ⟨g22, H⟩ := H
    replace H := kbe H; obtain ⟨r23, c24, H⟩ := H
    have m25 := s_X10_weigh (Z := Z) h13 (kR h13 v0 11) (kR h13 v0 5) (kR h13 v0 7) n15 c24
    refine x_callV (q := 52) (as := [.ref (kR h13 v0 5), .ref (kR h13 v0 7)]) (rest := []) dX11_ask_49 rfl kc_RX11_223 kh_X10_weigh (by decide) (Nat.le_of_ble_eq_true rfl) m25 (ci := 10) (by exact ⟨rfl, by decide⟩) (k243 g22 (by decide) n15) ?_
    have n26 : (r23).1 = 243 := m25.1.full n15
    refine x_aload_n (q := 53) dX11_ask_52 rfl rfl ?_
    replace H := kif H; obtain ⟨g27, H⟩ := H
    refine x_getR (q := 56) dX11_ask_53 rfl kl_RX11_19 rfl (k243 g1 (by decide) n26) g27 ?_
    refine x_iload_n (q := 57) dX11_ask_56 rfl rfl ?_
    replace H := kif H; obtain ⟨g28, H⟩ := H
    replace H := kbe H; obtain ⟨r29, c30, H⟩ := H
    have m31 := s_X6_begin (Z := Z) r23 (kR r23 v0 1) r7.1 n26 c30
    refine x_callV (q := 60) (as := [.int r7.1]) (rest := []) dX11_ask_57 rfl kc_RX11_317 kh_X6_begin (by decide) (Nat.le_of_ble_eq_true rfl) m31 (ci := 6) (by exact ⟨rfl, by decide⟩) (k243 g28 (by decide) n26) ?_
    have n32 : (r29).1 = 243 := m31.1.full n26
    refine x_iconst (q := 61) (v := (0 : Int32)) dX11_ask_60 rfl (by decide) ?_
    refine x_istore_n (q := 62) (i := 2) (ls2 := [(2, .int (0 : Int32)), (1, .int r7.1), (0, .ref v0)]) dX11_ask_61 rfl rfl (by decide) rfl ?_
    refine x_sub (ls2 := [(0, .ref v0), (2, .int (0 : Int32))]) [2, 0] rfl ?_
    replace H := kbe H; obtain ⟨e33, c34, H⟩ := H
    refine x_app (sl_X11_ask_l62 v0 KF ((0 : Int32), r29) e33 n32 c34) fun pc2 ls2 st2 h2 hg m35 => ?_
    obtain ⟨rfl, rfl, rfl, rfl⟩ := hg
    refine x_aload_n (q := 108) dX11_ask_107 rfl rfl ?_
    replace H := kif H; obtain ⟨g36, H⟩ := H
    refine x_getR (q := 111) dX11_ask_108 rfl kl_RX11_19 rfl (k243 g1 (by decide) (m35.full n32)) g36 ?_
    replace H := kif H; obtain ⟨g37, H⟩ := H
    refine x_getL (q := 114) dX11_ask_111 rfl kl_RX11_327 rfl (k243 g37 (by decide) (m35.full n32)) ?_
    cases H
    exact x_end ⟨dX11_ask_114, rfl, rfl⟩
  · refine x_if_eq_f (q := 33) dX11_ask_30 (t := 37) (by decide) rfl g18 ?_
    refine x_ldc2 (q := 36) (v := (-1000000000000000 : Int64)) dX11_ask_33 rfl kk_RX11_221 ?_
    cases H
    exact x_end ⟨dX11_ask_36, rfl, rfl⟩
theorem s_X11_ask {Z : Nat → (Nat → Nat) → State → Prop} (h : KH) (v0 : Nat) {t : Int64 × KH} (hn : h.1 = 243) (H : f_X11_ask h v0 = some t) : KM Z yX11_ask cX11_ask 3 (some .long) 222 [.ref v0] h (some (.long t.1)) t.2 :=
  kx_l (own := RX11) (ini := false) (by decide +kernel) (by decide +kernel) rfl (Nat.le_of_ble_eq_true rfl) (s0_X11_ask h v0 hn H)
