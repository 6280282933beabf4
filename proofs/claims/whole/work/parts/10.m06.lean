-- methods as functions, and that the machine does as they say (by wip/whole/gen_all.py): X11_ahead, X11_known, X11_isAnswered, X11_tell, X11_explainsAnswers, X11_trick, X11_canHear, X11_beginAct, X11_hear, X11_look, X11_closeCase, X11_judge, X11_draw, X11_drawKind, X11_caseBySeed
theorem dX11_ahead_0 : decode cX11_ahead 0 = .ok (.iload_n 1, 1) := by decide +kernel
theorem dX11_ahead_1 : decode cX11_ahead 1 = .ok (.ifCond .lt 18, 3) := by decide +kernel
theorem dX11_ahead_4 : decode cX11_ahead 4 = .ok (.iload_n 1, 1) := by decide +kernel
theorem dX11_ahead_5 : decode cX11_ahead 5 = .ok (.bipush 30, 2) := by decide +kernel
theorem dX11_ahead_7 : decode cX11_ahead 7 = .ok (.if_icmp .ge 12, 3) := by decide +kernel
theorem dX11_ahead_10 : decode cX11_ahead 10 = .ok (.iload_n 2, 1) := by decide +kernel
theorem dX11_ahead_11 : decode cX11_ahead 11 = .ok (.ifCond .lt 8, 3) := by decide +kernel
theorem dX11_ahead_14 : decode cX11_ahead 14 = .ok (.iload_n 2, 1) := by decide +kernel
theorem dX11_ahead_15 : decode cX11_ahead 15 = .ok (.iconst 2, 1) := by decide +kernel
theorem dX11_ahead_16 : decode cX11_ahead 16 = .ok (.if_icmp .le 5, 3) := by decide +kernel
theorem dX11_ahead_19 : decode cX11_ahead 19 = .ok (.iconst (-1), 1) := by decide +kernel
theorem dX11_ahead_20 : decode cX11_ahead 20 = .ok (.ireturn, 1) := by decide +kernel
theorem dX11_ahead_21 : decode cX11_ahead 21 = .ok (.aload_n 0, 1) := by decide +kernel
theorem dX11_ahead_22 : decode cX11_ahead 22 = .ok (.iload_n 1, 1) := by decide +kernel
theorem dX11_ahead_23 : decode cX11_ahead 23 = .ok (.iconst 1, 1) := by decide +kernel
theorem dX11_ahead_24 : decode cX11_ahead 24 = .ok (.iadd, 1) := by decide +kernel
theorem dX11_ahead_25 : decode cX11_ahead 25 = .ok (.invokevirtual 270, 3) := by decide +kernel
theorem dX11_ahead_28 : decode cX11_ahead 28 = .ok (.aload_n 0, 1) := by decide +kernel
theorem dX11_ahead_29 : decode cX11_ahead 29 = .ok (.getfield 84, 3) := by decide +kernel
theorem dX11_ahead_32 : decode cX11_ahead 32 = .ok (.getfield 273, 3) := by decide +kernel
theorem dX11_ahead_35 : decode cX11_ahead 35 = .ok (.iload_n 1, 1) := by decide +kernel
theorem dX11_ahead_36 : decode cX11_ahead 36 = .ok (.iaload, 1) := by decide +kernel
theorem dX11_ahead_37 : decode cX11_ahead 37 = .ok (.istore_n 3, 1) := by decide +kernel
theorem dX11_ahead_38 : decode cX11_ahead 38 = .ok (.iload_n 3, 1) := by decide +kernel
theorem dX11_ahead_39 : decode cX11_ahead 39 = .ok (.iconst (-1), 1) := by decide +kernel
theorem dX11_ahead_40 : decode cX11_ahead 40 = .ok (.if_icmp .eq 7, 3) := by decide +kernel
theorem dX11_ahead_43 : decode cX11_ahead 43 = .ok (.iload_n 2, 1) := by decide +kernel
theorem dX11_ahead_44 : decode cX11_ahead 44 = .ok (.ifCond .ne 5, 3) := by decide +kernel
theorem dX11_ahead_47 : decode cX11_ahead 47 = .ok (.iload_n 3, 1) := by decide +kernel
theorem dX11_ahead_48 : decode cX11_ahead 48 = .ok (.ireturn, 1) := by decide +kernel
theorem dX11_ahead_49 : decode cX11_ahead 49 = .ok (.iload_n 2, 1) := by decide +kernel
theorem dX11_ahead_50 : decode cX11_ahead 50 = .ok (.iconst 1, 1) := by decide +kernel
theorem dX11_ahead_51 : decode cX11_ahead 51 = .ok (.if_icmp .ne 15, 3) := by decide +kernel
theorem dX11_ahead_54 : decode cX11_ahead 54 = .ok (.aload_n 0, 1) := by decide +kernel
theorem dX11_ahead_55 : decode cX11_ahead 55 = .ok (.getfield 84, 3) := by decide +kernel
theorem dX11_ahead_58 : decode cX11_ahead 58 = .ok (.getfield 276, 3) := by decide +kernel
theorem dX11_ahead_61 : decode cX11_ahead 61 = .ok (.iload_n 1, 1) := by decide +kernel
theorem dX11_ahead_62 : decode cX11_ahead 62 = .ok (.iaload, 1) := by decide +kernel
theorem dX11_ahead_63 : decode cX11_ahead 63 = .ok (.goto 11, 3) := by decide +kernel
theorem dX11_ahead_66 : decode cX11_ahead 66 = .ok (.aload_n 0, 1) := by decide +kernel
theorem dX11_ahead_67 : decode cX11_ahead 67 = .ok (.getfield 57, 3) := by decide +kernel
theorem dX11_ahead_70 : decode cX11_ahead 70 = .ok (.iload_n 3, 1) := by decide +kernel
theorem dX11_ahead_71 : decode cX11_ahead 71 = .ok (.invokevirtual 267, 3) := by decide +kernel
theorem dX11_ahead_74 : decode cX11_ahead 74 = .ok (.ireturn, 1) := by decide +kernel
theorem kc_RX11_270 : Cond.methodLink RX11 270 yX11_lookAhead ∈ ktG ∧ (Cond.instanceMethod yX11_lookAhead ∈ ktG ∧ Cond.selects yX11_lookAhead.cls yX11_lookAhead yX11_lookAhead ∈ ktG) ∧ Cond.initialized yX11_lookAhead.cls ∈ ktG ∧ Cond.code yX11_lookAhead cX11_lookAhead 4 none ∈ ktG := ⟨(kwm 1016 (by decide +kernel) (by decide +kernel)), ⟨(kwm 1018 (by decide +kernel) (by decide +kernel)), (kwm 24 (by decide +kernel) (by decide +kernel))⟩, (kwm 123 (by decide +kernel) (by decide +kernel)), kwm 1019 (by decide +kernel) (by decide +kernel)⟩
theorem kh_X11_lookAhead : yX11_lookAhead.cls ≠ "java/lang/invoke/MethodHandle" ∧ yX11_lookAhead.cls ≠ "java/lang/invoke/VarHandle" ∧ (parseMethodDescriptor yX11_lookAhead.desc).map (fun d => d.parameters.length) = some 1 := by decide +kernel
def f_X11_ahead (h : KH) (v0 : Nat) (v1 : Int32) (v2 : Int32) : Option (Int32 × KH) :=
  if v1 < 0 then
  some ((-1 : Int32), h)
  else
  if (30 : Int32) ≤ v1 then
  some ((-1 : Int32), h)
  else
  if v2 < 0 then
  some ((-1 : Int32), h)
  else
  if v2 ≤ (2 : Int32) then
  if kkind v0 = 11 then kb (f_X11_lookAhead h v0 (v1 + (1 : Int32))) fun r6 =>
  if (kR r6 v0 10) < 999999 then if kkind (kR r6 v0 10) = 0 then if (kR r6 (kR r6 v0 10) 0) < 999999 then if kkind (kR r6 (kR r6 v0 10) 0) = 20 then if (v1 < 0 ∨ klen (kR r6 (kR r6 v0 10) 0) ≤ (v1).toNatClampNeg) then none else kl (kI r6 (kR r6 (kR r6 v0 10) 0) ((v1).toNatClampNeg)) fun x15 =>
  if x15 = (-1 : Int32) then
  some (x15, r6)
  else
  if v2 = 0 then
  some (x15, r6)
  else
  if v2 = (1 : Int32) then
  if (kR r6 (kR r6 v0 10) 1) < 999999 then if kkind (kR r6 (kR r6 v0 10) 1) = 20 then if (v1 < 0 ∨ klen (kR r6 (kR r6 v0 10) 1) ≤ (v1).toNatClampNeg) then none else some ((kI r6 (kR r6 (kR r6 v0 10) 1) ((v1).toNatClampNeg)), r6) else none else none
  else
  if (kR r6 v0 5) < 999999 then if kkind (kR r6 v0 5) = 2 then kb (f_X2_harmOf r6 (kR r6 v0 5) x15) fun r22 =>
  some (r22, r6) else none else none else none else none else none else none else none
  else
  some ((-1 : Int32), h)
set_option maxHeartbeats 4000000 in
set_option maxRecDepth 100000 in
theorem s0_X11_ahead {Z : Nat → (Nat → Nat) → State → Prop} (h : KH) (v0 : Nat) (v1 : Int32) (v2 : Int32) {t : Int32 × KH} (hn : h.1 = 243) (H : f_X11_ahead h v0 v1 v2 = some t) : KX Z RX11 cX11_ahead 4 false 8 (KRi cX11_ahead t.1 t.2) 0 [(0, .ref v0), (1, .int v1), (2, .int v2)] [] h := by
  unfold f_X11_ahead at H
  refine x_iload_n (q := 1) dX11_ahead_0 rfl rfl ?_
  replace H := kite H; rcases H with ⟨g1, H⟩ | ⟨g1, H⟩
  · refine x_if_lt_t dX11_ahead_1 (q := 19) (by decide) g1 ?_
    refine x_iconst (q := 20) (v := (-1 : Int32)) dX11_ahead_19 rfl (by decide) ?_
    cases H
    exact x_end ⟨dX11_ahead_20, rfl, rfl⟩
  · refine x_if_lt_f (q := 4) dX11_ahead_1 (t := 19) (by decide) rfl g1 ?_
    refine x_iload_n (q := 5) dX11_ahead_4 rfl rfl ?_
    refine x_bipush (q := 7) (v := (30 : Int32)) dX11_ahead_5 rfl (by decide) ?_
    replace H := kite H; rcases H with ⟨g2, H⟩ | ⟨g2, H⟩
    · refine x_icmp_ge_t dX11_ahead_7 (q := 19) (by decide) g2 ?_
      refine x_iconst (q := 20) (v := (-1 : Int32)) dX11_ahead_19 rfl (by decide) ?_
      cases H
      exact x_end ⟨dX11_ahead_20, rfl, rfl⟩
    · refine x_icmp_ge_f (q := 10) dX11_ahead_7 (t := 19) (by decide) rfl g2 ?_
      refine x_iload_n (q := 11) dX11_ahead_10 rfl rfl ?_
      replace H := kite H; rcases H with ⟨g3, H⟩ | ⟨g3, H⟩
      · refine x_if_lt_t dX11_ahead_11 (q := 19) (by decide) g3 ?_
        refine x_iconst (q := 20) (v := (-1 : Int32)) dX11_ahead_19 rfl (by decide) ?_
        cases H
        exact x_end ⟨dX11_ahead_20, rfl, rfl⟩
      · refine x_if_lt_f (q := 14) dX11_ahead_11 (t := 19) (by decide) rfl g3 ?_
        refine x_iload_n (q := 15) dX11_ahead_14 rfl rfl ?_
        refine x_iconst (q := 16) (v := (2 : Int32)) dX11_ahead_15 rfl (by decide) ?_
        replace H := kite H; rcases H with ⟨g4, H⟩ | ⟨g4, H⟩
        · refine x_icmp_le_t dX11_ahead_16 (q := 21) (by decide) g4 ?_
          refine x_aload_n (q := 22) dX11_ahead_21 rfl rfl ?_
          refine x_iload_n (q := 23) dX11_ahead_22 rfl rfl ?_
          refine x_iconst (q := 24) (v := (1 : Int32)) dX11_ahead_23 rfl (by decide) ?_
          refine x_iadd (q := 25) dX11_ahead_24 rfl ?_
          replace H := kif H; obtain ⟨g5, H⟩ := H
          replace H := kbe H; obtain ⟨r6, c7, H⟩ := H
          have m8 := s_X11_lookAhead (Z := Z) h v0 (v1 + (1 : Int32)) hn c7
          refine x_callV (q := 28) (as := [.int (v1 + (1 : Int32))]) (rest := []) dX11_ahead_25 rfl kc_RX11_270 kh_X11_lookAhead (by decide) (Nat.le_of_ble_eq_true rfl) m8 (ci := 11) (by exact ⟨rfl, by decide⟩) (k243 g5 (by decide) hn) ?_
          have n9 : (r6).1 = 243 := m8.1.full hn
          refine x_aload_n (q := 29) dX11_ahead_28 rfl rfl ?_
          replace H := kif H; obtain ⟨g10, H⟩ := H
          refine x_getR (q := 32) dX11_ahead_29 rfl kl_RX11_84 rfl (k243 g5 (by decide) n9) g10 ?_
          replace H := kif H; obtain ⟨g11, H⟩ := H
          replace H := kif H; obtain ⟨g12, H⟩ := H
          refine x_getR (q := 35) dX11_ahead_32 rfl kl_RX11_273 rfl (k243 g11 (by decide) n9) g12 ?_
          refine x_iload_n (q := 36) dX11_ahead_35 rfl rfl ?_
          replace H := kif H; obtain ⟨g13, H⟩ := H
          replace H := kifn H; obtain ⟨g14, H⟩ := H
          refine x_iald (q := 37) dX11_ahead_36 rfl (k243 g13 (by decide) n9) g14 ?_
          replace H := kle H; obtain ⟨x15, q16, H⟩ := H
          refine x_nmI q16 ?_
          refine x_istore_n (q := 38) (i := 3) (ls2 := [(3, .int x15), (0, .ref v0), (1, .int v1), (2, .int v2)]) dX11_ahead_37 rfl rfl (by decide) rfl ?_
          refine x_iload_n (q := 39) dX11_ahead_38 rfl rfl ?_
          refine x_iconst (q := 40) (v := (-1 : Int32)) dX11_ahead_39 rfl (by decide) ?_
          replace H := kite H; rcases H with ⟨g17, H⟩ | ⟨g17, H⟩
          · refine x_icmp_eq_t dX11_ahead_40 (q := 47) (by decide) g17 ?_
            refine x_iload_n (q := 48) dX11_ahead_47 rfl rfl ?_
            cases H
            exact x_end ⟨dX11_ahead_48, rfl, rfl⟩
          · refine x_icmp_eq_f (q := 43) dX11_ahead_40 (t := 47) (by decide) rfl g17 ?_
            refine x_iload_n (q := 44) dX11_ahead_43 rfl rfl ?_
            replace H := kite H; rcases H with ⟨g18, H⟩ | ⟨g18, H⟩
            · refine x_if_ne_f (q := 47) dX11_ahead_44 (t := 49) (by decide) rfl g18 ?_
              refine x_iload_n (q := 48) dX11_ahead_47 rfl rfl ?_
              cases H
              exact x_end ⟨dX11_ahead_48, rfl, rfl⟩
            · refine x_if_ne_t dX11_ahead_44 (q := 49) (by decide) g18 ?_
              refine x_iload_n (q := 50) dX11_ahead_49 rfl rfl ?_
              refine x_iconst (q := 51) (v := (1 : Int32)) dX11_ahead_50 rfl (by decide) ?_
              replace H := kite H; rcases H with ⟨g19, H⟩ | ⟨g19, H⟩
              · refine x_icmp_ne_f (q := 54) dX11_ahead_51 (t := 66) (by decide) rfl g19 ?_
                refine x_aload_n (q := 55) dX11_ahead_54 rfl rfl ?_
                refine x_getR (q := 58) dX11_ahead_55 rfl kl_RX11_84 rfl (k243 g5 (by decide) n9) g10 ?_
                replace H := kif H; obtain ⟨g25, H⟩ := H
                refine x_getR (q := 61) dX11_ahead_58 rfl kl_RX11_276 rfl (k243 g11 (by decide) n9) g25 ?_
                refine x_iload_n (q := 62) dX11_ahead_61 rfl rfl ?_
                replace H := kif H; obtain ⟨g26, H⟩ := H
                replace H := kifn H; obtain ⟨g27, H⟩ := H
                refine x_iald (q := 63) dX11_ahead_62 rfl (k243 g26 (by decide) n9) g27 ?_
                refine x_goto dX11_ahead_63 (q := 74) (by decide) ?_
                cases H
                exact x_end ⟨dX11_ahead_74, rfl, rfl⟩
              · refine x_icmp_ne_t dX11_ahead_51 (q := 66) (by decide) g19 ?_
                refine x_aload_n (q := 67) dX11_ahead_66 rfl rfl ?_
                replace H := kif H; obtain ⟨g20, H⟩ := H
                refine x_getR (q := 70) dX11_ahead_67 rfl kl_RX11_57 rfl (k243 g5 (by decide) n9) g20 ?_
                refine x_iload_n (q := 71) dX11_ahead_70 rfl rfl ?_
                replace H := kif H; obtain ⟨g21, H⟩ := H
                replace H := kbe H; obtain ⟨r22, c23, H⟩ := H
                have m24 := s_X2_harmOf (Z := Z) r6 (kR r6 v0 5) x15 n9 c23
                refine x_callV (q := 74) (as := [.int x15]) (rest := []) dX11_ahead_71 rfl kc_RX11_267 kh_X2_harmOf (by decide) (Nat.le_of_ble_eq_true rfl) m24 (ci := 2) (by exact ⟨rfl, by decide⟩) (k243 g21 (by decide) n9) ?_
                cases H
                exact x_end ⟨dX11_ahead_74, rfl, rfl⟩
        · refine x_icmp_le_f (q := 19) dX11_ahead_16 (t := 21) (by decide) rfl g4 ?_
          refine x_iconst (q := 20) (v := (-1 : Int32)) dX11_ahead_19 rfl (by decide) ?_
          cases H
          exact x_end ⟨dX11_ahead_20, rfl, rfl⟩
theorem s_X11_ahead {Z : Nat → (Nat → Nat) → State → Prop} (h : KH) (v0 : Nat) (v1 : Int32) (v2 : Int32) {t : Int32 × KH} (hn : h.1 = 243) (H : f_X11_ahead h v0 v1 v2 = some t) : KM Z yX11_ahead cX11_ahead 4 (some .int) 8 [.ref v0, .int v1, .int v2] h (some (.int t.1)) t.2 :=
  kx_i (own := RX11) (ini := false) (by decide +kernel) (by decide +kernel) rfl (Nat.le_of_ble_eq_true rfl) (s0_X11_ahead h v0 v1 v2 hn H)
theorem dX11_known_0 : decode cX11_known 0 = .ok (.aload_n 0, 1) := by decide +kernel
theorem dX11_known_1 : decode cX11_known 1 = .ok (.iload_n 1, 1) := by decide +kernel
theorem dX11_known_2 : decode cX11_known 2 = .ok (.invokevirtual 188, 3) := by decide +kernel
theorem dX11_known_5 : decode cX11_known 5 = .ok (.ifCond .eq 13, 3) := by decide +kernel
theorem dX11_known_8 : decode cX11_known 8 = .ok (.iload_n 2, 1) := by decide +kernel
theorem dX11_known_9 : decode cX11_known 9 = .ok (.ifCond .lt 9, 3) := by decide +kernel
theorem dX11_known_12 : decode cX11_known 12 = .ok (.iload_n 2, 1) := by decide +kernel
theorem dX11_known_13 : decode cX11_known 13 = .ok (.bipush 99, 2) := by decide +kernel
theorem dX11_known_15 : decode cX11_known 15 = .ok (.if_icmp .le 5, 3) := by decide +kernel
theorem dX11_known_18 : decode cX11_known 18 = .ok (.iconst (-1), 1) := by decide +kernel
theorem dX11_known_19 : decode cX11_known 19 = .ok (.ireturn, 1) := by decide +kernel
theorem dX11_known_20 : decode cX11_known 20 = .ok (.aload_n 0, 1) := by decide +kernel
theorem dX11_known_21 : decode cX11_known 21 = .ok (.getfield 71, 3) := by decide +kernel
theorem dX11_known_24 : decode cX11_known 24 = .ok (.invokevirtual 133, 3) := by decide +kernel
theorem dX11_known_27 : decode cX11_known 27 = .ok (.aload_n 0, 1) := by decide +kernel
theorem dX11_known_28 : decode cX11_known 28 = .ok (.getfield 71, 3) := by decide +kernel
theorem dX11_known_31 : decode cX11_known 31 = .ok (.getfield 194, 3) := by decide +kernel
theorem dX11_known_34 : decode cX11_known 34 = .ok (.iload_n 1, 1) := by decide +kernel
theorem dX11_known_35 : decode cX11_known 35 = .ok (.iload_n 2, 1) := by decide +kernel
theorem dX11_known_36 : decode cX11_known 36 = .ok (.iastore, 1) := by decide +kernel
theorem dX11_known_37 : decode cX11_known 37 = .ok (.aload_n 0, 1) := by decide +kernel
theorem dX11_known_38 : decode cX11_known 38 = .ok (.getfield 91, 3) := by decide +kernel
theorem dX11_known_41 : decode cX11_known 41 = .ok (.aload_n 0, 1) := by decide +kernel
theorem dX11_known_42 : decode cX11_known 42 = .ok (.getfield 57, 3) := by decide +kernel
theorem dX11_known_45 : decode cX11_known 45 = .ok (.aload_n 0, 1) := by decide +kernel
theorem dX11_known_46 : decode cX11_known 46 = .ok (.getfield 71, 3) := by decide +kernel
theorem dX11_known_49 : decode cX11_known 49 = .ok (.invokevirtual 223, 3) := by decide +kernel
theorem dX11_known_52 : decode cX11_known 52 = .ok (.aload_n 0, 1) := by decide +kernel
theorem dX11_known_53 : decode cX11_known 53 = .ok (.getfield 91, 3) := by decide +kernel
theorem dX11_known_56 : decode cX11_known 56 = .ok (.aload_n 0, 1) := by decide +kernel
theorem dX11_known_57 : decode cX11_known 57 = .ok (.getfield 91, 3) := by decide +kernel
theorem dX11_known_60 : decode cX11_known 60 = .ok (.iconst 1, 1) := by decide +kernel
theorem dX11_known_61 : decode cX11_known 61 = .ok (.iload_n 1, 1) := by decide +kernel
theorem dX11_known_62 : decode cX11_known 62 = .ok (.ishl, 1) := by decide +kernel
theorem dX11_known_63 : decode cX11_known 63 = .ok (.invokevirtual 279, 3) := by decide +kernel
theorem dX11_known_66 : decode cX11_known 66 = .ok (.invokevirtual 235, 3) := by decide +kernel
theorem dX11_known_69 : decode cX11_known 69 = .ok (.ireturn, 1) := by decide +kernel
theorem kl_RX11_71 : KLk RX11 71 11 8 := ⟨RX11, TX11, 18, rfl, by decide, Or.inl (kwm 536 (by decide +kernel) (by decide +kernel))⟩
theorem kc_RX11_133 : Cond.methodLink RX11 133 yX8_clear ∈ ktG ∧ (Cond.instanceMethod yX8_clear ∈ ktG ∧ Cond.selects yX8_clear.cls yX8_clear yX8_clear ∈ ktG) ∧ Cond.initialized yX8_clear.cls ∈ ktG ∧ Cond.code yX8_clear cX8_clear 1 none ∈ ktG := ⟨(kwm 774 (by decide +kernel) (by decide +kernel)), ⟨(kwm 775 (by decide +kernel) (by decide +kernel)), (kwm 776 (by decide +kernel) (by decide +kernel))⟩, (kwm 135 (by decide +kernel) (by decide +kernel)), kwm 777 (by decide +kernel) (by decide +kernel)⟩
theorem kh_X8_clear : yX8_clear.cls ≠ "java/lang/invoke/MethodHandle" ∧ yX8_clear.cls ≠ "java/lang/invoke/VarHandle" ∧ (parseMethodDescriptor yX8_clear.desc).map (fun d => d.parameters.length) = some 0 := by decide +kernel
def f_X11_known (h : KH) (v0 : Nat) (v1 : Int32) (v2 : Int32) : Option (Int32 × KH) :=
  if kkind v0 = 11 then kb (f_X11_isTest h v0 v1) fun r2 =>
  if r2 = 0 then
  some ((-1 : Int32), h)
  else
  if v2 < 0 then
  some ((-1 : Int32), h)
  else
  if v2 ≤ (99 : Int32) then
  if (kR h v0 8) < 999999 then if kkind (kR h v0 8) = 8 then kb (f_X8_clear h (kR h v0 8)) fun r10 =>
  if (kR r10 v0 8) < 999999 then if kkind (kR r10 v0 8) = 8 then if (kR r10 (kR r10 v0 8) 3) < 999999 then if kkind (kR r10 (kR r10 v0 8) 3) = 20 then if (v1 < 0 ∨ klen (kR r10 (kR r10 v0 8) 3) ≤ (v1).toNatClampNeg) then none else kl (ksI r10 (kR r10 (kR r10 v0 8) 3) ((v1).toNatClampNeg) v2) fun h19 =>
  if (kR h19 v0 11) < 999999 then if (kR h19 v0 5) < 999999 then if (kR h19 v0 8) < 999999 then if kkind (kR h19 v0 11) = 10 then kb (f_X10_weigh h19 (kR h19 v0 11) (kR h19 v0 5) (kR h19 v0 8)) fun r26 =>
  if (kR r26 v0 11) < 999999 then if kkind (kR r26 v0 11) = 10 then kb (f_X10_rightOf r26 (kR r26 v0 11) ((1 : Int32) <<< (v1 &&& 31))) fun r32 =>
  kb (f_X10_share r32.2 (kR r26 v0 11) r32.1) fun r36 =>
  some (r36, r32.2) else none else none else none else none else none else none else none else none else none else none else none else none
  else
  some ((-1 : Int32), h) else none
set_option maxHeartbeats 4000000 in
set_option maxRecDepth 100000 in
theorem s0_X11_known {Z : Nat → (Nat → Nat) → State → Prop} (h : KH) (v0 : Nat) (v1 : Int32) (v2 : Int32) {t : Int32 × KH} (hn : h.1 = 243) (H : f_X11_known h v0 v1 v2 = some t) : KX Z RX11 cX11_known 3 false 7 (KRi cX11_known t.1 t.2) 0 [(0, .ref v0), (1, .int v1), (2, .int v2)] [] h := by
  unfold f_X11_known at H
  refine x_aload_n (q := 1) dX11_known_0 rfl rfl ?_
  refine x_iload_n (q := 2) dX11_known_1 rfl rfl ?_
  replace H := kif H; obtain ⟨g1, H⟩ := H
  replace H := kbe H; obtain ⟨r2, c3, H⟩ := H
  have m4 := s_X11_isTest (Z := Z) h v0 v1 hn c3
  refine x_callV (q := 5) (as := [.int v1]) (rest := []) dX11_known_2 rfl kc_RX11_188 kh_X11_isTest (by decide) (Nat.le_of_ble_eq_true rfl) m4 (ci := 11) (by exact ⟨rfl, by decide⟩) (k243 g1 (by decide) hn) ?_
  replace H := kite H; rcases H with ⟨g5, H⟩ | ⟨g5, H⟩
  · refine x_if_eq_t dX11_known_5 (q := 18) (by decide) g5 ?_
    refine x_iconst (q := 19) (v := (-1 : Int32)) dX11_known_18 rfl (by decide) ?_
    cases H
    exact x_end ⟨dX11_known_19, rfl, rfl⟩
  · refine x_if_eq_f (q := 8) dX11_known_5 (t := 18) (by decide) rfl g5 ?_
    refine x_iload_n (q := 9) dX11_known_8 rfl rfl ?_
    replace H := kite H; rcases H with ⟨g6, H⟩ | ⟨g6, H⟩
    · refine x_if_lt_t dX11_known_9 (q := 18) (by decide) g6 ?_
      refine x_iconst (q := 19) (v := (-1 : Int32)) dX11_known_18 rfl (by decide) ?_
      cases H
      exact x_end ⟨dX11_known_19, rfl, rfl⟩
    · refine x_if_lt_f (q := 12) dX11_known_9 (t := 18) (by decide) rfl g6 ?_
      refine x_iload_n (q := 13) dX11_known_12 rfl rfl ?_
      refine x_bipush (q := 15) (v := (99 : Int32)) dX11_known_13 rfl (by decide) ?_
      replace H := kite H; rcases H with ⟨g7, H⟩ | ⟨g7, H⟩
      · refine x_icmp_le_t dX11_known_15 (q := 20) (by decide) g7 ?_
        refine x_aload_n (q := 21) dX11_known_20 rfl rfl ?_
        replace H := kif H; obtain ⟨g8, H⟩ := H
        refine x_getR (q := 24) dX11_known_21 rfl kl_RX11_71 rfl (k243 g1 (by decide) hn) g8 ?_
        replace H := kif H; obtain ⟨g9, H⟩ := H
        replace H := kbe H; obtain ⟨r10, c11, H⟩ := H
        have m12 := s_X8_clear (Z := Z) h (kR h v0 8) hn c11
        refine x_callV (q := 27) (as := []) (rest := []) dX11_known_24 rfl kc_RX11_133 kh_X8_clear (by decide) (Nat.le_of_ble_eq_true rfl) m12 (ci := 8) (by exact ⟨rfl, by decide⟩) (k243 g9 (by decide) hn) ?_
        have n13 : (r10).1 = 243 := m12.1.full hn
        refine x_aload_n (q := 28) dX11_known_27 rfl rfl ?_
        replace H := kif H; obtain ⟨g14, H⟩ := H
        refine x_getR (q := 31) dX11_known_28 rfl kl_RX11_71 rfl (k243 g1 (by decide) n13) g14 ?_
        replace H := kif H; obtain ⟨g15, H⟩ := H
        replace H := kif H; obtain ⟨g16, H⟩ := H
        refine x_getR (q := 34) dX11_known_31 rfl kl_RX11_194 rfl (k243 g15 (by decide) n13) g16 ?_
        refine x_iload_n (q := 35) dX11_known_34 rfl rfl ?_
        refine x_iload_n (q := 36) dX11_known_35 rfl rfl ?_
        replace H := kif H; obtain ⟨g17, H⟩ := H
        replace H := kifn H; obtain ⟨g18, H⟩ := H
        replace H := kle H; obtain ⟨h19, q20, H⟩ := H
        refine x_iast (q := 37) dX11_known_36 rfl (k243 g17 (by decide) n13) g18 ?_
        refine x_nmH q20 ?_
        have n21 : h19.1 = 243 := by rw [q20]; exact n13
        refine x_aload_n (q := 38) dX11_known_37 rfl rfl ?_
        replace H := kif H; obtain ⟨g22, H⟩ := H
        refine x_getR (q := 41) dX11_known_38 rfl kl_RX11_91 rfl (k243 g1 (by decide) n21) g22 ?_
        refine x_aload_n (q := 42) dX11_known_41 rfl rfl ?_
        replace H := kif H; obtain ⟨g23, H⟩ := H
        refine x_getR (q := 45) dX11_known_42 rfl kl_RX11_57 rfl (k243 g1 (by decide) n21) g23 ?_
        refine x_aload_n (q := 46) dX11_known_45 rfl rfl ?_
        replace H := kif H; obtain ⟨g24, H⟩ := H
        refine x_getR (q := 49) dX11_known_46 rfl kl_RX11_71 rfl (k243 g1 (by decide) n21) g24 ?_
        replace H := kif H; obtain ⟨g25, H⟩ := H
        replace H := kbe H; obtain ⟨r26, c27, H⟩ := H
        have m28 := s_X10_weigh (Z := Z) h19 (kR h19 v0 11) (kR h19 v0 5) (kR h19 v0 8) n21 c27
        refine x_callV (q := 52) (as := [.ref (kR h19 v0 5), .ref (kR h19 v0 8)]) (rest := []) dX11_known_49 rfl kc_RX11_223 kh_X10_weigh (by decide) (Nat.le_of_ble_eq_true rfl) m28 (ci := 10) (by exact ⟨rfl, by decide⟩) (k243 g25 (by decide) n21) ?_
        have n29 : (r26).1 = 243 := m28.1.full n21
        refine x_aload_n (q := 53) dX11_known_52 rfl rfl ?_
        replace H := kif H; obtain ⟨g30, H⟩ := H
        refine x_getR (q := 56) dX11_known_53 rfl kl_RX11_91 rfl (k243 g1 (by decide) n29) g30 ?_
        refine x_aload_n (q := 57) dX11_known_56 rfl rfl ?_
        refine x_getR (q := 60) dX11_known_57 rfl kl_RX11_91 rfl (k243 g1 (by decide) n29) g30 ?_
        refine x_iconst (q := 61) (v := (1 : Int32)) dX11_known_60 rfl (by decide) ?_
        refine x_iload_n (q := 62) dX11_known_61 rfl rfl ?_
        refine x_ishl (q := 63) dX11_known_62 rfl ?_
        replace H := kif H; obtain ⟨g31, H⟩ := H
        replace H := kbe H; obtain ⟨r32, c33, H⟩ := H
        have m34 := s_X10_rightOf (Z := Z) r26 (kR r26 v0 11) ((1 : Int32) <<< (v1 &&& 31)) n29 c33
        refine x_callV (q := 66) (as := [.int ((1 : Int32) <<< (v1 &&& 31))]) (rest := [.ref (kR r26 v0 11)]) dX11_known_63 rfl kc_RX11_279 kh_X10_rightOf (by decide) (Nat.le_of_ble_eq_true rfl) m34 (ci := 10) (by exact ⟨rfl, by decide⟩) (k243 g31 (by decide) n29) ?_
        have n35 : (r32.2).1 = 243 := m34.1.full n29
        replace H := kbe H; obtain ⟨r36, c37, H⟩ := H
        have m38 := s_X10_share (Z := Z) r32.2 (kR r26 v0 11) r32.1 n35 c37
        refine x_callV (q := 69) (as := [.long r32.1]) (rest := []) dX11_known_66 rfl kc_RX11_235 kh_X10_share (by decide) (Nat.le_of_ble_eq_true rfl) m38 (ci := 10) (by exact ⟨rfl, by decide⟩) (k243 g31 (by decide) n35) ?_
        cases H
        exact x_end ⟨dX11_known_69, rfl, rfl⟩
      · refine x_icmp_le_f (q := 18) dX11_known_15 (t := 20) (by decide) rfl g7 ?_
        refine x_iconst (q := 19) (v := (-1 : Int32)) dX11_known_18 rfl (by decide) ?_
        cases H
        exact x_end ⟨dX11_known_19, rfl, rfl⟩
theorem s_X11_known {Z : Nat → (Nat → Nat) → State → Prop} (h : KH) (v0 : Nat) (v1 : Int32) (v2 : Int32) {t : Int32 × KH} (hn : h.1 = 243) (H : f_X11_known h v0 v1 v2 = some t) : KM Z yX11_known cX11_known 3 (some .int) 7 [.ref v0, .int v1, .int v2] h (some (.int t.1)) t.2 :=
  kx_i (own := RX11) (ini := false) (by decide +kernel) (by decide +kernel) rfl (Nat.le_of_ble_eq_true rfl) (s0_X11_known h v0 v1 v2 hn H)
theorem dX11_isAnswered_0 : decode cX11_isAnswered 0 = .ok (.aload_n 0, 1) := by decide +kernel
theorem dX11_isAnswered_1 : decode cX11_isAnswered 1 = .ok (.getfield 12, 3) := by decide +kernel
theorem dX11_isAnswered_4 : decode cX11_isAnswered 4 = .ok (.getfield 115, 3) := by decide +kernel
theorem dX11_isAnswered_7 : decode cX11_isAnswered 7 = .ok (.istore_n 1, 1) := by decide +kernel
theorem dX11_isAnswered_8 : decode cX11_isAnswered 8 = .ok (.iload_n 1, 1) := by decide +kernel
theorem dX11_isAnswered_9 : decode cX11_isAnswered 9 = .ok (.ifCond .eq 18, 3) := by decide +kernel
theorem dX11_isAnswered_12 : decode cX11_isAnswered 12 = .ok (.iload_n 1, 1) := by decide +kernel
theorem dX11_isAnswered_13 : decode cX11_isAnswered 13 = .ok (.iconst 4, 1) := by decide +kernel
theorem dX11_isAnswered_14 : decode cX11_isAnswered 14 = .ok (.irem, 1) := by decide +kernel
theorem dX11_isAnswered_15 : decode cX11_isAnswered 15 = .ok (.ifCond .ne 12, 3) := by decide +kernel
theorem dX11_isAnswered_18 : decode cX11_isAnswered 18 = .ok (.iload_n 1, 1) := by decide +kernel
theorem dX11_isAnswered_19 : decode cX11_isAnswered 19 = .ok (.aload_n 0, 1) := by decide +kernel
theorem dX11_isAnswered_20 : decode cX11_isAnswered 20 = .ok (.getfield 95, 3) := by decide +kernel
theorem dX11_isAnswered_23 : decode cX11_isAnswered 23 = .ok (.arraylength, 1) := by decide +kernel
theorem dX11_isAnswered_24 : decode cX11_isAnswered 24 = .ok (.if_icmp .le 5, 3) := by decide +kernel
theorem dX11_isAnswered_27 : decode cX11_isAnswered 27 = .ok (.iconst 0, 1) := by decide +kernel
theorem dX11_isAnswered_28 : decode cX11_isAnswered 28 = .ok (.ireturn, 1) := by decide +kernel
theorem dX11_isAnswered_29 : decode cX11_isAnswered 29 = .ok (.iconst 0, 1) := by decide +kernel
theorem dX11_isAnswered_30 : decode cX11_isAnswered 30 = .ok (.istore_n 2, 1) := by decide +kernel
theorem dX11_isAnswered_31 : decode cX11_isAnswered 31 = .ok (.iload_n 2, 1) := by decide +kernel
theorem dX11_isAnswered_32 : decode cX11_isAnswered 32 = .ok (.iload_n 1, 1) := by decide +kernel
theorem dX11_isAnswered_33 : decode cX11_isAnswered 33 = .ok (.if_icmp .ge 42, 3) := by decide +kernel
theorem dX11_isAnswered_36 : decode cX11_isAnswered 36 = .ok (.iload_n 2, 1) := by decide +kernel
theorem dX11_isAnswered_37 : decode cX11_isAnswered 37 = .ok (.iconst 4, 1) := by decide +kernel
theorem dX11_isAnswered_38 : decode cX11_isAnswered 38 = .ok (.irem, 1) := by decide +kernel
theorem dX11_isAnswered_39 : decode cX11_isAnswered 39 = .ok (.iconst 2, 1) := by decide +kernel
theorem dX11_isAnswered_40 : decode cX11_isAnswered 40 = .ok (.if_icmp .ge 13, 3) := by decide +kernel
theorem dX11_isAnswered_43 : decode cX11_isAnswered 43 = .ok (.aload_n 0, 1) := by decide +kernel
theorem dX11_isAnswered_44 : decode cX11_isAnswered 44 = .ok (.getfield 57, 3) := by decide +kernel
theorem dX11_isAnswered_47 : decode cX11_isAnswered 47 = .ok (.getfield 143, 3) := by decide +kernel
theorem dX11_isAnswered_50 : decode cX11_isAnswered 50 = .ok (.goto 4, 3) := by decide +kernel
theorem dX11_isAnswered_53 : decode cX11_isAnswered 53 = .ok (.iconst 2, 1) := by decide +kernel
theorem dX11_isAnswered_54 : decode cX11_isAnswered 54 = .ok (.istore_n 3, 1) := by decide +kernel
theorem dX11_isAnswered_55 : decode cX11_isAnswered 55 = .ok (.aload_n 0, 1) := by decide +kernel
theorem dX11_isAnswered_56 : decode cX11_isAnswered 56 = .ok (.getfield 12, 3) := by decide +kernel
theorem dX11_isAnswered_59 : decode cX11_isAnswered 59 = .ok (.iload_n 2, 1) := by decide +kernel
theorem dX11_isAnswered_60 : decode cX11_isAnswered 60 = .ok (.invokevirtual 286, 3) := by decide +kernel
theorem dX11_isAnswered_63 : decode cX11_isAnswered 63 = .ok (.iload_n 3, 1) := by decide +kernel
theorem dX11_isAnswered_64 : decode cX11_isAnswered 64 = .ok (.if_icmp .lt 5, 3) := by decide +kernel
theorem dX11_isAnswered_67 : decode cX11_isAnswered 67 = .ok (.iconst 0, 1) := by decide +kernel
theorem dX11_isAnswered_68 : decode cX11_isAnswered 68 = .ok (.ireturn, 1) := by decide +kernel
theorem dX11_isAnswered_69 : decode cX11_isAnswered 69 = .ok (.iinc 2 1, 3) := by decide +kernel
theorem dX11_isAnswered_72 : decode cX11_isAnswered 72 = .ok (.goto (-41), 3) := by decide +kernel
theorem dX11_isAnswered_75 : decode cX11_isAnswered 75 = .ok (.iconst 1, 1) := by decide +kernel
theorem dX11_isAnswered_76 : decode cX11_isAnswered 76 = .ok (.ireturn, 1) := by decide +kernel
theorem kl_RX11_95 : KLk RX11 95 11 12 := ⟨RX11, TX11, 18, rfl, by decide, Or.inl (kwm 540 (by decide +kernel) (by decide +kernel))⟩
theorem kc_RX11_286 : Cond.methodLink RX11 286 yX9_byteAt ∈ ktG ∧ (Cond.instanceMethod yX9_byteAt ∈ ktG ∧ Cond.selects yX9_byteAt.cls yX9_byteAt yX9_byteAt ∈ ktG) ∧ Cond.initialized yX9_byteAt.cls ∈ ktG ∧ Cond.code yX9_byteAt cX9_byteAt 2 (some .int) ∈ ktG := ⟨(kwm 1046 (by decide +kernel) (by decide +kernel)), ⟨(kwm 623 (by decide +kernel) (by decide +kernel)), (kwm 624 (by decide +kernel) (by decide +kernel))⟩, (kwm 124 (by decide +kernel) (by decide +kernel)), kwm 625 (by decide +kernel) (by decide +kernel)⟩
def E_X11_isAnswered_l31 (h : KH) (v0 : Nat) (v1 : Int32) : ((Unit) ⊕ (Int32)) → Nat → List (Nat × Value) → List Value → KH → Prop := Sum.elim (fun (e : Unit) pc ls st hh => pc = 75 ∧ ls = [] ∧ st = [] ∧ h = hh) (fun o => (KRz cX11_isAnswered o h))
def B_X11_isAnswered_l31 (h : KH) (v0 : Nat) (v1 : Int32) : ((Int32) ⊕ ((Unit) ⊕ (Int32))) → Nat → List (Nat × Value) → List Value → KH → Prop := Sum.elim (fun (s : Int32) pc ls st hh => pc = 31 ∧ ls = [(0, .ref v0), (1, .int v1), (2, .int s)] ∧ st = [] ∧ hh = h) (E_X11_isAnswered_l31 h v0 v1)
def f_X11_isAnswered_b54 (h : KH) (v0 : Nat) (v1 : Int32) (v2 : Int32) (w0 : Int32) : Option ((Int32) ⊕ ((Unit) ⊕ (Int32))) :=
  if kkind v0 = 11 then if (kR h v0 0) < 999999 then if kkind (kR h v0 0) = 9 then kb (f_X9_byteAt h (kR h v0 0) v2) fun r4 =>
  if r4 < w0 then
  kl (v2 + (1 : Int32)) fun x8 =>
  some (.inl x8)
  else
  kout2 (some (0 : Int32)) else none else none else none
set_option maxHeartbeats 4000000 in
set_option maxRecDepth 100000 in
theorem s_X11_isAnswered_b54 {Z : Nat → (Nat → Nat) → State → Prop} (h : KH) (v0 : Nat) (v1 : Int32) (v2 : Int32) (w0 : Int32) {t : (Int32) ⊕ ((Unit) ⊕ (Int32))} (hn : h.1 = 243) (H : f_X11_isAnswered_b54 h v0 v1 v2 w0 = some t) : KX Z RX11 cX11_isAnswered 4 false 2 (B_X11_isAnswered_l31 h v0 v1 t) 54 [(0, .ref v0), (1, .int v1), (2, .int v2)] [.int w0] h := by
  unfold f_X11_isAnswered_b54 at H
  refine x_istore_n (q := 55) (i := 3) (ls2 := [(3, .int w0), (0, .ref v0), (1, .int v1), (2, .int v2)]) dX11_isAnswered_54 rfl rfl (by decide) rfl ?_
  refine x_aload_n (q := 56) dX11_isAnswered_55 rfl rfl ?_
  replace H := kif H; obtain ⟨g1, H⟩ := H
  replace H := kif H; obtain ⟨g2, H⟩ := H
  refine x_getR (q := 59) dX11_isAnswered_56 rfl kl_RX11_12 rfl (k243 g1 (by decide) hn) g2 ?_
  refine x_iload_n (q := 60) dX11_isAnswered_59 rfl rfl ?_
  replace H := kif H; obtain ⟨g3, H⟩ := H
  replace H := kbe H; obtain ⟨r4, c5, H⟩ := H
  have m6 := s_X9_byteAt (Z := Z) h (kR h v0 0) v2 hn c5
  refine x_callV (q := 63) (as := [.int v2]) (rest := []) dX11_isAnswered_60 rfl kc_RX11_286 kh_X9_byteAt (by decide) (Nat.le_of_ble_eq_true rfl) m6 (ci := 9) (by exact ⟨rfl, by decide⟩) (k243 g3 (by decide) hn) ?_
  refine x_iload_n (q := 64) dX11_isAnswered_63 rfl rfl ?_
  replace H := kite H; rcases H with ⟨g7, H⟩ | ⟨g7, H⟩
  · refine x_icmp_lt_t dX11_isAnswered_64 (q := 69) (by decide) g7 ?_
    replace H := kle H; obtain ⟨x8, q9, H⟩ := H
    refine x_iinc (q := 72) (i := 2) (ls2 := [(2, .int x8), (3, .int w0), (0, .ref v0), (1, .int v1)]) dX11_isAnswered_69 rfl rfl (by decide) (by rw [q9]; rfl) ?_
    refine x_goto dX11_isAnswered_72 (q := 31) (by decide) ?_
    cases H
    refine x_sub (ls2 := [(0, .ref v0), (1, .int v1), (2, .int x8)]) [2, 3, 0] rfl ?_
    exact x_end (x_cfg rfl)
  · refine x_icmp_lt_f (q := 67) dX11_isAnswered_64 (t := 69) (by decide) rfl g7 ?_
    replace H := ko2e H; obtain ⟨o10, H, rfl⟩ := H
    refine x_iconst (q := 68) (v := (0 : Int32)) dX11_isAnswered_67 rfl (by decide) ?_
    cases H
    exact x_end ⟨(Or.inl rfl), dX11_isAnswered_68, rfl, rfl⟩
def f_X11_isAnswered_l31 (h : KH) (v0 : Nat) (v1 : Int32) (s : Int32) : Option ((Int32) ⊕ ((Unit) ⊕ (Int32))) :=
  if v1 ≤ s then
  some (.inr (.inl ()))
  else
  if (2 : Int32) ≤ (s - s / (4 : Int32) * (4 : Int32)) then
  f_X11_isAnswered_b54 h v0 v1 s (2 : Int32)
  else
  if kkind v0 = 11 then if (kR h v0 5) < 999999 then if kkind (kR h v0 5) = 2 then f_X11_isAnswered_b54 h v0 v1 s (kI h (kR h v0 5) 3) else none else none else none
set_option maxHeartbeats 4000000 in
set_option maxRecDepth 100000 in
theorem s_X11_isAnswered_l31 {Z : Nat → (Nat → Nat) → State → Prop} (h : KH) (v0 : Nat) (v1 : Int32) (s : Int32) (t : (Int32) ⊕ ((Unit) ⊕ (Int32))) (hn : (h).1 = 243) (H : f_X11_isAnswered_l31 h v0 v1 s = some t) : KX Z RX11 cX11_isAnswered 4 false 2 (B_X11_isAnswered_l31 h v0 v1 t) 31 [(0, .ref v0), (1, .int v1), (2, .int s)] [] h := by
  unfold f_X11_isAnswered_l31 at H
  refine x_iload_n (q := 32) dX11_isAnswered_31 rfl rfl ?_
  refine x_iload_n (q := 33) dX11_isAnswered_32 rfl rfl ?_
  replace H := kite H; rcases H with ⟨g1, H⟩ | ⟨g1, H⟩
  · refine x_icmp_ge_t dX11_isAnswered_33 (q := 75) (by decide) g1 ?_
    cases H
    refine x_sub (ls2 := []) [] rfl ?_
    exact x_end (x_cfg rfl)
  · refine x_icmp_ge_f (q := 36) dX11_isAnswered_33 (t := 75) (by decide) rfl g1 ?_
    refine x_iload_n (q := 37) dX11_isAnswered_36 rfl rfl ?_
    refine x_iconst (q := 38) (v := (4 : Int32)) dX11_isAnswered_37 rfl (by decide) ?_
    refine x_irem (q := 39) dX11_isAnswered_38 rfl (by decide) ?_
    refine x_iconst (q := 40) (v := (2 : Int32)) dX11_isAnswered_39 rfl (by decide) ?_
    replace H := kite H; rcases H with ⟨g2, H⟩ | ⟨g2, H⟩
    · refine x_icmp_ge_t dX11_isAnswered_40 (q := 53) (by decide) g2 ?_
      refine x_iconst (q := 54) (v := (2 : Int32)) dX11_isAnswered_53 rfl (by decide) ?_
      refine x_sub (ls2 := [(0, .ref v0), (1, .int v1), (2, .int s)]) [0, 1, 2] rfl ?_
      exact s_X11_isAnswered_b54 h v0 v1 s (2 : Int32) hn H
    · refine x_icmp_ge_f (q := 43) dX11_isAnswered_40 (t := 53) (by decide) rfl g2 ?_
      refine x_aload_n (q := 44) dX11_isAnswered_43 rfl rfl ?_
      replace H := kif H; obtain ⟨g3, H⟩ := H
      replace H := kif H; obtain ⟨g4, H⟩ := H
      refine x_getR (q := 47) dX11_isAnswered_44 rfl kl_RX11_57 rfl (k243 g3 (by decide) hn) g4 ?_
      replace H := kif H; obtain ⟨g5, H⟩ := H
      refine x_getI (q := 50) dX11_isAnswered_47 rfl kl_RX11_143 (Or.inl rfl) (k243 g5 (by decide) hn) ?_
      refine x_goto dX11_isAnswered_50 (q := 54) (by decide) ?_
      refine x_sub (ls2 := [(0, .ref v0), (1, .int v1), (2, .int s)]) [0, 1, 2] rfl ?_
      exact s_X11_isAnswered_b54 h v0 v1 s (kI h (kR h v0 5) 3) hn H
theorem sl_X11_isAnswered_l31 {Z : Nat → (Nat → Nat) → State → Prop} (h : KH) (v0 : Nat) (v1 : Int32) (n : Nat) (s : Int32) (r : (Unit) ⊕ (Int32)) (hn : (h).1 = 243) (H : kloop (f_X11_isAnswered_l31 h v0 v1) n s = some r) : KX Z RX11 cX11_isAnswered 4 false 2 (E_X11_isAnswered_l31 h v0 v1 r) 31 [(0, .ref v0), (1, .int v1), (2, .int s)] [] h :=
  k_loop (ls := (fun (s : Int32) => ([(0, .ref v0), (1, .int v1), (2, .int s)] : List (Nat × Value)))) (hp := (fun (s : Int32) => (h : KH))) (G := E_X11_isAnswered_l31 h v0 v1) (fun s t hn H => s_X11_isAnswered_l31 h v0 v1 s t hn H) n s r hn H
def f_X11_isAnswered (h : KH) (v0 : Nat) : Option (Int32) :=
  if kkind v0 = 11 then if (kR h v0 0) < 999999 then if kkind (kR h v0 0) = 9 then kl (kI h (kR h v0 0) 1) fun x4 =>
  if x4 = 0 then
  some (0 : Int32)
  else
  if (x4 - x4 / (4 : Int32) * (4 : Int32)) = 0 then
  if (kR h v0 12) < 999999 then if kkind (kR h v0 12) = 20 then if x4 ≤ (Int32.ofNat (klen (kR h v0 12))) then
  kb (kloop (f_X11_isAnswered_l31 h v0 x4) KF (0 : Int32)) fun e11 =>
  ksum e11 (fun x14 =>
  some (1 : Int32)) (fun o15 => some o15)
  else
  some (0 : Int32) else none else none
  else
  some (0 : Int32) else none else none else none
set_option maxHeartbeats 4000000 in
set_option maxRecDepth 100000 in
theorem s0_X11_isAnswered {Z : Nat → (Nat → Nat) → State → Prop} (h : KH) (v0 : Nat) {t : Int32} (hn : h.1 = 243) (H : f_X11_isAnswered h v0 = some t) : KX Z RX11 cX11_isAnswered 4 false 2 (KRz cX11_isAnswered t h) 0 [(0, .ref v0)] [] h := by
  unfold f_X11_isAnswered at H
  refine x_aload_n (q := 1) dX11_isAnswered_0 rfl rfl ?_
  replace H := kif H; obtain ⟨g1, H⟩ := H
  replace H := kif H; obtain ⟨g2, H⟩ := H
  refine x_getR (q := 4) dX11_isAnswered_1 rfl kl_RX11_12 rfl (k243 g1 (by decide) hn) g2 ?_
  replace H := kif H; obtain ⟨g3, H⟩ := H
  refine x_getI (q := 7) dX11_isAnswered_4 rfl kl_RX11_115 (Or.inl rfl) (k243 g3 (by decide) hn) ?_
  replace H := kle H; obtain ⟨x4, q5, H⟩ := H
  refine x_nmI q5 ?_
  refine x_istore_n (q := 8) (i := 1) (ls2 := [(1, .int x4), (0, .ref v0)]) dX11_isAnswered_7 rfl rfl (by decide) rfl ?_
  refine x_iload_n (q := 9) dX11_isAnswered_8 rfl rfl ?_
  replace H := kite H; rcases H with ⟨g6, H⟩ | ⟨g6, H⟩
  · refine x_if_eq_t dX11_isAnswered_9 (q := 27) (by decide) g6 ?_
    refine x_iconst (q := 28) (v := (0 : Int32)) dX11_isAnswered_27 rfl (by decide) ?_
    cases H
    exact x_end ⟨(Or.inl rfl), dX11_isAnswered_28, rfl, rfl⟩
  · refine x_if_eq_f (q := 12) dX11_isAnswered_9 (t := 27) (by decide) rfl g6 ?_
    refine x_iload_n (q := 13) dX11_isAnswered_12 rfl rfl ?_
    refine x_iconst (q := 14) (v := (4 : Int32)) dX11_isAnswered_13 rfl (by decide) ?_
    refine x_irem (q := 15) dX11_isAnswered_14 rfl (by decide) ?_
    replace H := kite H; rcases H with ⟨g7, H⟩ | ⟨g7, H⟩
    · refine x_if_ne_f (q := 18) dX11_isAnswered_15 (t := 27) (by decide) rfl g7 ?_
      refine x_iload_n (q := 19) dX11_isAnswered_18 rfl rfl ?_
      refine x_aload_n (q := 20) dX11_isAnswered_19 rfl rfl ?_
      replace H := kif H; obtain ⟨g8, H⟩ := H
      refine x_getR (q := 23) dX11_isAnswered_20 rfl kl_RX11_95 rfl (k243 g1 (by decide) hn) g8 ?_
      replace H := kif H; obtain ⟨g9, H⟩ := H
      refine x_alen (q := 24) dX11_isAnswered_23 rfl (by decide) (k243 g9 (by decide) hn) ?_
      replace H := kite H; rcases H with ⟨g10, H⟩ | ⟨g10, H⟩
      · refine x_icmp_le_t dX11_isAnswered_24 (q := 29) (by decide) g10 ?_
        refine x_iconst (q := 30) (v := (0 : Int32)) dX11_isAnswered_29 rfl (by decide) ?_
        refine x_istore_n (q := 31) (i := 2) (ls2 := [(2, .int (0 : Int32)), (1, .int x4), (0, .ref v0)]) dX11_isAnswered_30 rfl rfl (by decide) rfl ?_
        refine x_sub (ls2 := [(0, .ref v0), (1, .int x4), (2, .int (0 : Int32))]) [2, 1, 0] rfl ?_
        replace H := kbe H; obtain ⟨e11, c12, H⟩ := H
        refine x_app (sl_X11_isAnswered_l31 h v0 x4 KF (0 : Int32) e11 hn c12) fun pc2 ls2 st2 h2 hg m13 => ?_
        replace H := kse H; rcases H with ⟨x14, rfl, H⟩ | ⟨o15, rfl, H⟩
        · obtain ⟨rfl, rfl, rfl, rfl⟩ := hg
          refine x_iconst (q := 76) (v := (1 : Int32)) dX11_isAnswered_75 rfl (by decide) ?_
          cases H
          exact x_end ⟨(Or.inr rfl), dX11_isAnswered_76, rfl, rfl⟩
        · cases H
          exact x_end hg
      · refine x_icmp_le_f (q := 27) dX11_isAnswered_24 (t := 29) (by decide) rfl g10 ?_
        refine x_iconst (q := 28) (v := (0 : Int32)) dX11_isAnswered_27 rfl (by decide) ?_
        cases H
        exact x_end ⟨(Or.inl rfl), dX11_isAnswered_28, rfl, rfl⟩
    · refine x_if_ne_t dX11_isAnswered_15 (q := 27) (by decide) g7 ?_
      refine x_iconst (q := 28) (v := (0 : Int32)) dX11_isAnswered_27 rfl (by decide) ?_
      cases H
      exact x_end ⟨(Or.inl rfl), dX11_isAnswered_28, rfl, rfl⟩
theorem s_X11_isAnswered {Z : Nat → (Nat → Nat) → State → Prop} (h : KH) (v0 : Nat) {t : Int32} (hn : h.1 = 243) (H : f_X11_isAnswered h v0 = some t) : KM Z yX11_isAnswered cX11_isAnswered 4 (some .boolean) 2 [.ref v0] h (some (.int t)) h :=
  kx_z (own := RX11) (ini := false) (by decide +kernel) (by decide +kernel) rfl (Nat.le_of_ble_eq_true rfl) (s0_X11_isAnswered h v0 hn H)
theorem dX11_tell_0 : decode cX11_tell 0 = .ok (.aload_n 0, 1) := by decide +kernel
theorem dX11_tell_1 : decode cX11_tell 1 = .ok (.invokevirtual 282, 3) := by decide +kernel
theorem dX11_tell_4 : decode cX11_tell 4 = .ok (.istore_n 1, 1) := by decide +kernel
theorem dX11_tell_5 : decode cX11_tell 5 = .ok (.aload_n 0, 1) := by decide +kernel
theorem dX11_tell_6 : decode cX11_tell 6 = .ok (.getfield 12, 3) := by decide +kernel
theorem dX11_tell_9 : decode cX11_tell 9 = .ok (.getfield 115, 3) := by decide +kernel
theorem dX11_tell_12 : decode cX11_tell 12 = .ok (.istore_n 2, 1) := by decide +kernel
theorem dX11_tell_13 : decode cX11_tell 13 = .ok (.aload_n 0, 1) := by decide +kernel
theorem dX11_tell_14 : decode cX11_tell 14 = .ok (.getfield 12, 3) := by decide +kernel
theorem dX11_tell_17 : decode cX11_tell 17 = .ok (.iconst 0, 1) := by decide +kernel
theorem dX11_tell_18 : decode cX11_tell 18 = .ok (.putfield 115, 3) := by decide +kernel
theorem dX11_tell_21 : decode cX11_tell 21 = .ok (.iload_n 1, 1) := by decide +kernel
theorem dX11_tell_22 : decode cX11_tell 22 = .ok (.ifCond .ne 9, 3) := by decide +kernel
theorem dX11_tell_25 : decode cX11_tell 25 = .ok (.aload_n 0, 1) := by decide +kernel
theorem dX11_tell_26 : decode cX11_tell 26 = .ok (.iconst 1, 1) := by decide +kernel
theorem dX11_tell_27 : decode cX11_tell 27 = .ok (.invokevirtual 118, 3) := by decide +kernel
theorem dX11_tell_30 : decode cX11_tell 30 = .ok (.ireturn, 1) := by decide +kernel
theorem dX11_tell_31 : decode cX11_tell 31 = .ok (.iconst 0, 1) := by decide +kernel
theorem dX11_tell_32 : decode cX11_tell 32 = .ok (.istore_n 3, 1) := by decide +kernel
theorem dX11_tell_33 : decode cX11_tell 33 = .ok (.iload_n 3, 1) := by decide +kernel
theorem dX11_tell_34 : decode cX11_tell 34 = .ok (.iload_n 2, 1) := by decide +kernel
theorem dX11_tell_35 : decode cX11_tell 35 = .ok (.if_icmp .ge 32, 3) := by decide +kernel
theorem dX11_tell_38 : decode cX11_tell 38 = .ok (.iload_n 3, 1) := by decide +kernel
theorem dX11_tell_39 : decode cX11_tell 39 = .ok (.aload_n 0, 1) := by decide +kernel
theorem dX11_tell_40 : decode cX11_tell 40 = .ok (.getfield 95, 3) := by decide +kernel
theorem dX11_tell_43 : decode cX11_tell 43 = .ok (.arraylength, 1) := by decide +kernel
theorem dX11_tell_44 : decode cX11_tell 44 = .ok (.if_icmp .ge 23, 3) := by decide +kernel
theorem dX11_tell_47 : decode cX11_tell 47 = .ok (.aload_n 0, 1) := by decide +kernel
theorem dX11_tell_48 : decode cX11_tell 48 = .ok (.getfield 95, 3) := by decide +kernel
theorem dX11_tell_51 : decode cX11_tell 51 = .ok (.iload_n 3, 1) := by decide +kernel
theorem dX11_tell_52 : decode cX11_tell 52 = .ok (.aload_n 0, 1) := by decide +kernel
theorem dX11_tell_53 : decode cX11_tell 53 = .ok (.getfield 12, 3) := by decide +kernel
theorem dX11_tell_56 : decode cX11_tell 56 = .ok (.iload_n 3, 1) := by decide +kernel
theorem dX11_tell_57 : decode cX11_tell 57 = .ok (.invokevirtual 286, 3) := by decide +kernel
theorem dX11_tell_60 : decode cX11_tell 60 = .ok (.iastore, 1) := by decide +kernel
theorem dX11_tell_61 : decode cX11_tell 61 = .ok (.iinc 3 1, 3) := by decide +kernel
theorem dX11_tell_64 : decode cX11_tell 64 = .ok (.goto (-31), 3) := by decide +kernel
theorem dX11_tell_67 : decode cX11_tell 67 = .ok (.aload_n 0, 1) := by decide +kernel
theorem dX11_tell_68 : decode cX11_tell 68 = .ok (.iload_n 2, 1) := by decide +kernel
theorem dX11_tell_69 : decode cX11_tell 69 = .ok (.iconst 4, 1) := by decide +kernel
theorem dX11_tell_70 : decode cX11_tell 70 = .ok (.idiv, 1) := by decide +kernel
theorem dX11_tell_71 : decode cX11_tell 71 = .ok (.putfield 99, 3) := by decide +kernel
theorem dX11_tell_74 : decode cX11_tell 74 = .ok (.aload_n 0, 1) := by decide +kernel
theorem dX11_tell_75 : decode cX11_tell 75 = .ok (.getfield 99, 3) := by decide +kernel
theorem dX11_tell_78 : decode cX11_tell 78 = .ok (.ireturn, 1) := by decide +kernel
theorem kc_RX11_282 : Cond.methodLink RX11 282 yX11_isAnswered ∈ ktG ∧ (Cond.instanceMethod yX11_isAnswered ∈ ktG ∧ Cond.selects yX11_isAnswered.cls yX11_isAnswered yX11_isAnswered ∈ ktG) ∧ Cond.initialized yX11_isAnswered.cls ∈ ktG ∧ Cond.code yX11_isAnswered cX11_isAnswered 4 (some .boolean) ∈ ktG := ⟨(kwm 1042 (by decide +kernel) (by decide +kernel)), ⟨(kwm 1044 (by decide +kernel) (by decide +kernel)), (kwm 25 (by decide +kernel) (by decide +kernel))⟩, (kwm 123 (by decide +kernel) (by decide +kernel)), kwm 1045 (by decide +kernel) (by decide +kernel)⟩
theorem kh_X11_isAnswered : yX11_isAnswered.cls ≠ "java/lang/invoke/MethodHandle" ∧ yX11_isAnswered.cls ≠ "java/lang/invoke/VarHandle" ∧ (parseMethodDescriptor yX11_isAnswered.desc).map (fun d => d.parameters.length) = some 0 := by decide +kernel
def E_X11_tell_l33 (v0 : Nat) (v2 : Int32) : KH → Nat → List (Nat × Value) → List Value → KH → Prop := fun (e : KH) pc ls st hh => pc = 67 ∧ ls = [(0, .ref v0), (2, .int v2)] ∧ st = [] ∧ e = hh
def B_X11_tell_l33 (v0 : Nat) (v2 : Int32) : ((Int32 × KH) ⊕ (KH)) → Nat → List (Nat × Value) → List Value → KH → Prop := Sum.elim (fun (s : Int32 × KH) pc ls st hh => pc = 33 ∧ ls = [(0, .ref v0), (2, .int v2), (3, .int s.1)] ∧ st = [] ∧ hh = s.2) (E_X11_tell_l33 v0 v2)
def f_X11_tell_l33 (v0 : Nat) (v2 : Int32) (s : Int32 × KH) : Option ((Int32 × KH) ⊕ (KH)) :=
  if v2 ≤ s.1 then
  some (.inr s.2)
  else
  if kkind v0 = 11 then if (kR s.2 v0 12) < 999999 then if kkind (kR s.2 v0 12) = 20 then if (Int32.ofNat (klen (kR s.2 v0 12))) ≤ s.1 then
  some (.inr s.2)
  else
  if (kR s.2 v0 0) < 999999 then if kkind (kR s.2 v0 0) = 9 then kb (f_X9_byteAt s.2 (kR s.2 v0 0) s.1) fun r8 =>
  if (s.1 < 0 ∨ klen (kR s.2 v0 12) ≤ (s.1).toNatClampNeg) then none else kl (ksI s.2 (kR s.2 v0 12) ((s.1).toNatClampNeg) r8) fun h12 =>
  kl (s.1 + (1 : Int32)) fun x15 =>
  some (.inl (x15, h12)) else none else none else none else none else none
set_option maxHeartbeats 4000000 in
set_option maxRecDepth 100000 in
theorem s_X11_tell_l33 {Z : Nat → (Nat → Nat) → State → Prop} (v0 : Nat) (v2 : Int32) (s : Int32 × KH) (t : (Int32 × KH) ⊕ (KH)) (hn : (s.2).1 = 243) (H : f_X11_tell_l33 v0 v2 s = some t) : KX Z RX11 cX11_tell 4 false 3 (B_X11_tell_l33 v0 v2 t) 33 [(0, .ref v0), (2, .int v2), (3, .int s.1)] [] s.2 := by
  unfold f_X11_tell_l33 at H
  refine x_iload_n (q := 34) dX11_tell_33 rfl rfl ?_
  refine x_iload_n (q := 35) dX11_tell_34 rfl rfl ?_
  replace H := kite H; rcases H with ⟨g1, H⟩ | ⟨g1, H⟩
  · refine x_icmp_ge_t dX11_tell_35 (q := 67) (by decide) g1 ?_
    cases H
    refine x_sub (ls2 := [(0, .ref v0), (2, .int v2)]) [0, 1] rfl ?_
    exact x_end (x_cfg rfl)
  · refine x_icmp_ge_f (q := 38) dX11_tell_35 (t := 67) (by decide) rfl g1 ?_
    refine x_iload_n (q := 39) dX11_tell_38 rfl rfl ?_
    refine x_aload_n (q := 40) dX11_tell_39 rfl rfl ?_
    replace H := kif H; obtain ⟨g2, H⟩ := H
    replace H := kif H; obtain ⟨g3, H⟩ := H
    refine x_getR (q := 43) dX11_tell_40 rfl kl_RX11_95 rfl (k243 g2 (by decide) hn) g3 ?_
    replace H := kif H; obtain ⟨g4, H⟩ := H
    refine x_alen (q := 44) dX11_tell_43 rfl (by decide) (k243 g4 (by decide) hn) ?_
    replace H := kite H; rcases H with ⟨g5, H⟩ | ⟨g5, H⟩
    · refine x_icmp_ge_t dX11_tell_44 (q := 67) (by decide) g5 ?_
      cases H
      refine x_sub (ls2 := [(0, .ref v0), (2, .int v2)]) [0, 1] rfl ?_
      exact x_end (x_cfg rfl)
    · refine x_icmp_ge_f (q := 47) dX11_tell_44 (t := 67) (by decide) rfl g5 ?_
      refine x_aload_n (q := 48) dX11_tell_47 rfl rfl ?_
      refine x_getR (q := 51) dX11_tell_48 rfl kl_RX11_95 rfl (k243 g2 (by decide) hn) g3 ?_
      refine x_iload_n (q := 52) dX11_tell_51 rfl rfl ?_
      refine x_aload_n (q := 53) dX11_tell_52 rfl rfl ?_
      replace H := kif H; obtain ⟨g6, H⟩ := H
      refine x_getR (q := 56) dX11_tell_53 rfl kl_RX11_12 rfl (k243 g2 (by decide) hn) g6 ?_
      refine x_iload_n (q := 57) dX11_tell_56 rfl rfl ?_
      replace H := kif H; obtain ⟨g7, H⟩ := H
      replace H := kbe H; obtain ⟨r8, c9, H⟩ := H
      have m10 := s_X9_byteAt (Z := Z) s.2 (kR s.2 v0 0) s.1 hn c9
      refine x_callV (q := 60) (as := [.int s.1]) (rest := [.int s.1, .ref (kR s.2 v0 12)]) dX11_tell_57 rfl kc_RX11_286 kh_X9_byteAt (by decide) (Nat.le_of_ble_eq_true rfl) m10 (ci := 9) (by exact ⟨rfl, by decide⟩) (k243 g7 (by decide) hn) ?_
      replace H := kifn H; obtain ⟨g11, H⟩ := H
      replace H := kle H; obtain ⟨h12, q13, H⟩ := H
      refine x_iast (q := 61) dX11_tell_60 rfl (k243 g4 (by decide) hn) g11 ?_
      refine x_nmH q13 ?_
      have n14 : h12.1 = 243 := by rw [q13]; exact hn
      replace H := kle H; obtain ⟨x15, q16, H⟩ := H
      refine x_iinc (q := 64) (i := 3) (ls2 := [(3, .int x15), (0, .ref v0), (2, .int v2)]) dX11_tell_61 rfl rfl (by decide) (by rw [q16]; rfl) ?_
      refine x_goto dX11_tell_64 (q := 33) (by decide) ?_
      cases H
      refine x_sub (ls2 := [(0, .ref v0), (2, .int v2), (3, .int x15)]) [1, 2, 0] rfl ?_
      exact x_end (x_cfg rfl)
theorem sl_X11_tell_l33 {Z : Nat → (Nat → Nat) → State → Prop} (v0 : Nat) (v2 : Int32) (n : Nat) (s : Int32 × KH) (r : KH) (hn : (s.2).1 = 243) (H : kloop (f_X11_tell_l33 v0 v2) n s = some r) : KX Z RX11 cX11_tell 4 false 3 (E_X11_tell_l33 v0 v2 r) 33 [(0, .ref v0), (2, .int v2), (3, .int s.1)] [] s.2 :=
  k_loop (ls := (fun (s : Int32 × KH) => ([(0, .ref v0), (2, .int v2), (3, .int s.1)] : List (Nat × Value)))) (hp := (fun (s : Int32 × KH) => (s.2 : KH))) (G := E_X11_tell_l33 v0 v2) (fun s t hn H => s_X11_tell_l33 v0 v2 s t hn H) n s r hn H
def f_X11_tell_b67 (h : KH) (v0 : Nat) (v2 : Int32) : Option (Int32 × KH) :=
  if kkind v0 = 11 then kl (ksI h v0 13 (v2 / (4 : Int32))) fun h2 =>
  some ((kI h2 v0 13), h2) else none
set_option maxHeartbeats 4000000 in
set_option maxRecDepth 100000 in
theorem s_X11_tell_b67 {Z : Nat → (Nat → Nat) → State → Prop} (h : KH) (v0 : Nat) (v2 : Int32) {t : Int32 × KH} (hn : h.1 = 243) (H : f_X11_tell_b67 h v0 v2 = some t) : KX Z RX11 cX11_tell 4 false 3 (KRi cX11_tell t.1 t.2) 67 [(0, .ref v0), (2, .int v2)] [] h := by
  unfold f_X11_tell_b67 at H
  refine x_aload_n (q := 68) dX11_tell_67 rfl rfl ?_
  refine x_iload_n (q := 69) dX11_tell_68 rfl rfl ?_
  refine x_iconst (q := 70) (v := (4 : Int32)) dX11_tell_69 rfl (by decide) ?_
  refine x_idiv (q := 71) dX11_tell_70 rfl (by decide) ?_
  replace H := kif H; obtain ⟨g1, H⟩ := H
  replace H := kle H; obtain ⟨h2, q3, H⟩ := H
  refine x_putI (q := 74) dX11_tell_71 rfl kl_RX11_99 (Or.inl rfl) rfl (k243 g1 (by decide) hn) ?_
  refine x_nmH q3 ?_
  have n4 : h2.1 = 243 := by rw [q3]; exact hn
  refine x_aload_n (q := 75) dX11_tell_74 rfl rfl ?_
  refine x_getI (q := 78) dX11_tell_75 rfl kl_RX11_99 (Or.inl rfl) (k243 g1 (by decide) n4) ?_
  cases H
  exact x_end ⟨dX11_tell_78, rfl, rfl⟩
def f_X11_tell (h : KH) (v0 : Nat) : Option (Int32 × KH) :=
  if kkind v0 = 11 then kb (f_X11_isAnswered h v0) fun r2 =>
  if (kR h v0 0) < 999999 then if kkind (kR h v0 0) = 9 then kl (kI h (kR h v0 0) 1) fun x7 =>
  kl (ksI h (kR h v0 0) 1 (0 : Int32)) fun h9 =>
  if r2 = 0 then
  kb (f_X11_refuse h9 v0 (1 : Int32)) fun r16 =>
  some (r16.1, r16.2)
  else
  kb (kloop (f_X11_tell_l33 v0 x7) KF ((0 : Int32), h9)) fun e13 =>
  f_X11_tell_b67 e13 v0 x7 else none else none else none
set_option maxHeartbeats 4000000 in
set_option maxRecDepth 100000 in
theorem s0_X11_tell {Z : Nat → (Nat → Nat) → State → Prop} (h : KH) (v0 : Nat) {t : Int32 × KH} (hn : h.1 = 243) (H : f_X11_tell h v0 = some t) : KX Z RX11 cX11_tell 4 false 3 (KRi cX11_tell t.1 t.2) 0 [(0, .ref v0)] [] h := by
  unfold f_X11_tell at H
  refine x_aload_n (q := 1) dX11_tell_0 rfl rfl ?_
  replace H := kif H; obtain ⟨g1, H⟩ := H
  replace H := kbe H; obtain ⟨r2, c3, H⟩ := H
  have m4 := s_X11_isAnswered (Z := Z) h v0 hn c3
  refine x_callV (q := 4) (as := []) (rest := []) dX11_tell_1 rfl kc_RX11_282 kh_X11_isAnswered (by decide) (Nat.le_of_ble_eq_true rfl) m4 (ci := 11) (by exact ⟨rfl, by decide⟩) (k243 g1 (by decide) hn) ?_
  refine x_istore_n (q := 5) (i := 1) (ls2 := [(1, .int r2), (0, .ref v0)]) dX11_tell_4 rfl rfl (by decide) rfl ?_
  refine x_aload_n (q := 6) dX11_tell_5 rfl rfl ?_
  replace H := kif H; obtain ⟨g5, H⟩ := H
  refine x_getR (q := 9) dX11_tell_6 rfl kl_RX11_12 rfl (k243 g1 (by decide) hn) g5 ?_
  replace H := kif H; obtain ⟨g6, H⟩ := H
  refine x_getI (q := 12) dX11_tell_9 rfl kl_RX11_115 (Or.inl rfl) (k243 g6 (by decide) hn) ?_
  replace H := kle H; obtain ⟨x7, q8, H⟩ := H
  refine x_nmI q8 ?_
  refine x_istore_n (q := 13) (i := 2) (ls2 := [(2, .int x7), (1, .int r2), (0, .ref v0)]) dX11_tell_12 rfl rfl (by decide) rfl ?_
  refine x_aload_n (q := 14) dX11_tell_13 rfl rfl ?_
  refine x_getR (q := 17) dX11_tell_14 rfl kl_RX11_12 rfl (k243 g1 (by decide) hn) g5 ?_
  refine x_iconst (q := 18) (v := (0 : Int32)) dX11_tell_17 rfl (by decide) ?_
  replace H := kle H; obtain ⟨h9, q10, H⟩ := H
  refine x_putI (q := 21) dX11_tell_18 rfl kl_RX11_115 (Or.inl rfl) rfl (k243 g6 (by decide) hn) ?_
  refine x_nmH q10 ?_
  have n11 : h9.1 = 243 := by rw [q10]; exact hn
  refine x_iload_n (q := 22) dX11_tell_21 rfl rfl ?_
  replace H := kite H; rcases H with ⟨g12, H⟩ | ⟨g12, H⟩
  · refine x_if_ne_f (q := 25) dX11_tell_22 (t := 31) (by decide) rfl g12 ?_
    refine x_aload_n (q := 26) dX11_tell_25 rfl rfl ?_
    refine x_iconst (q := 27) (v := (1 : Int32)) dX11_tell_26 rfl (by decide) ?_
    replace H := kbe H; obtain ⟨r16, c17, H⟩ := H
    have m18 := s_X11_refuse (Z := Z) h9 v0 (1 : Int32) n11 c17
    refine x_callV (q := 30) (as := [.int (1 : Int32)]) (rest := []) dX11_tell_27 rfl kc_RX11_118 kh_X11_refuse (by decide) (Nat.le_of_ble_eq_true rfl) m18 (ci := 11) (by exact ⟨rfl, by decide⟩) (k243 g1 (by decide) n11) ?_
    have n19 : (r16.2).1 = 243 := m18.1.full n11
    cases H
    exact x_end ⟨dX11_tell_30, rfl, rfl⟩
  · refine x_if_ne_t dX11_tell_22 (q := 31) (by decide) g12 ?_
    refine x_iconst (q := 32) (v := (0 : Int32)) dX11_tell_31 rfl (by decide) ?_
    refine x_istore_n (q := 33) (i := 3) (ls2 := [(3, .int (0 : Int32)), (2, .int x7), (1, .int r2), (0, .ref v0)]) dX11_tell_32 rfl rfl (by decide) rfl ?_
    refine x_sub (ls2 := [(0, .ref v0), (2, .int x7), (3, .int (0 : Int32))]) [3, 1, 0] rfl ?_
    replace H := kbe H; obtain ⟨e13, c14, H⟩ := H
    refine x_app (sl_X11_tell_l33 v0 x7 KF ((0 : Int32), h9) e13 n11 c14) fun pc2 ls2 st2 h2 hg m15 => ?_
    obtain ⟨rfl, rfl, rfl, rfl⟩ := hg
    refine x_sub (ls2 := [(0, .ref v0), (2, .int x7)]) [0, 1] rfl ?_
    exact s_X11_tell_b67 e13 v0 x7 (m15.full n11) H
theorem s_X11_tell {Z : Nat → (Nat → Nat) → State → Prop} (h : KH) (v0 : Nat) {t : Int32 × KH} (hn : h.1 = 243) (H : f_X11_tell h v0 = some t) : KM Z yX11_tell cX11_tell 4 (some .int) 3 [.ref v0] h (some (.int t.1)) t.2 :=
  kx_i (own := RX11) (ini := false) (by decide +kernel) (by decide +kernel) rfl (Nat.le_of_ble_eq_true rfl) (s0_X11_tell h v0 hn H)
theorem dX11_explainsAnswers_0 : decode cX11_explainsAnswers 0 = .ok (.aload_n 0, 1) := by decide +kernel
theorem dX11_explainsAnswers_1 : decode cX11_explainsAnswers 1 = .ok (.getfield 57, 3) := by decide +kernel
theorem dX11_explainsAnswers_4 : decode cX11_explainsAnswers 4 = .ok (.iload_n 1, 1) := by decide +kernel
theorem dX11_explainsAnswers_5 : decode cX11_explainsAnswers 5 = .ok (.aload_n 0, 1) := by decide +kernel
theorem dX11_explainsAnswers_6 : decode cX11_explainsAnswers 6 = .ok (.getfield 67, 3) := by decide +kernel
theorem dX11_explainsAnswers_9 : decode cX11_explainsAnswers 9 = .ok (.getfield 194, 3) := by decide +kernel
theorem dX11_explainsAnswers_12 : decode cX11_explainsAnswers 12 = .ok (.iload_n 1, 1) := by decide +kernel
theorem dX11_explainsAnswers_13 : decode cX11_explainsAnswers 13 = .ok (.iaload, 1) := by decide +kernel
theorem dX11_explainsAnswers_14 : decode cX11_explainsAnswers 14 = .ok (.invokevirtual 212, 3) := by decide +kernel
theorem dX11_explainsAnswers_17 : decode cX11_explainsAnswers 17 = .ok (.istore_n 2, 1) := by decide +kernel
theorem dX11_explainsAnswers_18 : decode cX11_explainsAnswers 18 = .ok (.iconst 0, 1) := by decide +kernel
theorem dX11_explainsAnswers_19 : decode cX11_explainsAnswers 19 = .ok (.istore_n 3, 1) := by decide +kernel
theorem dX11_explainsAnswers_20 : decode cX11_explainsAnswers 20 = .ok (.iload_n 3, 1) := by decide +kernel
theorem dX11_explainsAnswers_21 : decode cX11_explainsAnswers 21 = .ok (.aload_n 0, 1) := by decide +kernel
theorem dX11_explainsAnswers_22 : decode cX11_explainsAnswers 22 = .ok (.getfield 99, 3) := by decide +kernel
theorem dX11_explainsAnswers_25 : decode cX11_explainsAnswers 25 = .ok (.if_icmp .ge 77, 3) := by decide +kernel
theorem dX11_explainsAnswers_28 : decode cX11_explainsAnswers 28 = .ok (.iload_n 2, 1) := by decide +kernel
theorem dX11_explainsAnswers_29 : decode cX11_explainsAnswers 29 = .ok (.aload_n 0, 1) := by decide +kernel
theorem dX11_explainsAnswers_30 : decode cX11_explainsAnswers 30 = .ok (.getfield 95, 3) := by decide +kernel
theorem dX11_explainsAnswers_33 : decode cX11_explainsAnswers 33 = .ok (.iload_n 3, 1) := by decide +kernel
theorem dX11_explainsAnswers_34 : decode cX11_explainsAnswers 34 = .ok (.iconst 4, 1) := by decide +kernel
theorem dX11_explainsAnswers_35 : decode cX11_explainsAnswers 35 = .ok (.imul, 1) := by decide +kernel
theorem dX11_explainsAnswers_36 : decode cX11_explainsAnswers 36 = .ok (.iaload, 1) := by decide +kernel
theorem dX11_explainsAnswers_37 : decode cX11_explainsAnswers 37 = .ok (.iconst 2, 1) := by decide +kernel
theorem dX11_explainsAnswers_38 : decode cX11_explainsAnswers 38 = .ok (.imul, 1) := by decide +kernel
theorem dX11_explainsAnswers_39 : decode cX11_explainsAnswers 39 = .ok (.iconst 1, 1) := by decide +kernel
theorem dX11_explainsAnswers_40 : decode cX11_explainsAnswers 40 = .ok (.iadd, 1) := by decide +kernel
theorem dX11_explainsAnswers_41 : decode cX11_explainsAnswers 41 = .ok (.ishr, 1) := by decide +kernel
theorem dX11_explainsAnswers_42 : decode cX11_explainsAnswers 42 = .ok (.iconst 1, 1) := by decide +kernel
theorem dX11_explainsAnswers_43 : decode cX11_explainsAnswers 43 = .ok (.iand, 1) := by decide +kernel
theorem dX11_explainsAnswers_44 : decode cX11_explainsAnswers 44 = .ok (.istore 4, 2) := by decide +kernel
theorem dX11_explainsAnswers_46 : decode cX11_explainsAnswers 46 = .ok (.iload_n 2, 1) := by decide +kernel
theorem dX11_explainsAnswers_47 : decode cX11_explainsAnswers 47 = .ok (.aload_n 0, 1) := by decide +kernel
theorem dX11_explainsAnswers_48 : decode cX11_explainsAnswers 48 = .ok (.getfield 95, 3) := by decide +kernel
theorem dX11_explainsAnswers_51 : decode cX11_explainsAnswers 51 = .ok (.iload_n 3, 1) := by decide +kernel
theorem dX11_explainsAnswers_52 : decode cX11_explainsAnswers 52 = .ok (.iconst 4, 1) := by decide +kernel
theorem dX11_explainsAnswers_53 : decode cX11_explainsAnswers 53 = .ok (.imul, 1) := by decide +kernel
theorem dX11_explainsAnswers_54 : decode cX11_explainsAnswers 54 = .ok (.iconst 1, 1) := by decide +kernel
theorem dX11_explainsAnswers_55 : decode cX11_explainsAnswers 55 = .ok (.iadd, 1) := by decide +kernel
theorem dX11_explainsAnswers_56 : decode cX11_explainsAnswers 56 = .ok (.iaload, 1) := by decide +kernel
theorem dX11_explainsAnswers_57 : decode cX11_explainsAnswers 57 = .ok (.iconst 2, 1) := by decide +kernel
theorem dX11_explainsAnswers_58 : decode cX11_explainsAnswers 58 = .ok (.imul, 1) := by decide +kernel
theorem dX11_explainsAnswers_59 : decode cX11_explainsAnswers 59 = .ok (.ishr, 1) := by decide +kernel
theorem dX11_explainsAnswers_60 : decode cX11_explainsAnswers 60 = .ok (.iconst 1, 1) := by decide +kernel
theorem dX11_explainsAnswers_61 : decode cX11_explainsAnswers 61 = .ok (.iand, 1) := by decide +kernel
theorem dX11_explainsAnswers_62 : decode cX11_explainsAnswers 62 = .ok (.istore 5, 2) := by decide +kernel
theorem dX11_explainsAnswers_64 : decode cX11_explainsAnswers 64 = .ok (.iload 4, 2) := by decide +kernel
theorem dX11_explainsAnswers_66 : decode cX11_explainsAnswers 66 = .ok (.aload_n 0, 1) := by decide +kernel
theorem dX11_explainsAnswers_67 : decode cX11_explainsAnswers 67 = .ok (.getfield 95, 3) := by decide +kernel
theorem dX11_explainsAnswers_70 : decode cX11_explainsAnswers 70 = .ok (.iload_n 3, 1) := by decide +kernel
theorem dX11_explainsAnswers_71 : decode cX11_explainsAnswers 71 = .ok (.iconst 4, 1) := by decide +kernel
theorem dX11_explainsAnswers_72 : decode cX11_explainsAnswers 72 = .ok (.imul, 1) := by decide +kernel
theorem dX11_explainsAnswers_73 : decode cX11_explainsAnswers 73 = .ok (.iconst 2, 1) := by decide +kernel
theorem dX11_explainsAnswers_74 : decode cX11_explainsAnswers 74 = .ok (.iadd, 1) := by decide +kernel
theorem dX11_explainsAnswers_75 : decode cX11_explainsAnswers 75 = .ok (.iaload, 1) := by decide +kernel
theorem dX11_explainsAnswers_76 : decode cX11_explainsAnswers 76 = .ok (.if_icmp .ne 18, 3) := by decide +kernel
theorem dX11_explainsAnswers_79 : decode cX11_explainsAnswers 79 = .ok (.iload 5, 2) := by decide +kernel
theorem dX11_explainsAnswers_81 : decode cX11_explainsAnswers 81 = .ok (.aload_n 0, 1) := by decide +kernel
theorem dX11_explainsAnswers_82 : decode cX11_explainsAnswers 82 = .ok (.getfield 95, 3) := by decide +kernel
theorem dX11_explainsAnswers_85 : decode cX11_explainsAnswers 85 = .ok (.iload_n 3, 1) := by decide +kernel
theorem dX11_explainsAnswers_86 : decode cX11_explainsAnswers 86 = .ok (.iconst 4, 1) := by decide +kernel
theorem dX11_explainsAnswers_87 : decode cX11_explainsAnswers 87 = .ok (.imul, 1) := by decide +kernel
theorem dX11_explainsAnswers_88 : decode cX11_explainsAnswers 88 = .ok (.iconst 3, 1) := by decide +kernel
theorem dX11_explainsAnswers_89 : decode cX11_explainsAnswers 89 = .ok (.iadd, 1) := by decide +kernel
theorem dX11_explainsAnswers_90 : decode cX11_explainsAnswers 90 = .ok (.iaload, 1) := by decide +kernel
theorem dX11_explainsAnswers_91 : decode cX11_explainsAnswers 91 = .ok (.if_icmp .eq 5, 3) := by decide +kernel
theorem dX11_explainsAnswers_94 : decode cX11_explainsAnswers 94 = .ok (.iconst 0, 1) := by decide +kernel
theorem dX11_explainsAnswers_95 : decode cX11_explainsAnswers 95 = .ok (.ireturn, 1) := by decide +kernel
theorem dX11_explainsAnswers_96 : decode cX11_explainsAnswers 96 = .ok (.iinc 3 1, 3) := by decide +kernel
theorem dX11_explainsAnswers_99 : decode cX11_explainsAnswers 99 = .ok (.goto (-79), 3) := by decide +kernel
theorem dX11_explainsAnswers_102 : decode cX11_explainsAnswers 102 = .ok (.iconst 1, 1) := by decide +kernel
theorem dX11_explainsAnswers_103 : decode cX11_explainsAnswers 103 = .ok (.ireturn, 1) := by decide +kernel
def E_X11_explainsAnswers_l20 (h : KH) (v0 : Nat) (v2 : Int32) : ((Unit) ⊕ (Int32 × KH)) → Nat → List (Nat × Value) → List Value → KH → Prop := Sum.elim (fun (e : Unit) pc ls st hh => pc = 102 ∧ ls = [] ∧ st = [] ∧ h = hh) (fun o => (KRz cX11_explainsAnswers o.1 o.2))
def B_X11_explainsAnswers_l20 (h : KH) (v0 : Nat) (v2 : Int32) : ((Int32) ⊕ ((Unit) ⊕ (Int32 × KH))) → Nat → List (Nat × Value) → List Value → KH → Prop := Sum.elim (fun (s : Int32) pc ls st hh => pc = 20 ∧ ls = [(0, .ref v0), (2, .int v2), (3, .int s)] ∧ st = [] ∧ hh = h) (E_X11_explainsAnswers_l20 h v0 v2)
def f_X11_explainsAnswers_l20 (h : KH) (v0 : Nat) (v2 : Int32) (s : Int32) : Option ((Int32) ⊕ ((Unit) ⊕ (Int32 × KH))) :=
  if kkind v0 = 11 then if (kI h v0 13) ≤ s then
  some (.inr (.inl ()))
  else
  if (kR h v0 12) < 999999 then if kkind (kR h v0 12) = 20 then if ((s * (4 : Int32)) < 0 ∨ klen (kR h v0 12) ≤ ((s * (4 : Int32))).toNatClampNeg) then none else kl ((v2 >>> ((((kI h (kR h v0 12) (((s * (4 : Int32))).toNatClampNeg)) * (2 : Int32)) + (1 : Int32)) &&& 31)) &&& (1 : Int32)) fun x6 =>
  if (((s * (4 : Int32)) + (1 : Int32)) < 0 ∨ klen (kR h v0 12) ≤ (((s * (4 : Int32)) + (1 : Int32))).toNatClampNeg) then none else kl ((v2 >>> (((kI h (kR h v0 12) ((((s * (4 : Int32)) + (1 : Int32))).toNatClampNeg)) * (2 : Int32)) &&& 31)) &&& (1 : Int32)) fun x9 =>
  if (((s * (4 : Int32)) + (2 : Int32)) < 0 ∨ klen (kR h v0 12) ≤ (((s * (4 : Int32)) + (2 : Int32))).toNatClampNeg) then none else if x6 = (kI h (kR h v0 12) ((((s * (4 : Int32)) + (2 : Int32))).toNatClampNeg)) then
  if (((s * (4 : Int32)) + (3 : Int32)) < 0 ∨ klen (kR h v0 12) ≤ (((s * (4 : Int32)) + (3 : Int32))).toNatClampNeg) then none else if x9 = (kI h (kR h v0 12) ((((s * (4 : Int32)) + (3 : Int32))).toNatClampNeg)) then
  kl (s + (1 : Int32)) fun x16 =>
  some (.inl x16)
  else
  kout2 (some ((0 : Int32), h))
  else
  kout2 (some ((0 : Int32), h)) else none else none else none
set_option maxHeartbeats 4000000 in
set_option maxRecDepth 100000 in
theorem s_X11_explainsAnswers_l20 {Z : Nat → (Nat → Nat) → State → Prop} (h : KH) (v0 : Nat) (v2 : Int32) (s : Int32) (t : (Int32) ⊕ ((Unit) ⊕ (Int32 × KH))) (hn : (h).1 = 243) (H : f_X11_explainsAnswers_l20 h v0 v2 s = some t) : KX Z RX11 cX11_explainsAnswers 6 false 6 (B_X11_explainsAnswers_l20 h v0 v2 t) 20 [(0, .ref v0), (2, .int v2), (3, .int s)] [] h := by
  unfold f_X11_explainsAnswers_l20 at H
  refine x_iload_n (q := 21) dX11_explainsAnswers_20 rfl rfl ?_
  refine x_aload_n (q := 22) dX11_explainsAnswers_21 rfl rfl ?_
  replace H := kif H; obtain ⟨g1, H⟩ := H
  refine x_getI (q := 25) dX11_explainsAnswers_22 rfl kl_RX11_99 (Or.inl rfl) (k243 g1 (by decide) hn) ?_
  replace H := kite H; rcases H with ⟨g2, H⟩ | ⟨g2, H⟩
  · refine x_icmp_ge_t dX11_explainsAnswers_25 (q := 102) (by decide) g2 ?_
    cases H
    refine x_sub (ls2 := []) [] rfl ?_
    exact x_end (x_cfg rfl)
  · refine x_icmp_ge_f (q := 28) dX11_explainsAnswers_25 (t := 102) (by decide) rfl g2 ?_
    refine x_iload_n (q := 29) dX11_explainsAnswers_28 rfl rfl ?_
    refine x_aload_n (q := 30) dX11_explainsAnswers_29 rfl rfl ?_
    replace H := kif H; obtain ⟨g3, H⟩ := H
    refine x_getR (q := 33) dX11_explainsAnswers_30 rfl kl_RX11_95 rfl (k243 g1 (by decide) hn) g3 ?_
    refine x_iload_n (q := 34) dX11_explainsAnswers_33 rfl rfl ?_
    refine x_iconst (q := 35) (v := (4 : Int32)) dX11_explainsAnswers_34 rfl (by decide) ?_
    refine x_imul (q := 36) dX11_explainsAnswers_35 rfl ?_
    replace H := kif H; obtain ⟨g4, H⟩ := H
    replace H := kifn H; obtain ⟨g5, H⟩ := H
    refine x_iald (q := 37) dX11_explainsAnswers_36 rfl (k243 g4 (by decide) hn) g5 ?_
    refine x_iconst (q := 38) (v := (2 : Int32)) dX11_explainsAnswers_37 rfl (by decide) ?_
    refine x_imul (q := 39) dX11_explainsAnswers_38 rfl ?_
    refine x_iconst (q := 40) (v := (1 : Int32)) dX11_explainsAnswers_39 rfl (by decide) ?_
    refine x_iadd (q := 41) dX11_explainsAnswers_40 rfl ?_
    refine x_ishr (q := 42) dX11_explainsAnswers_41 rfl ?_
    refine x_iconst (q := 43) (v := (1 : Int32)) dX11_explainsAnswers_42 rfl (by decide) ?_
    refine x_iand (q := 44) dX11_explainsAnswers_43 rfl ?_
    replace H := kle H; obtain ⟨x6, q7, H⟩ := H
    refine x_nmI q7 ?_
    refine x_istore (q := 46) (i := 4) (ls2 := [(4, .int x6), (0, .ref v0), (2, .int v2), (3, .int s)]) dX11_explainsAnswers_44 rfl (by decide) rfl ?_
    refine x_iload_n (q := 47) dX11_explainsAnswers_46 rfl rfl ?_
    refine x_aload_n (q := 48) dX11_explainsAnswers_47 rfl rfl ?_
    refine x_getR (q := 51) dX11_explainsAnswers_48 rfl kl_RX11_95 rfl (k243 g1 (by decide) hn) g3 ?_
    refine x_iload_n (q := 52) dX11_explainsAnswers_51 rfl rfl ?_
    refine x_iconst (q := 53) (v := (4 : Int32)) dX11_explainsAnswers_52 rfl (by decide) ?_
    refine x_imul (q := 54) dX11_explainsAnswers_53 rfl ?_
    refine x_iconst (q := 55) (v := (1 : Int32)) dX11_explainsAnswers_54 rfl (by decide) ?_
    refine x_iadd (q := 56) dX11_explainsAnswers_55 rfl ?_
    replace H := kifn H; obtain ⟨g8, H⟩ := H
    refine x_iald (q := 57) dX11_explainsAnswers_56 rfl (k243 g4 (by decide) hn) g8 ?_
    refine x_iconst (q := 58) (v := (2 : Int32)) dX11_explainsAnswers_57 rfl (by decide) ?_
    refine x_imul (q := 59) dX11_explainsAnswers_58 rfl ?_
    refine x_ishr (q := 60) dX11_explainsAnswers_59 rfl ?_
    refine x_iconst (q := 61) (v := (1 : Int32)) dX11_explainsAnswers_60 rfl (by decide) ?_
    refine x_iand (q := 62) dX11_explainsAnswers_61 rfl ?_
    replace H := kle H; obtain ⟨x9, q10, H⟩ := H
    refine x_nmI q10 ?_
    refine x_istore (q := 64) (i := 5) (ls2 := [(5, .int x9), (4, .int x6), (0, .ref v0), (2, .int v2), (3, .int s)]) dX11_explainsAnswers_62 rfl (by decide) rfl ?_
    refine x_iload (q := 66) dX11_explainsAnswers_64 rfl rfl ?_
    refine x_aload_n (q := 67) dX11_explainsAnswers_66 rfl rfl ?_
    refine x_getR (q := 70) dX11_explainsAnswers_67 rfl kl_RX11_95 rfl (k243 g1 (by decide) hn) g3 ?_
    refine x_iload_n (q := 71) dX11_explainsAnswers_70 rfl rfl ?_
    refine x_iconst (q := 72) (v := (4 : Int32)) dX11_explainsAnswers_71 rfl (by decide) ?_
    refine x_imul (q := 73) dX11_explainsAnswers_72 rfl ?_
    refine x_iconst (q := 74) (v := (2 : Int32)) dX11_explainsAnswers_73 rfl (by decide) ?_
    refine x_iadd (q := 75) dX11_explainsAnswers_74 rfl ?_
    replace H := kifn H; obtain ⟨g11, H⟩ := H
    refine x_iald (q := 76) dX11_explainsAnswers_75 rfl (k243 g4 (by decide) hn) g11 ?_
    replace H := kite H; rcases H with ⟨g12, H⟩ | ⟨g12, H⟩
    · refine x_icmp_ne_f (q := 79) dX11_explainsAnswers_76 (t := 94) (by decide) rfl g12 ?_
      refine x_iload (q := 81) dX11_explainsAnswers_79 rfl rfl ?_
      refine x_aload_n (q := 82) dX11_explainsAnswers_81 rfl rfl ?_
      refine x_getR (q := 85) dX11_explainsAnswers_82 rfl kl_RX11_95 rfl (k243 g1 (by decide) hn) g3 ?_
      refine x_iload_n (q := 86) dX11_explainsAnswers_85 rfl rfl ?_
      refine x_iconst (q := 87) (v := (4 : Int32)) dX11_explainsAnswers_86 rfl (by decide) ?_
      refine x_imul (q := 88) dX11_explainsAnswers_87 rfl ?_
      refine x_iconst (q := 89) (v := (3 : Int32)) dX11_explainsAnswers_88 rfl (by decide) ?_
      refine x_iadd (q := 90) dX11_explainsAnswers_89 rfl ?_
      replace H := kifn H; obtain ⟨g14, H⟩ := H
      refine x_iald (q := 91) dX11_explainsAnswers_90 rfl (k243 g4 (by decide) hn) g14 ?_
      replace H := kite H; rcases H with ⟨g15, H⟩ | ⟨g15, H⟩
      · refine x_icmp_eq_t dX11_explainsAnswers_91 (q := 96) (by decide) g15 ?_
        replace H := kle H; obtain ⟨x16, q17, H⟩ := H
        refine x_iinc (q := 99) (i := 3) (ls2 := [(3, .int x16), (5, .int x9), (4, .int x6), (0, .ref v0), (2, .int v2)]) dX11_explainsAnswers_96 rfl rfl (by decide) (by rw [q17]; rfl) ?_
        refine x_goto dX11_explainsAnswers_99 (q := 20) (by decide) ?_
        cases H
        refine x_sub (ls2 := [(0, .ref v0), (2, .int v2), (3, .int x16)]) [3, 4, 0] rfl ?_
        exact x_end (x_cfg rfl)
      · refine x_icmp_eq_f (q := 94) dX11_explainsAnswers_91 (t := 96) (by decide) rfl g15 ?_
        replace H := ko2e H; obtain ⟨o18, H, rfl⟩ := H
        refine x_iconst (q := 95) (v := (0 : Int32)) dX11_explainsAnswers_94 rfl (by decide) ?_
        cases H
        exact x_end ⟨(Or.inl rfl), dX11_explainsAnswers_95, rfl, rfl⟩
    · refine x_icmp_ne_t dX11_explainsAnswers_76 (q := 94) (by decide) g12 ?_
      replace H := ko2e H; obtain ⟨o13, H, rfl⟩ := H
      refine x_iconst (q := 95) (v := (0 : Int32)) dX11_explainsAnswers_94 rfl (by decide) ?_
      cases H
      exact x_end ⟨(Or.inl rfl), dX11_explainsAnswers_95, rfl, rfl⟩
theorem sl_X11_explainsAnswers_l20 {Z : Nat → (Nat → Nat) → State → Prop} (h : KH) (v0 : Nat) (v2 : Int32) (n : Nat) (s : Int32) (r : (Unit) ⊕ (Int32 × KH)) (hn : (h).1 = 243) (H : kloop (f_X11_explainsAnswers_l20 h v0 v2) n s = some r) : KX Z RX11 cX11_explainsAnswers 6 false 6 (E_X11_explainsAnswers_l20 h v0 v2 r) 20 [(0, .ref v0), (2, .int v2), (3, .int s)] [] h :=
  k_loop (ls := (fun (s : Int32) => ([(0, .ref v0), (2, .int v2), (3, .int s)] : List (Nat × Value)))) (hp := (fun (s : Int32) => (h : KH))) (G := E_X11_explainsAnswers_l20 h v0 v2) (fun s t hn H => s_X11_explainsAnswers_l20 h v0 v2 s t hn H) n s r hn H
def f_X11_explainsAnswers (h : KH) (v0 : Nat) (v1 : Int32) : Option (Int32 × KH) :=
  if kkind v0 = 11 then if (kR h v0 5) < 999999 then if (kR h v0 7) < 999999 then if kkind (kR h v0 7) = 8 then if (kR h (kR h v0 7) 3) < 999999 then if kkind (kR h (kR h v0 7) 3) = 20 then if (v1 < 0 ∨ klen (kR h (kR h v0 7) 3) ≤ (v1).toNatClampNeg) then none else if kkind (kR h v0 5) = 2 then kb (f_X2_yieldBits h (kR h v0 5) v1 (kI h (kR h (kR h v0 7) 3) ((v1).toNatClampNeg))) fun r9 =>
  kb (kloop (f_X11_explainsAnswers_l20 r9.2 v0 r9.1) KF (0 : Int32)) fun e13 =>
  ksum e13 (fun x16 =>
  some ((1 : Int32), r9.2)) (fun o17 => some o17) else none else none else none else none else none else none else none
set_option maxHeartbeats 4000000 in
set_option maxRecDepth 100000 in
theorem s0_X11_explainsAnswers {Z : Nat → (Nat → Nat) → State → Prop} (h : KH) (v0 : Nat) (v1 : Int32) {t : Int32 × KH} (hn : h.1 = 243) (H : f_X11_explainsAnswers h v0 v1 = some t) : KX Z RX11 cX11_explainsAnswers 6 false 6 (KRz cX11_explainsAnswers t.1 t.2) 0 [(0, .ref v0), (1, .int v1)] [] h := by
  unfold f_X11_explainsAnswers at H
  refine x_aload_n (q := 1) dX11_explainsAnswers_0 rfl rfl ?_
  replace H := kif H; obtain ⟨g1, H⟩ := H
  replace H := kif H; obtain ⟨g2, H⟩ := H
  refine x_getR (q := 4) dX11_explainsAnswers_1 rfl kl_RX11_57 rfl (k243 g1 (by decide) hn) g2 ?_
  refine x_iload_n (q := 5) dX11_explainsAnswers_4 rfl rfl ?_
  refine x_aload_n (q := 6) dX11_explainsAnswers_5 rfl rfl ?_
  replace H := kif H; obtain ⟨g3, H⟩ := H
  refine x_getR (q := 9) dX11_explainsAnswers_6 rfl kl_RX11_67 rfl (k243 g1 (by decide) hn) g3 ?_
  replace H := kif H; obtain ⟨g4, H⟩ := H
  replace H := kif H; obtain ⟨g5, H⟩ := H
  refine x_getR (q := 12) dX11_explainsAnswers_9 rfl kl_RX11_194 rfl (k243 g4 (by decide) hn) g5 ?_
  refine x_iload_n (q := 13) dX11_explainsAnswers_12 rfl rfl ?_
  replace H := kif H; obtain ⟨g6, H⟩ := H
  replace H := kifn H; obtain ⟨g7, H⟩ := H
  refine x_iald (q := 14) dX11_explainsAnswers_13 rfl (k243 g6 (by decide) hn) g7 ?_
  replace H := kif H; obtain ⟨g8, H⟩ := H
  replace H := kbe H; obtain ⟨r9, c10, H⟩ := H
  have m11 := s_X2_yieldBits (Z := Z) h (kR h v0 5) v1 (kI h (kR h (kR h v0 7) 3) ((v1).toNatClampNeg)) hn c10
  refine x_callV (q := 17) (as := [.int v1, .int (kI h (kR h (kR h v0 7) 3) ((v1).toNatClampNeg))]) (rest := []) dX11_explainsAnswers_14 rfl kc_RX11_212 kh_X2_yieldBits (by decide) (Nat.le_of_ble_eq_true rfl) m11 (ci := 2) (by exact ⟨rfl, by decide⟩) (k243 g8 (by decide) hn) ?_
  have n12 : (r9.2).1 = 243 := m11.1.full hn
  refine x_istore_n (q := 18) (i := 2) (ls2 := [(2, .int r9.1), (0, .ref v0), (1, .int v1)]) dX11_explainsAnswers_17 rfl rfl (by decide) rfl ?_
  refine x_iconst (q := 19) (v := (0 : Int32)) dX11_explainsAnswers_18 rfl (by decide) ?_
  refine x_istore_n (q := 20) (i := 3) (ls2 := [(3, .int (0 : Int32)), (2, .int r9.1), (0, .ref v0), (1, .int v1)]) dX11_explainsAnswers_19 rfl rfl (by decide) rfl ?_
  refine x_sub (ls2 := [(0, .ref v0), (2, .int r9.1), (3, .int (0 : Int32))]) [2, 1, 0] rfl ?_
  replace H := kbe H; obtain ⟨e13, c14, H⟩ := H
  refine x_app (sl_X11_explainsAnswers_l20 r9.2 v0 r9.1 KF (0 : Int32) e13 n12 c14) fun pc2 ls2 st2 h2 hg m15 => ?_
  replace H := kse H; rcases H with ⟨x16, rfl, H⟩ | ⟨o17, rfl, H⟩
  · obtain ⟨rfl, rfl, rfl, rfl⟩ := hg
    refine x_iconst (q := 103) (v := (1 : Int32)) dX11_explainsAnswers_102 rfl (by decide) ?_
    cases H
    exact x_end ⟨(Or.inr rfl), dX11_explainsAnswers_103, rfl, rfl⟩
  · cases H
    exact x_end hg
theorem s_X11_explainsAnswers {Z : Nat → (Nat → Nat) → State → Prop} (h : KH) (v0 : Nat) (v1 : Int32) {t : Int32 × KH} (hn : h.1 = 243) (H : f_X11_explainsAnswers h v0 v1 = some t) : KM Z yX11_explainsAnswers cX11_explainsAnswers 6 (some .boolean) 6 [.ref v0, .int v1] h (some (.int t.1)) t.2 :=
  kx_z (own := RX11) (ini := false) (by decide +kernel) (by decide +kernel) rfl (Nat.le_of_ble_eq_true rfl) (s0_X11_explainsAnswers h v0 v1 hn H)
theorem dX11_trick_0 : decode cX11_trick 0 = .ok (.iconst 0, 1) := by decide +kernel
theorem dX11_trick_1 : decode cX11_trick 1 = .ok (.istore_n 1, 1) := by decide +kernel
theorem dX11_trick_2 : decode cX11_trick 2 = .ok (.iconst 0, 1) := by decide +kernel
theorem dX11_trick_3 : decode cX11_trick 3 = .ok (.istore_n 2, 1) := by decide +kernel
theorem dX11_trick_4 : decode cX11_trick 4 = .ok (.iload_n 2, 1) := by decide +kernel
theorem dX11_trick_5 : decode cX11_trick 5 = .ok (.aload_n 0, 1) := by decide +kernel
theorem dX11_trick_6 : decode cX11_trick 6 = .ok (.getfield 57, 3) := by decide +kernel
theorem dX11_trick_9 : decode cX11_trick 9 = .ok (.getfield 146, 3) := by decide +kernel
theorem dX11_trick_12 : decode cX11_trick 12 = .ok (.if_icmp .ge 23, 3) := by decide +kernel
theorem dX11_trick_15 : decode cX11_trick 15 = .ok (.aload_n 0, 1) := by decide +kernel
theorem dX11_trick_16 : decode cX11_trick 16 = .ok (.iload_n 2, 1) := by decide +kernel
theorem dX11_trick_17 : decode cX11_trick 17 = .ok (.invokevirtual 289, 3) := by decide +kernel
theorem dX11_trick_20 : decode cX11_trick 20 = .ok (.ifCond .eq 9, 3) := by decide +kernel
theorem dX11_trick_23 : decode cX11_trick 23 = .ok (.iload_n 1, 1) := by decide +kernel
theorem dX11_trick_24 : decode cX11_trick 24 = .ok (.iconst 1, 1) := by decide +kernel
theorem dX11_trick_25 : decode cX11_trick 25 = .ok (.iload_n 2, 1) := by decide +kernel
theorem dX11_trick_26 : decode cX11_trick 26 = .ok (.ishl, 1) := by decide +kernel
theorem dX11_trick_27 : decode cX11_trick 27 = .ok (.ior, 1) := by decide +kernel
theorem dX11_trick_28 : decode cX11_trick 28 = .ok (.istore_n 1, 1) := by decide +kernel
theorem dX11_trick_29 : decode cX11_trick 29 = .ok (.iinc 2 1, 3) := by decide +kernel
theorem dX11_trick_32 : decode cX11_trick 32 = .ok (.goto (-28), 3) := by decide +kernel
theorem dX11_trick_35 : decode cX11_trick 35 = .ok (.iload_n 1, 1) := by decide +kernel
theorem dX11_trick_36 : decode cX11_trick 36 = .ok (.ireturn, 1) := by decide +kernel
theorem kc_RX11_289 : Cond.methodLink RX11 289 yX11_explainsAnswers ∈ ktG ∧ (Cond.instanceMethod yX11_explainsAnswers ∈ ktG ∧ Cond.selects yX11_explainsAnswers.cls yX11_explainsAnswers yX11_explainsAnswers ∈ ktG) ∧ Cond.initialized yX11_explainsAnswers.cls ∈ ktG ∧ Cond.code yX11_explainsAnswers cX11_explainsAnswers 6 (some .boolean) ∈ ktG := ⟨(kwm 1051 (by decide +kernel) (by decide +kernel)), ⟨(kwm 1053 (by decide +kernel) (by decide +kernel)), (kwm 26 (by decide +kernel) (by decide +kernel))⟩, (kwm 123 (by decide +kernel) (by decide +kernel)), kwm 1054 (by decide +kernel) (by decide +kernel)⟩
theorem kh_X11_explainsAnswers : yX11_explainsAnswers.cls ≠ "java/lang/invoke/MethodHandle" ∧ yX11_explainsAnswers.cls ≠ "java/lang/invoke/VarHandle" ∧ (parseMethodDescriptor yX11_explainsAnswers.desc).map (fun d => d.parameters.length) = some 1 := by decide +kernel
def E_X11_trick_l4 (v0 : Nat) : Int32 × KH → Nat → List (Nat × Value) → List Value → KH → Prop := fun (e : Int32 × KH) pc ls st hh => pc = 35 ∧ ls = [(1, .int e.1)] ∧ st = [] ∧ e.2 = hh
def B_X11_trick_l4 (v0 : Nat) : ((Int32 × Int32 × KH) ⊕ (Int32 × KH)) → Nat → List (Nat × Value) → List Value → KH → Prop := Sum.elim (fun (s : Int32 × Int32 × KH) pc ls st hh => pc = 4 ∧ ls = [(0, .ref v0), (1, .int s.1), (2, .int s.2.1)] ∧ st = [] ∧ hh = s.2.2) (E_X11_trick_l4 v0)
def f_X11_trick_b29 (h : KH) (v0 : Nat) (v1 : Int32) (v2 : Int32) : Option ((Int32 × Int32 × KH) ⊕ (Int32 × KH)) :=
  kl (v2 + (1 : Int32)) fun x1 =>
  some (.inl (v1, x1, h))
set_option maxHeartbeats 4000000 in
set_option maxRecDepth 100000 in
theorem s_X11_trick_b29 {Z : Nat → (Nat → Nat) → State → Prop} (h : KH) (v0 : Nat) (v1 : Int32) (v2 : Int32) {t : (Int32 × Int32 × KH) ⊕ (Int32 × KH)} (hn : h.1 = 243) (H : f_X11_trick_b29 h v0 v1 v2 = some t) : KX Z RX11 cX11_trick 3 false 7 (B_X11_trick_l4 v0 t) 29 [(0, .ref v0), (1, .int v1), (2, .int v2)] [] h := by
  unfold f_X11_trick_b29 at H
  replace H := kle H; obtain ⟨x1, q2, H⟩ := H
  refine x_iinc (q := 32) (i := 2) (ls2 := [(2, .int x1), (0, .ref v0), (1, .int v1)]) dX11_trick_29 rfl rfl (by decide) (by rw [q2]; rfl) ?_
  refine x_goto dX11_trick_32 (q := 4) (by decide) ?_
  cases H
  refine x_sub (ls2 := [(0, .ref v0), (1, .int v1), (2, .int x1)]) [1, 2, 0] rfl ?_
  exact x_end (x_cfg rfl)
def f_X11_trick_l4 (v0 : Nat) (s : Int32 × Int32 × KH) : Option ((Int32 × Int32 × KH) ⊕ (Int32 × KH)) :=
  if kkind v0 = 11 then if (kR s.2.2 v0 5) < 999999 then if kkind (kR s.2.2 v0 5) = 2 then if (kI s.2.2 (kR s.2.2 v0 5) 4) ≤ s.2.1 then
  some (.inr (s.1, s.2.2))
  else
  kb (f_X11_explainsAnswers s.2.2 v0 s.2.1) fun r5 =>
  if r5.1 = 0 then
  f_X11_trick_b29 r5.2 v0 s.1 s.2.1
  else
  kl (s.1 ||| ((1 : Int32) <<< (s.2.1 &&& 31))) fun x10 =>
  f_X11_trick_b29 r5.2 v0 x10 s.2.1 else none else none else none
set_option maxHeartbeats 4000000 in
set_option maxRecDepth 100000 in
theorem s_X11_trick_l4 {Z : Nat → (Nat → Nat) → State → Prop} (v0 : Nat) (s : Int32 × Int32 × KH) (t : (Int32 × Int32 × KH) ⊕ (Int32 × KH)) (hn : (s.2.2).1 = 243) (H : f_X11_trick_l4 v0 s = some t) : KX Z RX11 cX11_trick 3 false 7 (B_X11_trick_l4 v0 t) 4 [(0, .ref v0), (1, .int s.1), (2, .int s.2.1)] [] s.2.2 := by
  unfold f_X11_trick_l4 at H
  refine x_iload_n (q := 5) dX11_trick_4 rfl rfl ?_
  refine x_aload_n (q := 6) dX11_trick_5 rfl rfl ?_
  replace H := kif H; obtain ⟨g1, H⟩ := H
  replace H := kif H; obtain ⟨g2, H⟩ := H
  refine x_getR (q := 9) dX11_trick_6 rfl kl_RX11_57 rfl (k243 g1 (by decide) hn) g2 ?_
  replace H := kif H; obtain ⟨g3, H⟩ := H
  refine x_getI (q := 12) dX11_trick_9 rfl kl_RX11_146 (Or.inl rfl) (k243 g3 (by decide) hn) ?_
  replace H := kite H; rcases H with ⟨g4, H⟩ | ⟨g4, H⟩
  · refine x_icmp_ge_t dX11_trick_12 (q := 35) (by decide) g4 ?_
    cases H
    refine x_sub (ls2 := [(1, .int s.1)]) [1] rfl ?_
    exact x_end (x_cfg rfl)
  · refine x_icmp_ge_f (q := 15) dX11_trick_12 (t := 35) (by decide) rfl g4 ?_
    refine x_aload_n (q := 16) dX11_trick_15 rfl rfl ?_
    refine x_iload_n (q := 17) dX11_trick_16 rfl rfl ?_
    replace H := kbe H; obtain ⟨r5, c6, H⟩ := H
    have m7 := s_X11_explainsAnswers (Z := Z) s.2.2 v0 s.2.1 hn c6
    refine x_callV (q := 20) (as := [.int s.2.1]) (rest := []) dX11_trick_17 rfl kc_RX11_289 kh_X11_explainsAnswers (by decide) (Nat.le_of_ble_eq_true rfl) m7 (ci := 11) (by exact ⟨rfl, by decide⟩) (k243 g1 (by decide) hn) ?_
    have n8 : (r5.2).1 = 243 := m7.1.full hn
    replace H := kite H; rcases H with ⟨g9, H⟩ | ⟨g9, H⟩
    · refine x_if_eq_t dX11_trick_20 (q := 29) (by decide) g9 ?_
      refine x_sub (ls2 := [(0, .ref v0), (1, .int s.1), (2, .int s.2.1)]) [0, 1, 2] rfl ?_
      exact s_X11_trick_b29 r5.2 v0 s.1 s.2.1 n8 H
    · refine x_if_eq_f (q := 23) dX11_trick_20 (t := 29) (by decide) rfl g9 ?_
      refine x_iload_n (q := 24) dX11_trick_23 rfl rfl ?_
      refine x_iconst (q := 25) (v := (1 : Int32)) dX11_trick_24 rfl (by decide) ?_
      refine x_iload_n (q := 26) dX11_trick_25 rfl rfl ?_
      refine x_ishl (q := 27) dX11_trick_26 rfl ?_
      refine x_ior (q := 28) dX11_trick_27 rfl ?_
      replace H := kle H; obtain ⟨x10, q11, H⟩ := H
      refine x_nmI q11 ?_
      refine x_istore_n (q := 29) (i := 1) (ls2 := [(1, .int x10), (0, .ref v0), (2, .int s.2.1)]) dX11_trick_28 rfl rfl (by decide) rfl ?_
      refine x_sub (ls2 := [(0, .ref v0), (1, .int x10), (2, .int s.2.1)]) [1, 0, 2] rfl ?_
      exact s_X11_trick_b29 r5.2 v0 x10 s.2.1 n8 H
theorem sl_X11_trick_l4 {Z : Nat → (Nat → Nat) → State → Prop} (v0 : Nat) (n : Nat) (s : Int32 × Int32 × KH) (r : Int32 × KH) (hn : (s.2.2).1 = 243) (H : kloop (f_X11_trick_l4 v0) n s = some r) : KX Z RX11 cX11_trick 3 false 7 (E_X11_trick_l4 v0 r) 4 [(0, .ref v0), (1, .int s.1), (2, .int s.2.1)] [] s.2.2 :=
  k_loop (ls := (fun (s : Int32 × Int32 × KH) => ([(0, .ref v0), (1, .int s.1), (2, .int s.2.1)] : List (Nat × Value)))) (hp := (fun (s : Int32 × Int32 × KH) => (s.2.2 : KH))) (G := E_X11_trick_l4 v0) (fun s t hn H => s_X11_trick_l4 v0 s t hn H) n s r hn H
def f_X11_trick (h : KH) (v0 : Nat) : Option (Int32 × KH) :=
  kb (kloop (f_X11_trick_l4 v0) KF ((0 : Int32), (0 : Int32), h)) fun e1 =>
  some (e1.1, e1.2)
set_option maxHeartbeats 4000000 in
set_option maxRecDepth 100000 in
theorem s0_X11_trick {Z : Nat → (Nat → Nat) → State → Prop} (h : KH) (v0 : Nat) {t : Int32 × KH} (hn : h.1 = 243) (H : f_X11_trick h v0 = some t) : KX Z RX11 cX11_trick 3 false 7 (KRi cX11_trick t.1 t.2) 0 [(0, .ref v0)] [] h := by
  unfold f_X11_trick at H
  refine x_iconst (q := 1) (v := (0 : Int32)) dX11_trick_0 rfl (by decide) ?_
  refine x_istore_n (q := 2) (i := 1) (ls2 := [(1, .int (0 : Int32)), (0, .ref v0)]) dX11_trick_1 rfl rfl (by decide) rfl ?_
  refine x_iconst (q := 3) (v := (0 : Int32)) dX11_trick_2 rfl (by decide) ?_
  refine x_istore_n (q := 4) (i := 2) (ls2 := [(2, .int (0 : Int32)), (1, .int (0 : Int32)), (0, .ref v0)]) dX11_trick_3 rfl rfl (by decide) rfl ?_
  refine x_sub (ls2 := [(0, .ref v0), (1, .int (0 : Int32)), (2, .int (0 : Int32))]) [2, 1, 0] rfl ?_
  replace H := kbe H; obtain ⟨e1, c2, H⟩ := H
  refine x_app (sl_X11_trick_l4 v0 KF ((0 : Int32), (0 : Int32), h) e1 hn c2) fun pc2 ls2 st2 h2 hg m3 => ?_
  obtain ⟨rfl, rfl, rfl, rfl⟩ := hg
  refine x_iload_n (q := 36) dX11_trick_35 rfl rfl ?_
  cases H
  exact x_end ⟨dX11_trick_36, rfl, rfl⟩
theorem s_X11_trick {Z : Nat → (Nat → Nat) → State → Prop} (h : KH) (v0 : Nat) {t : Int32 × KH} (hn : h.1 = 243) (H : f_X11_trick h v0 = some t) : KM Z yX11_trick cX11_trick 3 (some .int) 7 [.ref v0] h (some (.int t.1)) t.2 :=
  kx_i (own := RX11) (ini := false) (by decide +kernel) (by decide +kernel) rfl (Nat.le_of_ble_eq_true rfl) (s0_X11_trick h v0 hn H)
theorem dX11_canHear_0 : decode cX11_canHear 0 = .ok (.aload_n 0, 1) := by decide +kernel
theorem dX11_canHear_1 : decode cX11_canHear 1 = .ok (.iload_n 1, 1) := by decide +kernel
theorem dX11_canHear_2 : decode cX11_canHear 2 = .ok (.invokevirtual 188, 3) := by decide +kernel
theorem dX11_canHear_5 : decode cX11_canHear 5 = .ok (.ifCond .eq 29, 3) := by decide +kernel
theorem dX11_canHear_8 : decode cX11_canHear 8 = .ok (.iload_n 2, 1) := by decide +kernel
theorem dX11_canHear_9 : decode cX11_canHear 9 = .ok (.invokestatic 209, 3) := by decide +kernel
theorem dX11_canHear_12 : decode cX11_canHear 12 = .ok (.ifCond .eq 22, 3) := by decide +kernel
theorem dX11_canHear_15 : decode cX11_canHear 15 = .ok (.iload_n 3, 1) := by decide +kernel
theorem dX11_canHear_16 : decode cX11_canHear 16 = .ok (.invokestatic 209, 3) := by decide +kernel
theorem dX11_canHear_19 : decode cX11_canHear 19 = .ok (.ifCond .eq 15, 3) := by decide +kernel
theorem dX11_canHear_22 : decode cX11_canHear 22 = .ok (.aload_n 0, 1) := by decide +kernel
theorem dX11_canHear_23 : decode cX11_canHear 23 = .ok (.getfield 67, 3) := by decide +kernel
theorem dX11_canHear_26 : decode cX11_canHear 26 = .ok (.getfield 197, 3) := by decide +kernel
theorem dX11_canHear_29 : decode cX11_canHear 29 = .ok (.iload_n 1, 1) := by decide +kernel
theorem dX11_canHear_30 : decode cX11_canHear 30 = .ok (.iaload, 1) := by decide +kernel
theorem dX11_canHear_31 : decode cX11_canHear 31 = .ok (.ifCond .eq 5, 3) := by decide +kernel
theorem dX11_canHear_34 : decode cX11_canHear 34 = .ok (.iconst 0, 1) := by decide +kernel
theorem dX11_canHear_35 : decode cX11_canHear 35 = .ok (.ireturn, 1) := by decide +kernel
theorem dX11_canHear_36 : decode cX11_canHear 36 = .ok (.aload_n 0, 1) := by decide +kernel
theorem dX11_canHear_37 : decode cX11_canHear 37 = .ok (.getfield 71, 3) := by decide +kernel
theorem dX11_canHear_40 : decode cX11_canHear 40 = .ok (.aload_n 0, 1) := by decide +kernel
theorem dX11_canHear_41 : decode cX11_canHear 41 = .ok (.getfield 67, 3) := by decide +kernel
theorem dX11_canHear_44 : decode cX11_canHear 44 = .ok (.invokevirtual 353, 3) := by decide +kernel
theorem dX11_canHear_47 : decode cX11_canHear 47 = .ok (.aload_n 0, 1) := by decide +kernel
theorem dX11_canHear_48 : decode cX11_canHear 48 = .ok (.getfield 71, 3) := by decide +kernel
theorem dX11_canHear_51 : decode cX11_canHear 51 = .ok (.getfield 197, 3) := by decide +kernel
theorem dX11_canHear_54 : decode cX11_canHear 54 = .ok (.iload_n 1, 1) := by decide +kernel
theorem dX11_canHear_55 : decode cX11_canHear 55 = .ok (.iconst 1, 1) := by decide +kernel
theorem dX11_canHear_56 : decode cX11_canHear 56 = .ok (.iload_n 2, 1) := by decide +kernel
theorem dX11_canHear_57 : decode cX11_canHear 57 = .ok (.iadd, 1) := by decide +kernel
theorem dX11_canHear_58 : decode cX11_canHear 58 = .ok (.iconst 2, 1) := by decide +kernel
theorem dX11_canHear_59 : decode cX11_canHear 59 = .ok (.iload_n 3, 1) := by decide +kernel
theorem dX11_canHear_60 : decode cX11_canHear 60 = .ok (.imul, 1) := by decide +kernel
theorem dX11_canHear_61 : decode cX11_canHear 61 = .ok (.iadd, 1) := by decide +kernel
theorem dX11_canHear_62 : decode cX11_canHear 62 = .ok (.iastore, 1) := by decide +kernel
theorem dX11_canHear_63 : decode cX11_canHear 63 = .ok (.aload_n 0, 1) := by decide +kernel
theorem dX11_canHear_64 : decode cX11_canHear 64 = .ok (.getfield 91, 3) := by decide +kernel
theorem dX11_canHear_67 : decode cX11_canHear 67 = .ok (.aload_n 0, 1) := by decide +kernel
theorem dX11_canHear_68 : decode cX11_canHear 68 = .ok (.getfield 57, 3) := by decide +kernel
theorem dX11_canHear_71 : decode cX11_canHear 71 = .ok (.aload_n 0, 1) := by decide +kernel
theorem dX11_canHear_72 : decode cX11_canHear 72 = .ok (.getfield 71, 3) := by decide +kernel
theorem dX11_canHear_75 : decode cX11_canHear 75 = .ok (.invokevirtual 223, 3) := by decide +kernel
theorem dX11_canHear_78 : decode cX11_canHear 78 = .ok (.aload_n 0, 1) := by decide +kernel
theorem dX11_canHear_79 : decode cX11_canHear 79 = .ok (.getfield 91, 3) := by decide +kernel
theorem dX11_canHear_82 : decode cX11_canHear 82 = .ok (.invokevirtual 246, 3) := by decide +kernel
theorem dX11_canHear_85 : decode cX11_canHear 85 = .ok (.lconst 0, 1) := by decide +kernel
theorem dX11_canHear_86 : decode cX11_canHear 86 = .ok (.lcmp, 1) := by decide +kernel
theorem dX11_canHear_87 : decode cX11_canHear 87 = .ok (.ifCond .le 7, 3) := by decide +kernel
theorem dX11_canHear_90 : decode cX11_canHear 90 = .ok (.iconst 1, 1) := by decide +kernel
theorem dX11_canHear_91 : decode cX11_canHear 91 = .ok (.goto 4, 3) := by decide +kernel
theorem dX11_canHear_94 : decode cX11_canHear 94 = .ok (.iconst 0, 1) := by decide +kernel
theorem dX11_canHear_95 : decode cX11_canHear 95 = .ok (.ireturn, 1) := by decide +kernel
def f_X11_canHear (h : KH) (v0 : Nat) (v1 : Int32) (v2 : Int32) (v3 : Int32) : Option (Int32 × KH) :=
  if kkind v0 = 11 then kb (f_X11_isTest h v0 v1) fun r2 =>
  if r2 = 0 then
  some ((0 : Int32), h)
  else
  kb (f_X11_isBit h v2) fun r6 =>
  if r6 = 0 then
  some ((0 : Int32), h)
  else
  kb (f_X11_isBit h v3) fun r10 =>
  if r10 = 0 then
  some ((0 : Int32), h)
  else
  if (kR h v0 7) < 999999 then if kkind (kR h v0 7) = 8 then if (kR h (kR h v0 7) 4) < 999999 then if kkind (kR h (kR h v0 7) 4) = 20 then if (v1 < 0 ∨ klen (kR h (kR h v0 7) 4) ≤ (v1).toNatClampNeg) then none else if (kI h (kR h (kR h v0 7) 4) ((v1).toNatClampNeg)) = 0 then
  if (kR h v0 8) < 999999 then if kkind (kR h v0 8) = 8 then kb (f_X8_copyFrom h (kR h v0 8) (kR h v0 7)) fun r22 =>
  if (kR r22 v0 8) < 999999 then if kkind (kR r22 v0 8) = 8 then if (kR r22 (kR r22 v0 8) 4) < 999999 then if kkind (kR r22 (kR r22 v0 8) 4) = 20 then if (v1 < 0 ∨ klen (kR r22 (kR r22 v0 8) 4) ≤ (v1).toNatClampNeg) then none else kl (ksI r22 (kR r22 (kR r22 v0 8) 4) ((v1).toNatClampNeg) (((1 : Int32) + v2) + ((2 : Int32) * v3))) fun h31 =>
  if (kR h31 v0 11) < 999999 then if (kR h31 v0 5) < 999999 then if (kR h31 v0 8) < 999999 then if kkind (kR h31 v0 11) = 10 then kb (f_X10_weigh h31 (kR h31 v0 11) (kR h31 v0 5) (kR h31 v0 8)) fun r38 =>
  if (kR r38 v0 11) < 999999 then if kkind (kR r38 v0 11) = 10 then kb (f_X10_total r38 (kR r38 v0 11)) fun r44 =>
  if (lg_cmp r44 (0 : Int64)) ≤ 0 then
  some ((0 : Int32), r38)
  else
  some ((1 : Int32), r38) else none else none else none else none else none else none else none else none else none else none else none else none
  else
  some ((0 : Int32), h) else none else none else none else none else none
set_option maxHeartbeats 4000000 in
set_option maxRecDepth 100000 in
theorem s0_X11_canHear {Z : Nat → (Nat → Nat) → State → Prop} (h : KH) (v0 : Nat) (v1 : Int32) (v2 : Int32) (v3 : Int32) {t : Int32 × KH} (hn : h.1 = 243) (H : f_X11_canHear h v0 v1 v2 v3 = some t) : KX Z RX11 cX11_canHear 4 false 7 (KRz cX11_canHear t.1 t.2) 0 [(0, .ref v0), (1, .int v1), (2, .int v2), (3, .int v3)] [] h := by
  unfold f_X11_canHear at H
  refine x_aload_n (q := 1) dX11_canHear_0 rfl rfl ?_
  refine x_iload_n (q := 2) dX11_canHear_1 rfl rfl ?_
  replace H := kif H; obtain ⟨g1, H⟩ := H
  replace H := kbe H; obtain ⟨r2, c3, H⟩ := H
  have m4 := s_X11_isTest (Z := Z) h v0 v1 hn c3
  refine x_callV (q := 5) (as := [.int v1]) (rest := []) dX11_canHear_2 rfl kc_RX11_188 kh_X11_isTest (by decide) (Nat.le_of_ble_eq_true rfl) m4 (ci := 11) (by exact ⟨rfl, by decide⟩) (k243 g1 (by decide) hn) ?_
  replace H := kite H; rcases H with ⟨g5, H⟩ | ⟨g5, H⟩
  · refine x_if_eq_t dX11_canHear_5 (q := 34) (by decide) g5 ?_
    refine x_iconst (q := 35) (v := (0 : Int32)) dX11_canHear_34 rfl (by decide) ?_
    cases H
    exact x_end ⟨(Or.inl rfl), dX11_canHear_35, rfl, rfl⟩
  · refine x_if_eq_f (q := 8) dX11_canHear_5 (t := 34) (by decide) rfl g5 ?_
    refine x_iload_n (q := 9) dX11_canHear_8 rfl rfl ?_
    replace H := kbe H; obtain ⟨r6, c7, H⟩ := H
    have m8 := s_X11_isBit (Z := Z) h v2 hn c7
    refine x_callS (q := 12) (as := [.int v2]) (rest := []) dX11_canHear_9 rfl kc_RX11_209 kh_X11_isBit (by decide) (Nat.le_of_ble_eq_true rfl) m8 ?_
    replace H := kite H; rcases H with ⟨g9, H⟩ | ⟨g9, H⟩
    · refine x_if_eq_t dX11_canHear_12 (q := 34) (by decide) g9 ?_
      refine x_iconst (q := 35) (v := (0 : Int32)) dX11_canHear_34 rfl (by decide) ?_
      cases H
      exact x_end ⟨(Or.inl rfl), dX11_canHear_35, rfl, rfl⟩
    · refine x_if_eq_f (q := 15) dX11_canHear_12 (t := 34) (by decide) rfl g9 ?_
      refine x_iload_n (q := 16) dX11_canHear_15 rfl rfl ?_
      replace H := kbe H; obtain ⟨r10, c11, H⟩ := H
      have m12 := s_X11_isBit (Z := Z) h v3 hn c11
      refine x_callS (q := 19) (as := [.int v3]) (rest := []) dX11_canHear_16 rfl kc_RX11_209 kh_X11_isBit (by decide) (Nat.le_of_ble_eq_true rfl) m12 ?_
      replace H := kite H; rcases H with ⟨g13, H⟩ | ⟨g13, H⟩
      · refine x_if_eq_t dX11_canHear_19 (q := 34) (by decide) g13 ?_
        refine x_iconst (q := 35) (v := (0 : Int32)) dX11_canHear_34 rfl (by decide) ?_
        cases H
        exact x_end ⟨(Or.inl rfl), dX11_canHear_35, rfl, rfl⟩
      · refine x_if_eq_f (q := 22) dX11_canHear_19 (t := 34) (by decide) rfl g13 ?_
        refine x_aload_n (q := 23) dX11_canHear_22 rfl rfl ?_
        replace H := kif H; obtain ⟨g14, H⟩ := H
        refine x_getR (q := 26) dX11_canHear_23 rfl kl_RX11_67 rfl (k243 g1 (by decide) hn) g14 ?_
        replace H := kif H; obtain ⟨g15, H⟩ := H
        replace H := kif H; obtain ⟨g16, H⟩ := H
        refine x_getR (q := 29) dX11_canHear_26 rfl kl_RX11_197 rfl (k243 g15 (by decide) hn) g16 ?_
        refine x_iload_n (q := 30) dX11_canHear_29 rfl rfl ?_
        replace H := kif H; obtain ⟨g17, H⟩ := H
        replace H := kifn H; obtain ⟨g18, H⟩ := H
        refine x_iald (q := 31) dX11_canHear_30 rfl (k243 g17 (by decide) hn) g18 ?_
        replace H := kite H; rcases H with ⟨g19, H⟩ | ⟨g19, H⟩
        · refine x_if_eq_t dX11_canHear_31 (q := 36) (by decide) g19 ?_
          refine x_aload_n (q := 37) dX11_canHear_36 rfl rfl ?_
          replace H := kif H; obtain ⟨g20, H⟩ := H
          refine x_getR (q := 40) dX11_canHear_37 rfl kl_RX11_71 rfl (k243 g1 (by decide) hn) g20 ?_
          refine x_aload_n (q := 41) dX11_canHear_40 rfl rfl ?_
          refine x_getR (q := 44) dX11_canHear_41 rfl kl_RX11_67 rfl (k243 g1 (by decide) hn) g14 ?_
          replace H := kif H; obtain ⟨g21, H⟩ := H
          replace H := kbe H; obtain ⟨r22, c23, H⟩ := H
          have m24 := s_X8_copyFrom (Z := Z) h (kR h v0 8) (kR h v0 7) hn c23
          refine x_callV (q := 47) (as := [.ref (kR h v0 7)]) (rest := []) dX11_canHear_44 rfl kc_RX11_353 kh_X8_copyFrom (by decide) (Nat.le_of_ble_eq_true rfl) m24 (ci := 8) (by exact ⟨rfl, by decide⟩) (k243 g21 (by decide) hn) ?_
          have n25 : (r22).1 = 243 := m24.1.full hn
          refine x_aload_n (q := 48) dX11_canHear_47 rfl rfl ?_
          replace H := kif H; obtain ⟨g26, H⟩ := H
          refine x_getR (q := 51) dX11_canHear_48 rfl kl_RX11_71 rfl (k243 g1 (by decide) n25) g26 ?_
          replace H := kif H; obtain ⟨g27, H⟩ := H
          replace H := kif H; obtain ⟨g28, H⟩ := H
          refine x_getR (q := 54) dX11_canHear_51 rfl kl_RX11_197 rfl (k243 g27 (by decide) n25) g28 ?_
          refine x_iload_n (q := 55) dX11_canHear_54 rfl rfl ?_
          refine x_iconst (q := 56) (v := (1 : Int32)) dX11_canHear_55 rfl (by decide) ?_
          refine x_iload_n (q := 57) dX11_canHear_56 rfl rfl ?_
          refine x_iadd (q := 58) dX11_canHear_57 rfl ?_
          refine x_iconst (q := 59) (v := (2 : Int32)) dX11_canHear_58 rfl (by decide) ?_
          refine x_iload_n (q := 60) dX11_canHear_59 rfl rfl ?_
          refine x_imul (q := 61) dX11_canHear_60 rfl ?_
          refine x_iadd (q := 62) dX11_canHear_61 rfl ?_
          replace H := kif H; obtain ⟨g29, H⟩ := H
          replace H := kifn H; obtain ⟨g30, H⟩ := H
          replace H := kle H; obtain ⟨h31, q32, H⟩ := H
          refine x_iast (q := 63) dX11_canHear_62 rfl (k243 g29 (by decide) n25) g30 ?_
          refine x_nmH q32 ?_
          have n33 : h31.1 = 243 := by rw [q32]; exact n25
          refine x_aload_n (q := 64) dX11_canHear_63 rfl rfl ?_
          replace H := kif H; obtain ⟨g34, H⟩ := H
          refine x_getR (q := 67) dX11_canHear_64 rfl kl_RX11_91 rfl (k243 g1 (by decide) n33) g34 ?_
          refine x_aload_n (q := 68) dX11_canHear_67 rfl rfl ?_
          replace H := kif H; obtain ⟨g35, H⟩ := H
          refine x_getR (q := 71) dX11_canHear_68 rfl kl_RX11_57 rfl (k243 g1 (by decide) n33) g35 ?_
          refine x_aload_n (q := 72) dX11_canHear_71 rfl rfl ?_
          replace H := kif H; obtain ⟨g36, H⟩ := H
          refine x_getR (q := 75) dX11_canHear_72 rfl kl_RX11_71 rfl (k243 g1 (by decide) n33) g36 ?_
          replace H := kif H; obtain ⟨g37, H⟩ := H
          replace H := kbe H; obtain ⟨r38, c39, H⟩ := H
          have m40 := s_X10_weigh (Z := Z) h31 (kR h31 v0 11) (kR h31 v0 5) (kR h31 v0 8) n33 c39
          refine x_callV (q := 78) (as := [.ref (kR h31 v0 5), .ref (kR h31 v0 8)]) (rest := []) dX11_canHear_75 rfl kc_RX11_223 kh_X10_weigh (by decide) (Nat.le_of_ble_eq_true rfl) m40 (ci := 10) (by exact ⟨rfl, by decide⟩) (k243 g37 (by decide) n33) ?_
          have n41 : (r38).1 = 243 := m40.1.full n33
          refine x_aload_n (q := 79) dX11_canHear_78 rfl rfl ?_
          replace H := kif H; obtain ⟨g42, H⟩ := H
          refine x_getR (q := 82) dX11_canHear_79 rfl kl_RX11_91 rfl (k243 g1 (by decide) n41) g42 ?_
          replace H := kif H; obtain ⟨g43, H⟩ := H
          replace H := kbe H; obtain ⟨r44, c45, H⟩ := H
          have m46 := s_X10_total (Z := Z) r38 (kR r38 v0 11) n41 c45
          refine x_callV (q := 85) (as := []) (rest := []) dX11_canHear_82 rfl kc_RX11_246 kh_X10_total (by decide) (Nat.le_of_ble_eq_true rfl) m46 (ci := 10) (by exact ⟨rfl, by decide⟩) (k243 g43 (by decide) n41) ?_
          refine x_lconst (q := 86) (v := (0 : Int64)) dX11_canHear_85 rfl (by decide) ?_
          refine x_lcmp (q := 87) dX11_canHear_86 rfl ?_
          replace H := kite H; rcases H with ⟨g47, H⟩ | ⟨g47, H⟩
          · refine x_if_le_t dX11_canHear_87 (q := 94) (by decide) g47 ?_
            refine x_iconst (q := 95) (v := (0 : Int32)) dX11_canHear_94 rfl (by decide) ?_
            cases H
            exact x_end ⟨(Or.inl rfl), dX11_canHear_95, rfl, rfl⟩
          · refine x_if_le_f (q := 90) dX11_canHear_87 (t := 94) (by decide) rfl g47 ?_
            refine x_iconst (q := 91) (v := (1 : Int32)) dX11_canHear_90 rfl (by decide) ?_
            refine x_goto dX11_canHear_91 (q := 95) (by decide) ?_
            cases H
            exact x_end ⟨(Or.inr rfl), dX11_canHear_95, rfl, rfl⟩
        · refine x_if_eq_f (q := 34) dX11_canHear_31 (t := 36) (by decide) rfl g19 ?_
          refine x_iconst (q := 35) (v := (0 : Int32)) dX11_canHear_34 rfl (by decide) ?_
          cases H
          exact x_end ⟨(Or.inl rfl), dX11_canHear_35, rfl, rfl⟩
theorem s_X11_canHear {Z : Nat → (Nat → Nat) → State → Prop} (h : KH) (v0 : Nat) (v1 : Int32) (v2 : Int32) (v3 : Int32) {t : Int32 × KH} (hn : h.1 = 243) (H : f_X11_canHear h v0 v1 v2 v3 = some t) : KM Z yX11_canHear cX11_canHear 4 (some .boolean) 7 [.ref v0, .int v1, .int v2, .int v3] h (some (.int t.1)) t.2 :=
  kx_z (own := RX11) (ini := false) (by decide +kernel) (by decide +kernel) rfl (Nat.le_of_ble_eq_true rfl) (s0_X11_canHear h v0 v1 v2 v3 hn H)
theorem dX11_beginAct_0 : decode cX11_beginAct 0 = .ok (.aload_n 0, 1) := by decide +kernel
theorem dX11_beginAct_1 : decode cX11_beginAct 1 = .ok (.getfield 77, 3) := by decide +kernel
theorem dX11_beginAct_4 : decode cX11_beginAct 4 = .ok (.aload_n 0, 1) := by decide +kernel
theorem dX11_beginAct_5 : decode cX11_beginAct 5 = .ok (.getfield 67, 3) := by decide +kernel
theorem dX11_beginAct_8 : decode cX11_beginAct 8 = .ok (.invokevirtual 350, 3) := by decide +kernel
theorem dX11_beginAct_11 : decode cX11_beginAct 11 = .ok (.aload_n 0, 1) := by decide +kernel
theorem dX11_beginAct_12 : decode cX11_beginAct 12 = .ok (.getfield 84, 3) := by decide +kernel
theorem dX11_beginAct_15 : decode cX11_beginAct 15 = .ok (.iconst 0, 1) := by decide +kernel
theorem dX11_beginAct_16 : decode cX11_beginAct 16 = .ok (.putfield 139, 3) := by decide +kernel
theorem dX11_beginAct_19 : decode cX11_beginAct 19 = .ok (.return_, 1) := by decide +kernel
theorem kc_RX11_350 : Cond.methodLink RX11 350 yX5_keep ∈ ktG ∧ (Cond.instanceMethod yX5_keep ∈ ktG ∧ Cond.selects yX5_keep.cls yX5_keep yX5_keep ∈ ktG) ∧ Cond.initialized yX5_keep.cls ∈ ktG ∧ Cond.code yX5_keep cX5_keep 2 none ∈ ktG := ⟨(kwm 1067 (by decide +kernel) (by decide +kernel)), ⟨(kwm 1068 (by decide +kernel) (by decide +kernel)), (kwm 1069 (by decide +kernel) (by decide +kernel))⟩, (kwm 136 (by decide +kernel) (by decide +kernel)), kwm 1070 (by decide +kernel) (by decide +kernel)⟩
theorem kh_X5_keep : yX5_keep.cls ≠ "java/lang/invoke/MethodHandle" ∧ yX5_keep.cls ≠ "java/lang/invoke/VarHandle" ∧ (parseMethodDescriptor yX5_keep.desc).map (fun d => d.parameters.length) = some 1 := by decide +kernel
def f_X11_beginAct (h : KH) (v0 : Nat) : Option (KH) :=
  if kkind v0 = 11 then if (kR h v0 9) < 999999 then if (kR h v0 7) < 999999 then if kkind (kR h v0 9) = 5 then kb (f_X5_keep h (kR h v0 9) (kR h v0 7)) fun r5 =>
  if (kR r5 v0 10) < 999999 then if kkind (kR r5 v0 10) = 0 then kl (ksI r5 (kR r5 v0 10) 3 (0 : Int32)) fun h11 =>
  some h11 else none else none else none else none else none else none
set_option maxHeartbeats 4000000 in
set_option maxRecDepth 100000 in
theorem s0_X11_beginAct {Z : Nat → (Nat → Nat) → State → Prop} (h : KH) (v0 : Nat) {t : KH} (hn : h.1 = 243) (H : f_X11_beginAct h v0 = some t) : KX Z RX11 cX11_beginAct 1 false 4 (KRv cX11_beginAct t) 0 [(0, .ref v0)] [] h := by
  unfold f_X11_beginAct at H
  refine x_aload_n (q := 1) dX11_beginAct_0 rfl rfl ?_
  replace H := kif H; obtain ⟨g1, H⟩ := H
  replace H := kif H; obtain ⟨g2, H⟩ := H
  refine x_getR (q := 4) dX11_beginAct_1 rfl kl_RX11_77 rfl (k243 g1 (by decide) hn) g2 ?_
  refine x_aload_n (q := 5) dX11_beginAct_4 rfl rfl ?_
  replace H := kif H; obtain ⟨g3, H⟩ := H
  refine x_getR (q := 8) dX11_beginAct_5 rfl kl_RX11_67 rfl (k243 g1 (by decide) hn) g3 ?_
  replace H := kif H; obtain ⟨g4, H⟩ := H
  replace H := kbe H; obtain ⟨r5, c6, H⟩ := H
  have m7 := s_X5_keep (Z := Z) h (kR h v0 9) (kR h v0 7) hn c6
  refine x_callV (q := 11) (as := [.ref (kR h v0 7)]) (rest := []) dX11_beginAct_8 rfl kc_RX11_350 kh_X5_keep (by decide) (Nat.le_of_ble_eq_true rfl) m7 (ci := 5) (by exact ⟨rfl, by decide⟩) (k243 g4 (by decide) hn) ?_
  have n8 : (r5).1 = 243 := m7.1.full hn
  refine x_aload_n (q := 12) dX11_beginAct_11 rfl rfl ?_
  replace H := kif H; obtain ⟨g9, H⟩ := H
  refine x_getR (q := 15) dX11_beginAct_12 rfl kl_RX11_84 rfl (k243 g1 (by decide) n8) g9 ?_
  refine x_iconst (q := 16) (v := (0 : Int32)) dX11_beginAct_15 rfl (by decide) ?_
  replace H := kif H; obtain ⟨g10, H⟩ := H
  replace H := kle H; obtain ⟨h11, q12, H⟩ := H
  refine x_putI (q := 19) dX11_beginAct_16 rfl kl_RX11_139 (Or.inl rfl) rfl (k243 g10 (by decide) n8) ?_
  refine x_nmH q12 ?_
  have n13 : h11.1 = 243 := by rw [q12]; exact n8
  cases H
  exact x_end ⟨dX11_beginAct_19, rfl, rfl⟩
theorem s_X11_beginAct {Z : Nat → (Nat → Nat) → State → Prop} (h : KH) (v0 : Nat) {t : KH} (hn : h.1 = 243) (H : f_X11_beginAct h v0 = some t) : KM Z yX11_beginAct cX11_beginAct 1 none 4 [.ref v0] h none t :=
  kx_v (own := RX11) (ini := false) (by decide +kernel) (by decide +kernel) rfl (Nat.le_of_ble_eq_true rfl) (s0_X11_beginAct h v0 hn H)
theorem dX11_hear_0 : decode cX11_hear 0 = .ok (.aload_n 0, 1) := by decide +kernel
theorem dX11_hear_1 : decode cX11_hear 1 = .ok (.iload_n 1, 1) := by decide +kernel
theorem dX11_hear_2 : decode cX11_hear 2 = .ok (.iload_n 2, 1) := by decide +kernel
theorem dX11_hear_3 : decode cX11_hear 3 = .ok (.iload_n 3, 1) := by decide +kernel
theorem dX11_hear_4 : decode cX11_hear 4 = .ok (.invokevirtual 292, 3) := by decide +kernel
theorem dX11_hear_7 : decode cX11_hear 7 = .ok (.ifCond .ne 11, 3) := by decide +kernel
theorem dX11_hear_10 : decode cX11_hear 10 = .ok (.aload_n 0, 1) := by decide +kernel
theorem dX11_hear_11 : decode cX11_hear 11 = .ok (.iconst 2, 1) := by decide +kernel
theorem dX11_hear_12 : decode cX11_hear 12 = .ok (.invokevirtual 118, 3) := by decide +kernel
theorem dX11_hear_15 : decode cX11_hear 15 = .ok (.pop, 1) := by decide +kernel
theorem dX11_hear_16 : decode cX11_hear 16 = .ok (.iconst 0, 1) := by decide +kernel
theorem dX11_hear_17 : decode cX11_hear 17 = .ok (.ireturn, 1) := by decide +kernel
theorem dX11_hear_18 : decode cX11_hear 18 = .ok (.aload_n 0, 1) := by decide +kernel
theorem dX11_hear_19 : decode cX11_hear 19 = .ok (.invokevirtual 296, 3) := by decide +kernel
theorem dX11_hear_22 : decode cX11_hear 22 = .ok (.aload_n 0, 1) := by decide +kernel
theorem dX11_hear_23 : decode cX11_hear 23 = .ok (.getfield 67, 3) := by decide +kernel
theorem dX11_hear_26 : decode cX11_hear 26 = .ok (.getfield 197, 3) := by decide +kernel
theorem dX11_hear_29 : decode cX11_hear 29 = .ok (.iload_n 1, 1) := by decide +kernel
theorem dX11_hear_30 : decode cX11_hear 30 = .ok (.iconst 1, 1) := by decide +kernel
theorem dX11_hear_31 : decode cX11_hear 31 = .ok (.iload_n 2, 1) := by decide +kernel
theorem dX11_hear_32 : decode cX11_hear 32 = .ok (.iadd, 1) := by decide +kernel
theorem dX11_hear_33 : decode cX11_hear 33 = .ok (.iconst 2, 1) := by decide +kernel
theorem dX11_hear_34 : decode cX11_hear 34 = .ok (.iload_n 3, 1) := by decide +kernel
theorem dX11_hear_35 : decode cX11_hear 35 = .ok (.imul, 1) := by decide +kernel
theorem dX11_hear_36 : decode cX11_hear 36 = .ok (.iadd, 1) := by decide +kernel
theorem dX11_hear_37 : decode cX11_hear 37 = .ok (.iastore, 1) := by decide +kernel
theorem dX11_hear_38 : decode cX11_hear 38 = .ok (.iconst 1, 1) := by decide +kernel
theorem dX11_hear_39 : decode cX11_hear 39 = .ok (.ireturn, 1) := by decide +kernel
theorem kc_RX11_292 : Cond.methodLink RX11 292 yX11_canHear ∈ ktG ∧ (Cond.instanceMethod yX11_canHear ∈ ktG ∧ Cond.selects yX11_canHear.cls yX11_canHear yX11_canHear ∈ ktG) ∧ Cond.initialized yX11_canHear.cls ∈ ktG ∧ Cond.code yX11_canHear cX11_canHear 4 (some .boolean) ∈ ktG := ⟨(kwm 1059 (by decide +kernel) (by decide +kernel)), ⟨(kwm 1061 (by decide +kernel) (by decide +kernel)), (kwm 27 (by decide +kernel) (by decide +kernel))⟩, (kwm 123 (by decide +kernel) (by decide +kernel)), kwm 1062 (by decide +kernel) (by decide +kernel)⟩
theorem kh_X11_canHear : yX11_canHear.cls ≠ "java/lang/invoke/MethodHandle" ∧ yX11_canHear.cls ≠ "java/lang/invoke/VarHandle" ∧ (parseMethodDescriptor yX11_canHear.desc).map (fun d => d.parameters.length) = some 3 := by decide +kernel
theorem kc_RX11_296 : Cond.methodLink RX11 296 yX11_beginAct ∈ ktG ∧ (Cond.instanceMethod yX11_beginAct ∈ ktG ∧ Cond.selects yX11_beginAct.cls yX11_beginAct yX11_beginAct ∈ ktG) ∧ Cond.initialized yX11_beginAct.cls ∈ ktG ∧ Cond.code yX11_beginAct cX11_beginAct 1 none ∈ ktG := ⟨(kwm 1063 (by decide +kernel) (by decide +kernel)), ⟨(kwm 1065 (by decide +kernel) (by decide +kernel)), (kwm 28 (by decide +kernel) (by decide +kernel))⟩, (kwm 123 (by decide +kernel) (by decide +kernel)), kwm 1066 (by decide +kernel) (by decide +kernel)⟩
theorem kh_X11_beginAct : yX11_beginAct.cls ≠ "java/lang/invoke/MethodHandle" ∧ yX11_beginAct.cls ≠ "java/lang/invoke/VarHandle" ∧ (parseMethodDescriptor yX11_beginAct.desc).map (fun d => d.parameters.length) = some 0 := by decide +kernel
def f_X11_hear (h : KH) (v0 : Nat) (v1 : Int32) (v2 : Int32) (v3 : Int32) : Option (Int32 × KH) :=
  if kkind v0 = 11 then kb (f_X11_canHear h v0 v1 v2 v3) fun r2 =>
  if r2.1 = 0 then
  kb (f_X11_refuse r2.2 v0 (2 : Int32)) fun r19 =>
  some ((0 : Int32), r19.2)
  else
  kb (f_X11_beginAct r2.2 v0) fun r7 =>
  if (kR r7 v0 7) < 999999 then if kkind (kR r7 v0 7) = 8 then if (kR r7 (kR r7 v0 7) 4) < 999999 then if kkind (kR r7 (kR r7 v0 7) 4) = 20 then if (v1 < 0 ∨ klen (kR r7 (kR r7 v0 7) 4) ≤ (v1).toNatClampNeg) then none else kl (ksI r7 (kR r7 (kR r7 v0 7) 4) ((v1).toNatClampNeg) (((1 : Int32) + v2) + ((2 : Int32) * v3))) fun h16 =>
  some ((1 : Int32), h16) else none else none else none else none else none
set_option maxHeartbeats 4000000 in
set_option maxRecDepth 100000 in
theorem s0_X11_hear {Z : Nat → (Nat → Nat) → State → Prop} (h : KH) (v0 : Nat) (v1 : Int32) (v2 : Int32) (v3 : Int32) {t : Int32 × KH} (hn : h.1 = 243) (H : f_X11_hear h v0 v1 v2 v3 = some t) : KX Z RX11 cX11_hear 4 false 8 (KRz cX11_hear t.1 t.2) 0 [(0, .ref v0), (1, .int v1), (2, .int v2), (3, .int v3)] [] h := by
  unfold f_X11_hear at H
  refine x_aload_n (q := 1) dX11_hear_0 rfl rfl ?_
  refine x_iload_n (q := 2) dX11_hear_1 rfl rfl ?_
  refine x_iload_n (q := 3) dX11_hear_2 rfl rfl ?_
  refine x_iload_n (q := 4) dX11_hear_3 rfl rfl ?_
  replace H := kif H; obtain ⟨g1, H⟩ := H
  replace H := kbe H; obtain ⟨r2, c3, H⟩ := H
  have m4 := s_X11_canHear (Z := Z) h v0 v1 v2 v3 hn c3
  refine x_callV (q := 7) (as := [.int v1, .int v2, .int v3]) (rest := []) dX11_hear_4 rfl kc_RX11_292 kh_X11_canHear (by decide) (Nat.le_of_ble_eq_true rfl) m4 (ci := 11) (by exact ⟨rfl, by decide⟩) (k243 g1 (by decide) hn) ?_
  have n5 : (r2.2).1 = 243 := m4.1.full hn
  replace H := kite H; rcases H with ⟨g6, H⟩ | ⟨g6, H⟩
  · refine x_if_ne_f (q := 10) dX11_hear_7 (t := 18) (by decide) rfl g6 ?_
    refine x_aload_n (q := 11) dX11_hear_10 rfl rfl ?_
    refine x_iconst (q := 12) (v := (2 : Int32)) dX11_hear_11 rfl (by decide) ?_
    replace H := kbe H; obtain ⟨r19, c20, H⟩ := H
    have m21 := s_X11_refuse (Z := Z) r2.2 v0 (2 : Int32) n5 c20
    refine x_callV (q := 15) (as := [.int (2 : Int32)]) (rest := []) dX11_hear_12 rfl kc_RX11_118 kh_X11_refuse (by decide) (Nat.le_of_ble_eq_true rfl) m21 (ci := 11) (by exact ⟨rfl, by decide⟩) (k243 g1 (by decide) n5) ?_
    have n22 : (r19.2).1 = 243 := m21.1.full n5
    refine x_pop (q := 16) dX11_hear_15 rfl rfl ?_
    refine x_iconst (q := 17) (v := (0 : Int32)) dX11_hear_16 rfl (by decide) ?_
    cases H
    exact x_end ⟨(Or.inl rfl), dX11_hear_17, rfl, rfl⟩
  · refine x_if_ne_t dX11_hear_7 (q := 18) (by decide) g6 ?_
    refine x_aload_n (q := 19) dX11_hear_18 rfl rfl ?_
    replace H := kbe H; obtain ⟨r7, c8, H⟩ := H
    have m9 := s_X11_beginAct (Z := Z) r2.2 v0 n5 c8
    refine x_callV (q := 22) (as := []) (rest := []) dX11_hear_19 rfl kc_RX11_296 kh_X11_beginAct (by decide) (Nat.le_of_ble_eq_true rfl) m9 (ci := 11) (by exact ⟨rfl, by decide⟩) (k243 g1 (by decide) n5) ?_
    have n10 : (r7).1 = 243 := m9.1.full n5
    refine x_aload_n (q := 23) dX11_hear_22 rfl rfl ?_
    replace H := kif H; obtain ⟨g11, H⟩ := H
    refine x_getR (q := 26) dX11_hear_23 rfl kl_RX11_67 rfl (k243 g1 (by decide) n10) g11 ?_
    replace H := kif H; obtain ⟨g12, H⟩ := H
    replace H := kif H; obtain ⟨g13, H⟩ := H
    refine x_getR (q := 29) dX11_hear_26 rfl kl_RX11_197 rfl (k243 g12 (by decide) n10) g13 ?_
    refine x_iload_n (q := 30) dX11_hear_29 rfl rfl ?_
    refine x_iconst (q := 31) (v := (1 : Int32)) dX11_hear_30 rfl (by decide) ?_
    refine x_iload_n (q := 32) dX11_hear_31 rfl rfl ?_
    refine x_iadd (q := 33) dX11_hear_32 rfl ?_
    refine x_iconst (q := 34) (v := (2 : Int32)) dX11_hear_33 rfl (by decide) ?_
    refine x_iload_n (q := 35) dX11_hear_34 rfl rfl ?_
    refine x_imul (q := 36) dX11_hear_35 rfl ?_
    refine x_iadd (q := 37) dX11_hear_36 rfl ?_
    replace H := kif H; obtain ⟨g14, H⟩ := H
    replace H := kifn H; obtain ⟨g15, H⟩ := H
    replace H := kle H; obtain ⟨h16, q17, H⟩ := H
    refine x_iast (q := 38) dX11_hear_37 rfl (k243 g14 (by decide) n10) g15 ?_
    refine x_nmH q17 ?_
    have n18 : h16.1 = 243 := by rw [q17]; exact n10
    refine x_iconst (q := 39) (v := (1 : Int32)) dX11_hear_38 rfl (by decide) ?_
    cases H
    exact x_end ⟨(Or.inr rfl), dX11_hear_39, rfl, rfl⟩
theorem s_X11_hear {Z : Nat → (Nat → Nat) → State → Prop} (h : KH) (v0 : Nat) (v1 : Int32) (v2 : Int32) (v3 : Int32) {t : Int32 × KH} (hn : h.1 = 243) (H : f_X11_hear h v0 v1 v2 v3 = some t) : KM Z yX11_hear cX11_hear 4 (some .boolean) 8 [.ref v0, .int v1, .int v2, .int v3] h (some (.int t.1)) t.2 :=
  kx_z (own := RX11) (ini := false) (by decide +kernel) (by decide +kernel) rfl (Nat.le_of_ble_eq_true rfl) (s0_X11_hear h v0 v1 v2 v3 hn H)
theorem dX11_look_0 : decode cX11_look 0 = .ok (.aload_n 0, 1) := by decide +kernel
theorem dX11_look_1 : decode cX11_look 1 = .ok (.iload_n 1, 1) := by decide +kernel
theorem dX11_look_2 : decode cX11_look 2 = .ok (.invokevirtual 200, 3) := by decide +kernel
theorem dX11_look_5 : decode cX11_look 5 = .ok (.ifCond .eq 21, 3) := by decide +kernel
theorem dX11_look_8 : decode cX11_look 8 = .ok (.iload_n 2, 1) := by decide +kernel
theorem dX11_look_9 : decode cX11_look 9 = .ok (.invokestatic 209, 3) := by decide +kernel
theorem dX11_look_12 : decode cX11_look 12 = .ok (.ifCond .eq 14, 3) := by decide +kernel
theorem dX11_look_15 : decode cX11_look 15 = .ok (.iload_n 3, 1) := by decide +kernel
theorem dX11_look_16 : decode cX11_look 16 = .ok (.invokestatic 209, 3) := by decide +kernel
theorem dX11_look_19 : decode cX11_look 19 = .ok (.ifCond .eq 7, 3) := by decide +kernel
theorem dX11_look_22 : decode cX11_look 22 = .ok (.iconst 1, 1) := by decide +kernel
theorem dX11_look_23 : decode cX11_look 23 = .ok (.goto 4, 3) := by decide +kernel
theorem dX11_look_26 : decode cX11_look 26 = .ok (.iconst 0, 1) := by decide +kernel
theorem dX11_look_27 : decode cX11_look 27 = .ok (.istore 4, 2) := by decide +kernel
theorem dX11_look_29 : decode cX11_look 29 = .ok (.iload 4, 2) := by decide +kernel
theorem dX11_look_31 : decode cX11_look 31 = .ok (.ifCond .eq 19, 3) := by decide +kernel
theorem dX11_look_34 : decode cX11_look 34 = .ok (.aload_n 0, 1) := by decide +kernel
theorem dX11_look_35 : decode cX11_look 35 = .ok (.getfield 67, 3) := by decide +kernel
theorem dX11_look_38 : decode cX11_look 38 = .ok (.getfield 206, 3) := by decide +kernel
theorem dX11_look_41 : decode cX11_look 41 = .ok (.iload_n 1, 1) := by decide +kernel
theorem dX11_look_42 : decode cX11_look 42 = .ok (.iconst 2, 1) := by decide +kernel
theorem dX11_look_43 : decode cX11_look 43 = .ok (.imul, 1) := by decide +kernel
theorem dX11_look_44 : decode cX11_look 44 = .ok (.iload_n 2, 1) := by decide +kernel
theorem dX11_look_45 : decode cX11_look 45 = .ok (.iadd, 1) := by decide +kernel
theorem dX11_look_46 : decode cX11_look 46 = .ok (.iaload, 1) := by decide +kernel
theorem dX11_look_47 : decode cX11_look 47 = .ok (.ifCond .eq 11, 3) := by decide +kernel
theorem dX11_look_50 : decode cX11_look 50 = .ok (.aload_n 0, 1) := by decide +kernel
theorem dX11_look_51 : decode cX11_look 51 = .ok (.iconst 2, 1) := by decide +kernel
theorem dX11_look_52 : decode cX11_look 52 = .ok (.invokevirtual 118, 3) := by decide +kernel
theorem dX11_look_55 : decode cX11_look 55 = .ok (.pop, 1) := by decide +kernel
theorem dX11_look_56 : decode cX11_look 56 = .ok (.iconst 0, 1) := by decide +kernel
theorem dX11_look_57 : decode cX11_look 57 = .ok (.ireturn, 1) := by decide +kernel
theorem dX11_look_58 : decode cX11_look 58 = .ok (.aload_n 0, 1) := by decide +kernel
theorem dX11_look_59 : decode cX11_look 59 = .ok (.invokevirtual 296, 3) := by decide +kernel
theorem dX11_look_62 : decode cX11_look 62 = .ok (.aload_n 0, 1) := by decide +kernel
theorem dX11_look_63 : decode cX11_look 63 = .ok (.getfield 67, 3) := by decide +kernel
theorem dX11_look_66 : decode cX11_look 66 = .ok (.getfield 206, 3) := by decide +kernel
theorem dX11_look_69 : decode cX11_look 69 = .ok (.iload_n 1, 1) := by decide +kernel
theorem dX11_look_70 : decode cX11_look 70 = .ok (.iconst 2, 1) := by decide +kernel
theorem dX11_look_71 : decode cX11_look 71 = .ok (.imul, 1) := by decide +kernel
theorem dX11_look_72 : decode cX11_look 72 = .ok (.iload_n 2, 1) := by decide +kernel
theorem dX11_look_73 : decode cX11_look 73 = .ok (.iadd, 1) := by decide +kernel
theorem dX11_look_74 : decode cX11_look 74 = .ok (.iconst 1, 1) := by decide +kernel
theorem dX11_look_75 : decode cX11_look 75 = .ok (.iload_n 3, 1) := by decide +kernel
theorem dX11_look_76 : decode cX11_look 76 = .ok (.iadd, 1) := by decide +kernel
theorem dX11_look_77 : decode cX11_look 77 = .ok (.iastore, 1) := by decide +kernel
theorem dX11_look_78 : decode cX11_look 78 = .ok (.iconst 1, 1) := by decide +kernel
theorem dX11_look_79 : decode cX11_look 79 = .ok (.ireturn, 1) := by decide +kernel
def f_X11_look_b50 (h : KH) (v0 : Nat) : Option (Int32 × KH) :=
  if kkind v0 = 11 then kb (f_X11_refuse h v0 (2 : Int32)) fun r2 =>
  some ((0 : Int32), r2.2) else none
set_option maxHeartbeats 4000000 in
set_option maxRecDepth 100000 in
theorem s_X11_look_b50 {Z : Nat → (Nat → Nat) → State → Prop} (h : KH) (v0 : Nat) {t : Int32 × KH} (hn : h.1 = 243) (H : f_X11_look_b50 h v0 = some t) : KX Z RX11 cX11_look 5 false 5 (KRz cX11_look t.1 t.2) 50 [(0, .ref v0)] [] h := by
  unfold f_X11_look_b50 at H
  refine x_aload_n (q := 51) dX11_look_50 rfl rfl ?_
  refine x_iconst (q := 52) (v := (2 : Int32)) dX11_look_51 rfl (by decide) ?_
  replace H := kif H; obtain ⟨g1, H⟩ := H
  replace H := kbe H; obtain ⟨r2, c3, H⟩ := H
  have m4 := s_X11_refuse (Z := Z) h v0 (2 : Int32) hn c3
  refine x_callV (q := 55) (as := [.int (2 : Int32)]) (rest := []) dX11_look_52 rfl kc_RX11_118 kh_X11_refuse (by decide) (Nat.le_of_ble_eq_true rfl) m4 (ci := 11) (by exact ⟨rfl, by decide⟩) (k243 g1 (by decide) hn) ?_
  have n5 : (r2.2).1 = 243 := m4.1.full hn
  refine x_pop (q := 56) dX11_look_55 rfl rfl ?_
  refine x_iconst (q := 57) (v := (0 : Int32)) dX11_look_56 rfl (by decide) ?_
  cases H
  exact x_end ⟨(Or.inl rfl), dX11_look_57, rfl, rfl⟩
def f_X11_look_b27 (h : KH) (v0 : Nat) (v1 : Int32) (v2 : Int32) (v3 : Int32) (w0 : Int32) : Option (Int32 × KH) :=
  if w0 = 0 then
  f_X11_look_b50 h v0
  else
  if kkind v0 = 11 then if (kR h v0 7) < 999999 then if kkind (kR h v0 7) = 8 then if (kR h (kR h v0 7) 5) < 999999 then if kkind (kR h (kR h v0 7) 5) = 20 then if (((v1 * (2 : Int32)) + v2) < 0 ∨ klen (kR h (kR h v0 7) 5) ≤ (((v1 * (2 : Int32)) + v2)).toNatClampNeg) then none else if (kI h (kR h (kR h v0 7) 5) ((((v1 * (2 : Int32)) + v2)).toNatClampNeg)) = 0 then
  kb (f_X11_beginAct h v0) fun r9 =>
  if (kR r9 v0 7) < 999999 then if kkind (kR r9 v0 7) = 8 then if (kR r9 (kR r9 v0 7) 5) < 999999 then if kkind (kR r9 (kR r9 v0 7) 5) = 20 then if (((v1 * (2 : Int32)) + v2) < 0 ∨ klen (kR r9 (kR r9 v0 7) 5) ≤ (((v1 * (2 : Int32)) + v2)).toNatClampNeg) then none else kl (ksI r9 (kR r9 (kR r9 v0 7) 5) ((((v1 * (2 : Int32)) + v2)).toNatClampNeg) ((1 : Int32) + v3)) fun h18 =>
  some ((1 : Int32), h18) else none else none else none else none
  else
  f_X11_look_b50 h v0 else none else none else none else none else none
set_option maxHeartbeats 4000000 in
set_option maxRecDepth 100000 in
theorem s_X11_look_b27 {Z : Nat → (Nat → Nat) → State → Prop} (h : KH) (v0 : Nat) (v1 : Int32) (v2 : Int32) (v3 : Int32) (w0 : Int32) {t : Int32 × KH} (hn : h.1 = 243) (H : f_X11_look_b27 h v0 v1 v2 v3 w0 = some t) : KX Z RX11 cX11_look 5 false 5 (KRz cX11_look t.1 t.2) 27 [(0, .ref v0), (1, .int v1), (2, .int v2), (3, .int v3)] [.int w0] h := by
  unfold f_X11_look_b27 at H
  refine x_istore (q := 29) (i := 4) (ls2 := [(4, .int w0), (0, .ref v0), (1, .int v1), (2, .int v2), (3, .int v3)]) dX11_look_27 rfl (by decide) rfl ?_
  refine x_iload (q := 31) dX11_look_29 rfl rfl ?_
  replace H := kite H; rcases H with ⟨g1, H⟩ | ⟨g1, H⟩
  · refine x_if_eq_t dX11_look_31 (q := 50) (by decide) g1 ?_
    refine x_sub (ls2 := [(0, .ref v0)]) [1] rfl ?_
    exact s_X11_look_b50 h v0 hn H
  · refine x_if_eq_f (q := 34) dX11_look_31 (t := 50) (by decide) rfl g1 ?_
    refine x_aload_n (q := 35) dX11_look_34 rfl rfl ?_
    replace H := kif H; obtain ⟨g2, H⟩ := H
    replace H := kif H; obtain ⟨g3, H⟩ := H
    refine x_getR (q := 38) dX11_look_35 rfl kl_RX11_67 rfl (k243 g2 (by decide) hn) g3 ?_
    replace H := kif H; obtain ⟨g4, H⟩ := H
    replace H := kif H; obtain ⟨g5, H⟩ := H
    refine x_getR (q := 41) dX11_look_38 rfl kl_RX11_206 rfl (k243 g4 (by decide) hn) g5 ?_
    refine x_iload_n (q := 42) dX11_look_41 rfl rfl ?_
    refine x_iconst (q := 43) (v := (2 : Int32)) dX11_look_42 rfl (by decide) ?_
    refine x_imul (q := 44) dX11_look_43 rfl ?_
    refine x_iload_n (q := 45) dX11_look_44 rfl rfl ?_
    refine x_iadd (q := 46) dX11_look_45 rfl ?_
    replace H := kif H; obtain ⟨g6, H⟩ := H
    replace H := kifn H; obtain ⟨g7, H⟩ := H
    refine x_iald (q := 47) dX11_look_46 rfl (k243 g6 (by decide) hn) g7 ?_
    replace H := kite H; rcases H with ⟨g8, H⟩ | ⟨g8, H⟩
    · refine x_if_eq_t dX11_look_47 (q := 58) (by decide) g8 ?_
      refine x_aload_n (q := 59) dX11_look_58 rfl rfl ?_
      replace H := kbe H; obtain ⟨r9, c10, H⟩ := H
      have m11 := s_X11_beginAct (Z := Z) h v0 hn c10
      refine x_callV (q := 62) (as := []) (rest := []) dX11_look_59 rfl kc_RX11_296 kh_X11_beginAct (by decide) (Nat.le_of_ble_eq_true rfl) m11 (ci := 11) (by exact ⟨rfl, by decide⟩) (k243 g2 (by decide) hn) ?_
      have n12 : (r9).1 = 243 := m11.1.full hn
      refine x_aload_n (q := 63) dX11_look_62 rfl rfl ?_
      replace H := kif H; obtain ⟨g13, H⟩ := H
      refine x_getR (q := 66) dX11_look_63 rfl kl_RX11_67 rfl (k243 g2 (by decide) n12) g13 ?_
      replace H := kif H; obtain ⟨g14, H⟩ := H
      replace H := kif H; obtain ⟨g15, H⟩ := H
      refine x_getR (q := 69) dX11_look_66 rfl kl_RX11_206 rfl (k243 g14 (by decide) n12) g15 ?_
      refine x_iload_n (q := 70) dX11_look_69 rfl rfl ?_
      refine x_iconst (q := 71) (v := (2 : Int32)) dX11_look_70 rfl (by decide) ?_
      refine x_imul (q := 72) dX11_look_71 rfl ?_
      refine x_iload_n (q := 73) dX11_look_72 rfl rfl ?_
      refine x_iadd (q := 74) dX11_look_73 rfl ?_
      refine x_iconst (q := 75) (v := (1 : Int32)) dX11_look_74 rfl (by decide) ?_
      refine x_iload_n (q := 76) dX11_look_75 rfl rfl ?_
      refine x_iadd (q := 77) dX11_look_76 rfl ?_
      replace H := kif H; obtain ⟨g16, H⟩ := H
      replace H := kifn H; obtain ⟨g17, H⟩ := H
      replace H := kle H; obtain ⟨h18, q19, H⟩ := H
      refine x_iast (q := 78) dX11_look_77 rfl (k243 g16 (by decide) n12) g17 ?_
      refine x_nmH q19 ?_
      have n20 : h18.1 = 243 := by rw [q19]; exact n12
      refine x_iconst (q := 79) (v := (1 : Int32)) dX11_look_78 rfl (by decide) ?_
      cases H
      exact x_end ⟨(Or.inr rfl), dX11_look_79, rfl, rfl⟩
    · refine x_if_eq_f (q := 50) dX11_look_47 (t := 58) (by decide) rfl g8 ?_
      refine x_sub (ls2 := [(0, .ref v0)]) [1] rfl ?_
      exact s_X11_look_b50 h v0 hn H
def f_X11_look_b26 (h : KH) (v0 : Nat) (v1 : Int32) (v2 : Int32) (v3 : Int32) : Option (Int32 × KH) :=
  f_X11_look_b27 h v0 v1 v2 v3 (0 : Int32)
set_option maxHeartbeats 4000000 in
set_option maxRecDepth 100000 in
theorem s_X11_look_b26 {Z : Nat → (Nat → Nat) → State → Prop} (h : KH) (v0 : Nat) (v1 : Int32) (v2 : Int32) (v3 : Int32) {t : Int32 × KH} (hn : h.1 = 243) (H : f_X11_look_b26 h v0 v1 v2 v3 = some t) : KX Z RX11 cX11_look 5 false 5 (KRz cX11_look t.1 t.2) 26 [(0, .ref v0), (1, .int v1), (2, .int v2), (3, .int v3)] [] h := by
  unfold f_X11_look_b26 at H
  refine x_iconst (q := 27) (v := (0 : Int32)) dX11_look_26 rfl (by decide) ?_
  refine x_sub (ls2 := [(0, .ref v0), (1, .int v1), (2, .int v2), (3, .int v3)]) [0, 1, 2, 3] rfl ?_
  exact s_X11_look_b27 h v0 v1 v2 v3 (0 : Int32) hn H
def f_X11_look (h : KH) (v0 : Nat) (v1 : Int32) (v2 : Int32) (v3 : Int32) : Option (Int32 × KH) :=
  if kkind v0 = 11 then kb (f_X11_isMark h v0 v1) fun r2 =>
  if r2 = 0 then
  f_X11_look_b26 h v0 v1 v2 v3
  else
  kb (f_X11_isBit h v2) fun r6 =>
  if r6 = 0 then
  f_X11_look_b26 h v0 v1 v2 v3
  else
  kb (f_X11_isBit h v3) fun r10 =>
  if r10 = 0 then
  f_X11_look_b26 h v0 v1 v2 v3
  else
  f_X11_look_b27 h v0 v1 v2 v3 (1 : Int32) else none
set_option maxHeartbeats 4000000 in
set_option maxRecDepth 100000 in
theorem s0_X11_look {Z : Nat → (Nat → Nat) → State → Prop} (h : KH) (v0 : Nat) (v1 : Int32) (v2 : Int32) (v3 : Int32) {t : Int32 × KH} (hn : h.1 = 243) (H : f_X11_look h v0 v1 v2 v3 = some t) : KX Z RX11 cX11_look 5 false 5 (KRz cX11_look t.1 t.2) 0 [(0, .ref v0), (1, .int v1), (2, .int v2), (3, .int v3)] [] h := by
  unfold f_X11_look at H
  refine x_aload_n (q := 1) dX11_look_0 rfl rfl ?_
  refine x_iload_n (q := 2) dX11_look_1 rfl rfl ?_
  replace H := kif H; obtain ⟨g1, H⟩ := H
  replace H := kbe H; obtain ⟨r2, c3, H⟩ := H
  have m4 := s_X11_isMark (Z := Z) h v0 v1 hn c3
  refine x_callV (q := 5) (as := [.int v1]) (rest := []) dX11_look_2 rfl kc_RX11_200 kh_X11_isMark (by decide) (Nat.le_of_ble_eq_true rfl) m4 (ci := 11) (by exact ⟨rfl, by decide⟩) (k243 g1 (by decide) hn) ?_
  replace H := kite H; rcases H with ⟨g5, H⟩ | ⟨g5, H⟩
  · refine x_if_eq_t dX11_look_5 (q := 26) (by decide) g5 ?_
    refine x_sub (ls2 := [(0, .ref v0), (1, .int v1), (2, .int v2), (3, .int v3)]) [0, 1, 2, 3] rfl ?_
    exact s_X11_look_b26 h v0 v1 v2 v3 hn H
  · refine x_if_eq_f (q := 8) dX11_look_5 (t := 26) (by decide) rfl g5 ?_
    refine x_iload_n (q := 9) dX11_look_8 rfl rfl ?_
    replace H := kbe H; obtain ⟨r6, c7, H⟩ := H
    have m8 := s_X11_isBit (Z := Z) h v2 hn c7
    refine x_callS (q := 12) (as := [.int v2]) (rest := []) dX11_look_9 rfl kc_RX11_209 kh_X11_isBit (by decide) (Nat.le_of_ble_eq_true rfl) m8 ?_
    replace H := kite H; rcases H with ⟨g9, H⟩ | ⟨g9, H⟩
    · refine x_if_eq_t dX11_look_12 (q := 26) (by decide) g9 ?_
      refine x_sub (ls2 := [(0, .ref v0), (1, .int v1), (2, .int v2), (3, .int v3)]) [0, 1, 2, 3] rfl ?_
      exact s_X11_look_b26 h v0 v1 v2 v3 hn H
    · refine x_if_eq_f (q := 15) dX11_look_12 (t := 26) (by decide) rfl g9 ?_
      refine x_iload_n (q := 16) dX11_look_15 rfl rfl ?_
      replace H := kbe H; obtain ⟨r10, c11, H⟩ := H
      have m12 := s_X11_isBit (Z := Z) h v3 hn c11
      refine x_callS (q := 19) (as := [.int v3]) (rest := []) dX11_look_16 rfl kc_RX11_209 kh_X11_isBit (by decide) (Nat.le_of_ble_eq_true rfl) m12 ?_
      replace H := kite H; rcases H with ⟨g13, H⟩ | ⟨g13, H⟩
      · refine x_if_eq_t dX11_look_19 (q := 26) (by decide) g13 ?_
        refine x_sub (ls2 := [(0, .ref v0), (1, .int v1), (2, .int v2), (3, .int v3)]) [0, 1, 2, 3] rfl ?_
        exact s_X11_look_b26 h v0 v1 v2 v3 hn H
      · refine x_if_eq_f (q := 22) dX11_look_19 (t := 26) (by decide) rfl g13 ?_
        refine x_iconst (q := 23) (v := (1 : Int32)) dX11_look_22 rfl (by decide) ?_
        refine x_goto dX11_look_23 (q := 27) (by decide) ?_
        refine x_sub (ls2 := [(0, .ref v0), (1, .int v1), (2, .int v2), (3, .int v3)]) [0, 1, 2, 3] rfl ?_
        exact s_X11_look_b27 h v0 v1 v2 v3 (1 : Int32) hn H
theorem s_X11_look {Z : Nat → (Nat → Nat) → State → Prop} (h : KH) (v0 : Nat) (v1 : Int32) (v2 : Int32) (v3 : Int32) {t : Int32 × KH} (hn : h.1 = 243) (H : f_X11_look h v0 v1 v2 v3 = some t) : KM Z yX11_look cX11_look 5 (some .boolean) 5 [.ref v0, .int v1, .int v2, .int v3] h (some (.int t.1)) t.2 :=
  kx_z (own := RX11) (ini := false) (by decide +kernel) (by decide +kernel) rfl (Nat.le_of_ble_eq_true rfl) (s0_X11_look h v0 v1 v2 v3 hn H)
theorem dX11_closeCase_0 : decode cX11_closeCase 0 = .ok (.aload_n 0, 1) := by decide +kernel
theorem dX11_closeCase_1 : decode cX11_closeCase 1 = .ok (.getfield 67, 3) := by decide +kernel
theorem dX11_closeCase_4 : decode cX11_closeCase 4 = .ok (.invokevirtual 161, 3) := by decide +kernel
theorem dX11_closeCase_7 : decode cX11_closeCase 7 = .ok (.istore_n 3, 1) := by decide +kernel
theorem dX11_closeCase_8 : decode cX11_closeCase 8 = .ok (.aload_n 0, 1) := by decide +kernel
theorem dX11_closeCase_9 : decode cX11_closeCase 9 = .ok (.getfield 57, 3) := by decide +kernel
theorem dX11_closeCase_12 : decode cX11_closeCase 12 = .ok (.iload_n 3, 1) := by decide +kernel
theorem dX11_closeCase_13 : decode cX11_closeCase 13 = .ok (.invokevirtual 267, 3) := by decide +kernel
theorem dX11_closeCase_16 : decode cX11_closeCase 16 = .ok (.istore 4, 2) := by decide +kernel
theorem dX11_closeCase_18 : decode cX11_closeCase 18 = .ok (.aload_n 0, 1) := by decide +kernel
theorem dX11_closeCase_19 : decode cX11_closeCase 19 = .ok (.getfield 77, 3) := by decide +kernel
theorem dX11_closeCase_22 : decode cX11_closeCase 22 = .ok (.aload_n 0, 1) := by decide +kernel
theorem dX11_closeCase_23 : decode cX11_closeCase 23 = .ok (.getfield 67, 3) := by decide +kernel
theorem dX11_closeCase_26 : decode cX11_closeCase 26 = .ok (.getfield 215, 3) := by decide +kernel
theorem dX11_closeCase_29 : decode cX11_closeCase 29 = .ok (.iload_n 1, 1) := by decide +kernel
theorem dX11_closeCase_30 : decode cX11_closeCase 30 = .ok (.iload 4, 2) := by decide +kernel
theorem dX11_closeCase_32 : decode cX11_closeCase 32 = .ok (.iload_n 3, 1) := by decide +kernel
theorem dX11_closeCase_33 : decode cX11_closeCase 33 = .ok (.invokestatic 165, 3) := by decide +kernel
theorem dX11_closeCase_36 : decode cX11_closeCase 36 = .ok (.iload_n 2, 1) := by decide +kernel
theorem dX11_closeCase_37 : decode cX11_closeCase 37 = .ok (.invokevirtual 356, 3) := by decide +kernel
theorem dX11_closeCase_40 : decode cX11_closeCase 40 = .ok (.aload_n 0, 1) := by decide +kernel
theorem dX11_closeCase_41 : decode cX11_closeCase 41 = .ok (.getfield 67, 3) := by decide +kernel
theorem dX11_closeCase_44 : decode cX11_closeCase 44 = .ok (.dup, 1) := by decide +kernel
theorem dX11_closeCase_45 : decode cX11_closeCase 45 = .ok (.getfield 215, 3) := by decide +kernel
theorem dX11_closeCase_48 : decode cX11_closeCase 48 = .ok (.iconst 1, 1) := by decide +kernel
theorem dX11_closeCase_49 : decode cX11_closeCase 49 = .ok (.iadd, 1) := by decide +kernel
theorem dX11_closeCase_50 : decode cX11_closeCase 50 = .ok (.putfield 215, 3) := by decide +kernel
theorem dX11_closeCase_53 : decode cX11_closeCase 53 = .ok (.aload_n 0, 1) := by decide +kernel
theorem dX11_closeCase_54 : decode cX11_closeCase 54 = .ok (.getfield 67, 3) := by decide +kernel
theorem dX11_closeCase_57 : decode cX11_closeCase 57 = .ok (.iload_n 3, 1) := by decide +kernel
theorem dX11_closeCase_58 : decode cX11_closeCase 58 = .ok (.invokevirtual 360, 3) := by decide +kernel
theorem dX11_closeCase_61 : decode cX11_closeCase 61 = .ok (.aload_n 0, 1) := by decide +kernel
theorem dX11_closeCase_62 : decode cX11_closeCase 62 = .ok (.getfield 67, 3) := by decide +kernel
theorem dX11_closeCase_65 : decode cX11_closeCase 65 = .ok (.sipush 9999, 3) := by decide +kernel
theorem dX11_closeCase_68 : decode cX11_closeCase 68 = .ok (.aload_n 0, 1) := by decide +kernel
theorem dX11_closeCase_69 : decode cX11_closeCase 69 = .ok (.getfield 67, 3) := by decide +kernel
theorem dX11_closeCase_72 : decode cX11_closeCase 72 = .ok (.getfield 158, 3) := by decide +kernel
theorem dX11_closeCase_75 : decode cX11_closeCase 75 = .ok (.iload 4, 2) := by decide +kernel
theorem dX11_closeCase_77 : decode cX11_closeCase 77 = .ok (.iadd, 1) := by decide +kernel
theorem dX11_closeCase_78 : decode cX11_closeCase 78 = .ok (.invokestatic 343, 3) := by decide +kernel
theorem dX11_closeCase_81 : decode cX11_closeCase 81 = .ok (.putfield 158, 3) := by decide +kernel
theorem dX11_closeCase_84 : decode cX11_closeCase 84 = .ok (.aload_n 0, 1) := by decide +kernel
theorem dX11_closeCase_85 : decode cX11_closeCase 85 = .ok (.getfield 67, 3) := by decide +kernel
theorem dX11_closeCase_88 : decode cX11_closeCase 88 = .ok (.dup, 1) := by decide +kernel
theorem dX11_closeCase_89 : decode cX11_closeCase 89 = .ok (.getfield 155, 3) := by decide +kernel
theorem dX11_closeCase_92 : decode cX11_closeCase 92 = .ok (.iconst 1, 1) := by decide +kernel
theorem dX11_closeCase_93 : decode cX11_closeCase 93 = .ok (.iadd, 1) := by decide +kernel
theorem dX11_closeCase_94 : decode cX11_closeCase 94 = .ok (.putfield 155, 3) := by decide +kernel
theorem dX11_closeCase_97 : decode cX11_closeCase 97 = .ok (.aload_n 0, 1) := by decide +kernel
theorem dX11_closeCase_98 : decode cX11_closeCase 98 = .ok (.getfield 67, 3) := by decide +kernel
theorem dX11_closeCase_101 : decode cX11_closeCase 101 = .ok (.invokevirtual 303, 3) := by decide +kernel
theorem dX11_closeCase_104 : decode cX11_closeCase 104 = .ok (.return_, 1) := by decide +kernel
theorem kc_RX11_356 : Cond.methodLink RX11 356 yX5_put ∈ ktG ∧ (Cond.instanceMethod yX5_put ∈ ktG ∧ Cond.selects yX5_put.cls yX5_put yX5_put ∈ ktG) ∧ Cond.initialized yX5_put.cls ∈ ktG ∧ Cond.code yX5_put cX5_put 7 none ∈ ktG := ⟨(kwm 1085 (by decide +kernel) (by decide +kernel)), ⟨(kwm 1086 (by decide +kernel) (by decide +kernel)), (kwm 1087 (by decide +kernel) (by decide +kernel))⟩, (kwm 136 (by decide +kernel) (by decide +kernel)), kwm 1088 (by decide +kernel) (by decide +kernel)⟩
theorem kh_X5_put : yX5_put.cls ≠ "java/lang/invoke/MethodHandle" ∧ yX5_put.cls ≠ "java/lang/invoke/VarHandle" ∧ (parseMethodDescriptor yX5_put.desc).map (fun d => d.parameters.length) = some 5 := by decide +kernel
def f_X11_closeCase (h : KH) (v0 : Nat) (v1 : Int32) (v2 : Int32) : Option (KH) :=
  if kkind v0 = 11 then if (kR h v0 7) < 999999 then if kkind (kR h v0 7) = 8 then kb (f_X8_heardBits h (kR h v0 7)) fun r4 =>
  if (kR h v0 5) < 999999 then if kkind (kR h v0 5) = 2 then kb (f_X2_harmOf h (kR h v0 5) r4) fun r9 =>
  if (kR h v0 9) < 999999 then kb (f_J6_bitCount_0f7a4 h r4) fun r13 =>
  if kkind (kR h v0 9) = 5 then kb (f_X5_put h (kR h v0 9) (kI h (kR h v0 7) 2) v1 r9 r13 v2) fun r17 =>
  if (kR r17 v0 7) < 999999 then if kkind (kR r17 v0 7) = 8 then kl (ksI r17 (kR r17 v0 7) 2 ((kI r17 (kR r17 v0 7) 2) + (1 : Int32))) fun h23 =>
  if (kR h23 v0 7) < 999999 then if kkind (kR h23 v0 7) = 8 then kb (f_X8_hearOnceMore h23 (kR h23 v0 7) r4) fun r28 =>
  if (kR r28 v0 7) < 999999 then if kkind (kR r28 v0 7) = 8 then kb (f_J9_min_7cf53 r28 (9999 : Int32) ((kI r28 (kR r28 v0 7) 1) + r9)) fun r34 =>
  kl (ksI r28 (kR r28 v0 7) 1 r34) fun h37 =>
  if (kR h37 v0 7) < 999999 then if kkind (kR h37 v0 7) = 8 then kl (ksI h37 (kR h37 v0 7) 0 ((kI h37 (kR h37 v0 7) 0) + (1 : Int32))) fun h42 =>
  if (kR h42 v0 7) < 999999 then if kkind (kR h42 v0 7) = 8 then kb (f_X8_forgetCase h42 (kR h42 v0 7)) fun r47 =>
  some r47 else none else none else none else none else none else none else none else none else none else none else none else none else none else none else none else none else none
set_option maxHeartbeats 4000000 in
set_option maxRecDepth 100000 in
theorem s0_X11_closeCase {Z : Nat → (Nat → Nat) → State → Prop} (h : KH) (v0 : Nat) (v1 : Int32) (v2 : Int32) {t : KH} (hn : h.1 = 243) (H : f_X11_closeCase h v0 v1 v2 = some t) : KX Z RX11 cX11_closeCase 5 false 3 (KRv cX11_closeCase t) 0 [(0, .ref v0), (1, .int v1), (2, .int v2)] [] h := by
  unfold f_X11_closeCase at H
  refine x_aload_n (q := 1) dX11_closeCase_0 rfl rfl ?_
  replace H := kif H; obtain ⟨g1, H⟩ := H
  replace H := kif H; obtain ⟨g2, H⟩ := H
  refine x_getR (q := 4) dX11_closeCase_1 rfl kl_RX11_67 rfl (k243 g1 (by decide) hn) g2 ?_
  replace H := kif H; obtain ⟨g3, H⟩ := H
  replace H := kbe H; obtain ⟨r4, c5, H⟩ := H
  have m6 := s_X8_heardBits (Z := Z) h (kR h v0 7) hn c5
  refine x_callV (q := 7) (as := []) (rest := []) dX11_closeCase_4 rfl kc_RX11_161 kh_X8_heardBits (by decide) (Nat.le_of_ble_eq_true rfl) m6 (ci := 8) (by exact ⟨rfl, by decide⟩) (k243 g3 (by decide) hn) ?_
  refine x_istore_n (q := 8) (i := 3) (ls2 := [(3, .int r4), (0, .ref v0), (1, .int v1), (2, .int v2)]) dX11_closeCase_7 rfl rfl (by decide) rfl ?_
  refine x_aload_n (q := 9) dX11_closeCase_8 rfl rfl ?_
  replace H := kif H; obtain ⟨g7, H⟩ := H
  refine x_getR (q := 12) dX11_closeCase_9 rfl kl_RX11_57 rfl (k243 g1 (by decide) hn) g7 ?_
  refine x_iload_n (q := 13) dX11_closeCase_12 rfl rfl ?_
  replace H := kif H; obtain ⟨g8, H⟩ := H
  replace H := kbe H; obtain ⟨r9, c10, H⟩ := H
  have m11 := s_X2_harmOf (Z := Z) h (kR h v0 5) r4 hn c10
  refine x_callV (q := 16) (as := [.int r4]) (rest := []) dX11_closeCase_13 rfl kc_RX11_267 kh_X2_harmOf (by decide) (Nat.le_of_ble_eq_true rfl) m11 (ci := 2) (by exact ⟨rfl, by decide⟩) (k243 g8 (by decide) hn) ?_
  refine x_istore (q := 18) (i := 4) (ls2 := [(4, .int r9), (3, .int r4), (0, .ref v0), (1, .int v1), (2, .int v2)]) dX11_closeCase_16 rfl (by decide) rfl ?_
  refine x_aload_n (q := 19) dX11_closeCase_18 rfl rfl ?_
  replace H := kif H; obtain ⟨g12, H⟩ := H
  refine x_getR (q := 22) dX11_closeCase_19 rfl kl_RX11_77 rfl (k243 g1 (by decide) hn) g12 ?_
  refine x_aload_n (q := 23) dX11_closeCase_22 rfl rfl ?_
  refine x_getR (q := 26) dX11_closeCase_23 rfl kl_RX11_67 rfl (k243 g1 (by decide) hn) g2 ?_
  refine x_getI (q := 29) dX11_closeCase_26 rfl kl_RX11_215 (Or.inl rfl) (k243 g3 (by decide) hn) ?_
  refine x_iload_n (q := 30) dX11_closeCase_29 rfl rfl ?_
  refine x_iload (q := 32) dX11_closeCase_30 rfl rfl ?_
  refine x_iload_n (q := 33) dX11_closeCase_32 rfl rfl ?_
  replace H := kbe H; obtain ⟨r13, c14, H⟩ := H
  have m15 := s_J6_bitCount_0f7a4 (Z := Z) h r4 hn c14
  refine x_callS (q := 36) (as := [.int r4]) (rest := [.int r9, .int v1, .int (kI h (kR h v0 7) 2), .ref (kR h v0 9)]) dX11_closeCase_33 rfl kc_RX11_165 kh_J6_bitCount_0f7a4 (by decide) (Nat.le_of_ble_eq_true rfl) m15 ?_
  refine x_iload_n (q := 37) dX11_closeCase_36 rfl rfl ?_
  replace H := kif H; obtain ⟨g16, H⟩ := H
  replace H := kbe H; obtain ⟨r17, c18, H⟩ := H
  have m19 := s_X5_put (Z := Z) h (kR h v0 9) (kI h (kR h v0 7) 2) v1 r9 r13 v2 hn c18
  refine x_callV (q := 40) (as := [.int (kI h (kR h v0 7) 2), .int v1, .int r9, .int r13, .int v2]) (rest := []) dX11_closeCase_37 rfl kc_RX11_356 kh_X5_put (by decide) (Nat.le_of_ble_eq_true rfl) m19 (ci := 5) (by exact ⟨rfl, by decide⟩) (k243 g16 (by decide) hn) ?_
  have n20 : (r17).1 = 243 := m19.1.full hn
  refine x_aload_n (q := 41) dX11_closeCase_40 rfl rfl ?_
  replace H := kif H; obtain ⟨g21, H⟩ := H
  refine x_getR (q := 44) dX11_closeCase_41 rfl kl_RX11_67 rfl (k243 g1 (by decide) n20) g21 ?_
  refine x_dup (q := 45) dX11_closeCase_44 rfl rfl ?_
  replace H := kif H; obtain ⟨g22, H⟩ := H
  refine x_getI (q := 48) dX11_closeCase_45 rfl kl_RX11_215 (Or.inl rfl) (k243 g22 (by decide) n20) ?_
  refine x_iconst (q := 49) (v := (1 : Int32)) dX11_closeCase_48 rfl (by decide) ?_
  refine x_iadd (q := 50) dX11_closeCase_49 rfl ?_
  replace H := kle H; obtain ⟨h23, q24, H⟩ := H
  refine x_putI (q := 53) dX11_closeCase_50 rfl kl_RX11_215 (Or.inl rfl) rfl (k243 g22 (by decide) n20) ?_
  refine x_nmH q24 ?_
  have n25 : h23.1 = 243 := by rw [q24]; exact n20
  refine x_aload_n (q := 54) dX11_closeCase_53 rfl rfl ?_
  replace H := kif H; obtain ⟨g26, H⟩ := H
  refine x_getR (q := 57) dX11_closeCase_54 rfl kl_RX11_67 rfl (k243 g1 (by decide) n25) g26 ?_
  refine x_iload_n (q := 58) dX11_closeCase_57 rfl rfl ?_
  replace H := kif H; obtain ⟨g27, H⟩ := H
  replace H := kbe H; obtain ⟨r28, c29, H⟩ := H
  have m30 := s_X8_hearOnceMore (Z := Z) h23 (kR h23 v0 7) r4 n25 c29
  refine x_callV (q := 61) (as := [.int r4]) (rest := []) dX11_closeCase_58 rfl kc_RX11_360 kh_X8_hearOnceMore (by decide) (Nat.le_of_ble_eq_true rfl) m30 (ci := 8) (by exact ⟨rfl, by decide⟩) (k243 g27 (by decide) n25) ?_
  have n31 : (r28).1 = 243 := m30.1.full n25
  refine x_aload_n (q := 62) dX11_closeCase_61 rfl rfl ?_
  replace H := kif H; obtain ⟨g32, H⟩ := H
  refine x_getR (q := 65) dX11_closeCase_62 rfl kl_RX11_67 rfl (k243 g1 (by decide) n31) g32 ?_
  refine x_sipush (q := 68) (v := (9999 : Int32)) dX11_closeCase_65 rfl (by decide) ?_
  refine x_aload_n (q := 69) dX11_closeCase_68 rfl rfl ?_
  refine x_getR (q := 72) dX11_closeCase_69 rfl kl_RX11_67 rfl (k243 g1 (by decide) n31) g32 ?_
  replace H := kif H; obtain ⟨g33, H⟩ := H
  refine x_getI (q := 75) dX11_closeCase_72 rfl kl_RX11_158 (Or.inl rfl) (k243 g33 (by decide) n31) ?_
  refine x_iload (q := 77) dX11_closeCase_75 rfl rfl ?_
  refine x_iadd (q := 78) dX11_closeCase_77 rfl ?_
  replace H := kbe H; obtain ⟨r34, c35, H⟩ := H
  have m36 := s_J9_min_7cf53 (Z := Z) r28 (9999 : Int32) ((kI r28 (kR r28 v0 7) 1) + r9) n31 c35
  refine x_callS (q := 81) (as := [.int (9999 : Int32), .int ((kI r28 (kR r28 v0 7) 1) + r9)]) (rest := [.ref (kR r28 v0 7)]) dX11_closeCase_78 rfl kc_RX11_343 kh_J9_min_7cf53 (by decide) (Nat.le_of_ble_eq_true rfl) m36 ?_
  replace H := kle H; obtain ⟨h37, q38, H⟩ := H
  refine x_putI (q := 84) dX11_closeCase_81 rfl kl_RX11_158 (Or.inl rfl) rfl (k243 g33 (by decide) n31) ?_
  refine x_nmH q38 ?_
  have n39 : h37.1 = 243 := by rw [q38]; exact n31
  refine x_aload_n (q := 85) dX11_closeCase_84 rfl rfl ?_
  replace H := kif H; obtain ⟨g40, H⟩ := H
  refine x_getR (q := 88) dX11_closeCase_85 rfl kl_RX11_67 rfl (k243 g1 (by decide) n39) g40 ?_
  refine x_dup (q := 89) dX11_closeCase_88 rfl rfl ?_
  replace H := kif H; obtain ⟨g41, H⟩ := H
  refine x_getI (q := 92) dX11_closeCase_89 rfl kl_RX11_155 (Or.inl rfl) (k243 g41 (by decide) n39) ?_
  refine x_iconst (q := 93) (v := (1 : Int32)) dX11_closeCase_92 rfl (by decide) ?_
  refine x_iadd (q := 94) dX11_closeCase_93 rfl ?_
  replace H := kle H; obtain ⟨h42, q43, H⟩ := H
  refine x_putI (q := 97) dX11_closeCase_94 rfl kl_RX11_155 (Or.inl rfl) rfl (k243 g41 (by decide) n39) ?_
  refine x_nmH q43 ?_
  have n44 : h42.1 = 243 := by rw [q43]; exact n39
  refine x_aload_n (q := 98) dX11_closeCase_97 rfl rfl ?_
  replace H := kif H; obtain ⟨g45, H⟩ := H
  refine x_getR (q := 101) dX11_closeCase_98 rfl kl_RX11_67 rfl (k243 g1 (by decide) n44) g45 ?_
  replace H := kif H; obtain ⟨g46, H⟩ := H
  replace H := kbe H; obtain ⟨r47, c48, H⟩ := H
  have m49 := s_X8_forgetCase (Z := Z) h42 (kR h42 v0 7) n44 c48
  refine x_callV (q := 104) (as := []) (rest := []) dX11_closeCase_101 rfl kc_RX11_303 kh_X8_forgetCase (by decide) (Nat.le_of_ble_eq_true rfl) m49 (ci := 8) (by exact ⟨rfl, by decide⟩) (k243 g46 (by decide) n44) ?_
  have n50 : (r47).1 = 243 := m49.1.full n44
  cases H
  exact x_end ⟨dX11_closeCase_104, rfl, rfl⟩
theorem s_X11_closeCase {Z : Nat → (Nat → Nat) → State → Prop} (h : KH) (v0 : Nat) (v1 : Int32) (v2 : Int32) {t : KH} (hn : h.1 = 243) (H : f_X11_closeCase h v0 v1 v2 = some t) : KM Z yX11_closeCase cX11_closeCase 5 none 3 [.ref v0, .int v1, .int v2] h none t :=
  kx_v (own := RX11) (ini := false) (by decide +kernel) (by decide +kernel) rfl (Nat.le_of_ble_eq_true rfl) (s0_X11_closeCase h v0 v1 v2 hn H)
theorem dX11_judge_0 : decode cX11_judge 0 = .ok (.iload_n 1, 1) := by decide +kernel
theorem dX11_judge_1 : decode cX11_judge 1 = .ok (.invokestatic 209, 3) := by decide +kernel
theorem dX11_judge_4 : decode cX11_judge 4 = .ok (.ifCond .eq 16, 3) := by decide +kernel
theorem dX11_judge_7 : decode cX11_judge 7 = .ok (.aload_n 0, 1) := by decide +kernel
theorem dX11_judge_8 : decode cX11_judge 8 = .ok (.getfield 67, 3) := by decide +kernel
theorem dX11_judge_11 : decode cX11_judge 11 = .ok (.getfield 155, 3) := by decide +kernel
theorem dX11_judge_14 : decode cX11_judge 14 = .ok (.sipush 9999, 3) := by decide +kernel
theorem dX11_judge_17 : decode cX11_judge 17 = .ok (.if_icmp .lt 9, 3) := by decide +kernel
theorem dX11_judge_20 : decode cX11_judge 20 = .ok (.aload_n 0, 1) := by decide +kernel
theorem dX11_judge_21 : decode cX11_judge 21 = .ok (.iconst 2, 1) := by decide +kernel
theorem dX11_judge_22 : decode cX11_judge 22 = .ok (.invokevirtual 118, 3) := by decide +kernel
theorem dX11_judge_25 : decode cX11_judge 25 = .ok (.ireturn, 1) := by decide +kernel
theorem dX11_judge_26 : decode cX11_judge 26 = .ok (.aload_n 0, 1) := by decide +kernel
theorem dX11_judge_27 : decode cX11_judge 27 = .ok (.invokevirtual 296, 3) := by decide +kernel
theorem dX11_judge_30 : decode cX11_judge 30 = .ok (.aload_n 0, 1) := by decide +kernel
theorem dX11_judge_31 : decode cX11_judge 31 = .ok (.iload_n 1, 1) := by decide +kernel
theorem dX11_judge_32 : decode cX11_judge 32 = .ok (.iconst 2, 1) := by decide +kernel
theorem dX11_judge_33 : decode cX11_judge 33 = .ok (.invokevirtual 299, 3) := by decide +kernel
theorem dX11_judge_36 : decode cX11_judge 36 = .ok (.aload_n 0, 1) := by decide +kernel
theorem dX11_judge_37 : decode cX11_judge 37 = .ok (.getfield 67, 3) := by decide +kernel
theorem dX11_judge_40 : decode cX11_judge 40 = .ok (.getfield 155, 3) := by decide +kernel
theorem dX11_judge_43 : decode cX11_judge 43 = .ok (.ireturn, 1) := by decide +kernel
theorem kc_RX11_299 : Cond.methodLink RX11 299 yX11_closeCase ∈ ktG ∧ (Cond.instanceMethod yX11_closeCase ∈ ktG ∧ Cond.selects yX11_closeCase.cls yX11_closeCase yX11_closeCase ∈ ktG) ∧ Cond.initialized yX11_closeCase.cls ∈ ktG ∧ Cond.code yX11_closeCase cX11_closeCase 5 none ∈ ktG := ⟨(kwm 1081 (by decide +kernel) (by decide +kernel)), ⟨(kwm 1083 (by decide +kernel) (by decide +kernel)), (kwm 29 (by decide +kernel) (by decide +kernel))⟩, (kwm 123 (by decide +kernel) (by decide +kernel)), kwm 1084 (by decide +kernel) (by decide +kernel)⟩
theorem kh_X11_closeCase : yX11_closeCase.cls ≠ "java/lang/invoke/MethodHandle" ∧ yX11_closeCase.cls ≠ "java/lang/invoke/VarHandle" ∧ (parseMethodDescriptor yX11_closeCase.desc).map (fun d => d.parameters.length) = some 2 := by decide +kernel
def f_X11_judge_b20 (h : KH) (v0 : Nat) : Option (Int32 × KH) :=
  if kkind v0 = 11 then kb (f_X11_refuse h v0 (2 : Int32)) fun r2 =>
  some (r2.1, r2.2) else none
set_option maxHeartbeats 4000000 in
set_option maxRecDepth 100000 in
theorem s_X11_judge_b20 {Z : Nat → (Nat → Nat) → State → Prop} (h : KH) (v0 : Nat) {t : Int32 × KH} (hn : h.1 = 243) (H : f_X11_judge_b20 h v0 = some t) : KX Z RX11 cX11_judge 2 false 5 (KRi cX11_judge t.1 t.2) 20 [(0, .ref v0)] [] h := by
  unfold f_X11_judge_b20 at H
  refine x_aload_n (q := 21) dX11_judge_20 rfl rfl ?_
  refine x_iconst (q := 22) (v := (2 : Int32)) dX11_judge_21 rfl (by decide) ?_
  replace H := kif H; obtain ⟨g1, H⟩ := H
  replace H := kbe H; obtain ⟨r2, c3, H⟩ := H
  have m4 := s_X11_refuse (Z := Z) h v0 (2 : Int32) hn c3
  refine x_callV (q := 25) (as := [.int (2 : Int32)]) (rest := []) dX11_judge_22 rfl kc_RX11_118 kh_X11_refuse (by decide) (Nat.le_of_ble_eq_true rfl) m4 (ci := 11) (by exact ⟨rfl, by decide⟩) (k243 g1 (by decide) hn) ?_
  have n5 : (r2.2).1 = 243 := m4.1.full hn
  cases H
  exact x_end ⟨dX11_judge_25, rfl, rfl⟩
def f_X11_judge (h : KH) (v0 : Nat) (v1 : Int32) : Option (Int32 × KH) :=
  kb (f_X11_isBit h v1) fun r1 =>
  if r1 = 0 then
  f_X11_judge_b20 h v0
  else
  if kkind v0 = 11 then if (kR h v0 7) < 999999 then if kkind (kR h v0 7) = 8 then if (kI h (kR h v0 7) 0) < (9999 : Int32) then
  kb (f_X11_beginAct h v0) fun r9 =>
  kb (f_X11_closeCase r9 v0 v1 (2 : Int32)) fun r13 =>
  if (kR r13 v0 7) < 999999 then if kkind (kR r13 v0 7) = 8 then some ((kI r13 (kR r13 v0 7) 0), r13) else none else none
  else
  f_X11_judge_b20 h v0 else none else none else none
set_option maxHeartbeats 4000000 in
set_option maxRecDepth 100000 in
theorem s0_X11_judge {Z : Nat → (Nat → Nat) → State → Prop} (h : KH) (v0 : Nat) (v1 : Int32) {t : Int32 × KH} (hn : h.1 = 243) (H : f_X11_judge h v0 v1 = some t) : KX Z RX11 cX11_judge 2 false 5 (KRi cX11_judge t.1 t.2) 0 [(0, .ref v0), (1, .int v1)] [] h := by
  unfold f_X11_judge at H
  refine x_iload_n (q := 1) dX11_judge_0 rfl rfl ?_
  replace H := kbe H; obtain ⟨r1, c2, H⟩ := H
  have m3 := s_X11_isBit (Z := Z) h v1 hn c2
  refine x_callS (q := 4) (as := [.int v1]) (rest := []) dX11_judge_1 rfl kc_RX11_209 kh_X11_isBit (by decide) (Nat.le_of_ble_eq_true rfl) m3 ?_
  replace H := kite H; rcases H with ⟨g4, H⟩ | ⟨g4, H⟩
  · refine x_if_eq_t dX11_judge_4 (q := 20) (by decide) g4 ?_
    refine x_sub (ls2 := [(0, .ref v0)]) [0] rfl ?_
    exact s_X11_judge_b20 h v0 hn H
  · refine x_if_eq_f (q := 7) dX11_judge_4 (t := 20) (by decide) rfl g4 ?_
    refine x_aload_n (q := 8) dX11_judge_7 rfl rfl ?_
    replace H := kif H; obtain ⟨g5, H⟩ := H
    replace H := kif H; obtain ⟨g6, H⟩ := H
    refine x_getR (q := 11) dX11_judge_8 rfl kl_RX11_67 rfl (k243 g5 (by decide) hn) g6 ?_
    replace H := kif H; obtain ⟨g7, H⟩ := H
    refine x_getI (q := 14) dX11_judge_11 rfl kl_RX11_155 (Or.inl rfl) (k243 g7 (by decide) hn) ?_
    refine x_sipush (q := 17) (v := (9999 : Int32)) dX11_judge_14 rfl (by decide) ?_
    replace H := kite H; rcases H with ⟨g8, H⟩ | ⟨g8, H⟩
    · refine x_icmp_lt_t dX11_judge_17 (q := 26) (by decide) g8 ?_
      refine x_aload_n (q := 27) dX11_judge_26 rfl rfl ?_
      replace H := kbe H; obtain ⟨r9, c10, H⟩ := H
      have m11 := s_X11_beginAct (Z := Z) h v0 hn c10
      refine x_callV (q := 30) (as := []) (rest := []) dX11_judge_27 rfl kc_RX11_296 kh_X11_beginAct (by decide) (Nat.le_of_ble_eq_true rfl) m11 (ci := 11) (by exact ⟨rfl, by decide⟩) (k243 g5 (by decide) hn) ?_
      have n12 : (r9).1 = 243 := m11.1.full hn
      refine x_aload_n (q := 31) dX11_judge_30 rfl rfl ?_
      refine x_iload_n (q := 32) dX11_judge_31 rfl rfl ?_
      refine x_iconst (q := 33) (v := (2 : Int32)) dX11_judge_32 rfl (by decide) ?_
      replace H := kbe H; obtain ⟨r13, c14, H⟩ := H
      have m15 := s_X11_closeCase (Z := Z) r9 v0 v1 (2 : Int32) n12 c14
      refine x_callV (q := 36) (as := [.int v1, .int (2 : Int32)]) (rest := []) dX11_judge_33 rfl kc_RX11_299 kh_X11_closeCase (by decide) (Nat.le_of_ble_eq_true rfl) m15 (ci := 11) (by exact ⟨rfl, by decide⟩) (k243 g5 (by decide) n12) ?_
      have n16 : (r13).1 = 243 := m15.1.full n12
      refine x_aload_n (q := 37) dX11_judge_36 rfl rfl ?_
      replace H := kif H; obtain ⟨g17, H⟩ := H
      refine x_getR (q := 40) dX11_judge_37 rfl kl_RX11_67 rfl (k243 g5 (by decide) n16) g17 ?_
      replace H := kif H; obtain ⟨g18, H⟩ := H
      refine x_getI (q := 43) dX11_judge_40 rfl kl_RX11_155 (Or.inl rfl) (k243 g18 (by decide) n16) ?_
      cases H
      exact x_end ⟨dX11_judge_43, rfl, rfl⟩
    · refine x_icmp_lt_f (q := 20) dX11_judge_17 (t := 26) (by decide) rfl g8 ?_
      refine x_sub (ls2 := [(0, .ref v0)]) [0] rfl ?_
      exact s_X11_judge_b20 h v0 hn H
theorem s_X11_judge {Z : Nat → (Nat → Nat) → State → Prop} (h : KH) (v0 : Nat) (v1 : Int32) {t : Int32 × KH} (hn : h.1 = 243) (H : f_X11_judge h v0 v1 = some t) : KM Z yX11_judge cX11_judge 2 (some .int) 5 [.ref v0, .int v1] h (some (.int t.1)) t.2 :=
  kx_i (own := RX11) (ini := false) (by decide +kernel) (by decide +kernel) rfl (Nat.le_of_ble_eq_true rfl) (s0_X11_judge h v0 v1 hn H)
theorem dX11_draw_0 : decode cX11_draw 0 = .ok (.aload_n 0, 1) := by decide +kernel
theorem dX11_draw_1 : decode cX11_draw 1 = .ok (.ldc_w 374, 3) := by decide +kernel
theorem dX11_draw_4 : decode cX11_draw 4 = .ok (.aload_n 0, 1) := by decide +kernel
theorem dX11_draw_5 : decode cX11_draw 5 = .ok (.getfield 103, 3) := by decide +kernel
theorem dX11_draw_8 : decode cX11_draw 8 = .ok (.imul, 1) := by decide +kernel
theorem dX11_draw_9 : decode cX11_draw 9 = .ok (.sipush 12345, 3) := by decide +kernel
theorem dX11_draw_12 : decode cX11_draw 12 = .ok (.iadd, 1) := by decide +kernel
theorem dX11_draw_13 : decode cX11_draw 13 = .ok (.ldc_w 375, 3) := by decide +kernel
theorem dX11_draw_16 : decode cX11_draw 16 = .ok (.iand, 1) := by decide +kernel
theorem dX11_draw_17 : decode cX11_draw 17 = .ok (.putfield 103, 3) := by decide +kernel
theorem dX11_draw_20 : decode cX11_draw 20 = .ok (.iload_n 1, 1) := by decide +kernel
theorem dX11_draw_21 : decode cX11_draw 21 = .ok (.ifCond .le 15, 3) := by decide +kernel
theorem dX11_draw_24 : decode cX11_draw 24 = .ok (.aload_n 0, 1) := by decide +kernel
theorem dX11_draw_25 : decode cX11_draw 25 = .ok (.getfield 103, 3) := by decide +kernel
theorem dX11_draw_28 : decode cX11_draw 28 = .ok (.bipush 6, 2) := by decide +kernel
theorem dX11_draw_30 : decode cX11_draw 30 = .ok (.ishr, 1) := by decide +kernel
theorem dX11_draw_31 : decode cX11_draw 31 = .ok (.iload_n 1, 1) := by decide +kernel
theorem dX11_draw_32 : decode cX11_draw 32 = .ok (.irem, 1) := by decide +kernel
theorem dX11_draw_33 : decode cX11_draw 33 = .ok (.goto 4, 3) := by decide +kernel
theorem dX11_draw_36 : decode cX11_draw 36 = .ok (.iconst 0, 1) := by decide +kernel
theorem dX11_draw_37 : decode cX11_draw 37 = .ok (.ireturn, 1) := by decide +kernel
theorem kk_RX11_374 : Jvm.Cond.constant RX11 374 (1103515245 : Int32) ∈ ktG := kwm 1101 (by decide +kernel) (by decide +kernel)
theorem kl_RX11_103 : KLk RX11 103 11 14 := ⟨RX11, TX11, 18, rfl, by decide, Or.inl (kwm 542 (by decide +kernel) (by decide +kernel))⟩
theorem kk_RX11_375 : Jvm.Cond.constant RX11 375 (2147483647 : Int32) ∈ ktG := kwm 1102 (by decide +kernel) (by decide +kernel)
def f_X11_draw (h : KH) (v0 : Nat) (v1 : Int32) : Option (Int32 × KH) :=
  if kkind v0 = 11 then kl (ksI h v0 14 ((((1103515245 : Int32) * (kI h v0 14)) + (12345 : Int32)) &&& (2147483647 : Int32))) fun h2 =>
  if v1 ≤ 0 then
  some ((0 : Int32), h2)
  else
  if v1 = 0 then none else some ((((kI h2 v0 14) >>> ((6 : Int32) &&& 31)) - ((kI h2 v0 14) >>> ((6 : Int32) &&& 31)) / v1 * v1), h2) else none
set_option maxHeartbeats 4000000 in
set_option maxRecDepth 100000 in
theorem s0_X11_draw {Z : Nat → (Nat → Nat) → State → Prop} (h : KH) (v0 : Nat) (v1 : Int32) {t : Int32 × KH} (hn : h.1 = 243) (H : f_X11_draw h v0 v1 = some t) : KX Z RX11 cX11_draw 2 false 1 (KRi cX11_draw t.1 t.2) 0 [(0, .ref v0), (1, .int v1)] [] h := by
  unfold f_X11_draw at H
  refine x_aload_n (q := 1) dX11_draw_0 rfl rfl ?_
  refine x_ldcw (q := 4) (v := (1103515245 : Int32)) dX11_draw_1 rfl kk_RX11_374 ?_
  refine x_aload_n (q := 5) dX11_draw_4 rfl rfl ?_
  replace H := kif H; obtain ⟨g1, H⟩ := H
  refine x_getI (q := 8) dX11_draw_5 rfl kl_RX11_103 (Or.inl rfl) (k243 g1 (by decide) hn) ?_
  refine x_imul (q := 9) dX11_draw_8 rfl ?_
  refine x_sipush (q := 12) (v := (12345 : Int32)) dX11_draw_9 rfl (by decide) ?_
  refine x_iadd (q := 13) dX11_draw_12 rfl ?_
  refine x_ldcw (q := 16) (v := (2147483647 : Int32)) dX11_draw_13 rfl kk_RX11_375 ?_
  refine x_iand (q := 17) dX11_draw_16 rfl ?_
  replace H := kle H; obtain ⟨h2, q3, H⟩ := H
  refine x_putI (q := 20) dX11_draw_17 rfl kl_RX11_103 (Or.inl rfl) rfl (k243 g1 (by decide) hn) ?_
  refine x_nmH q3 ?_
  have n4 : h2.1 = 243 := by rw [q3]; exact hn
  refine x_iload_n (q := 21) dX11_draw_20 rfl rfl ?_
  replace H := kite H; rcases H with ⟨g5, H⟩ | ⟨g5, H⟩
  · refine x_if_le_t dX11_draw_21 (q := 36) (by decide) g5 ?_
    refine x_iconst (q := 37) (v := (0 : Int32)) dX11_draw_36 rfl (by decide) ?_
    cases H
    exact x_end ⟨dX11_draw_37, rfl, rfl⟩
  · refine x_if_le_f (q := 24) dX11_draw_21 (t := 36) (by decide) rfl g5 ?_
    refine x_aload_n (q := 25) dX11_draw_24 rfl rfl ?_
    refine x_getI (q := 28) dX11_draw_25 rfl kl_RX11_103 (Or.inl rfl) (k243 g1 (by decide) n4) ?_
    refine x_bipush (q := 30) (v := (6 : Int32)) dX11_draw_28 rfl (by decide) ?_
    refine x_ishr (q := 31) dX11_draw_30 rfl ?_
    refine x_iload_n (q := 32) dX11_draw_31 rfl rfl ?_
    replace H := kifn H; obtain ⟨g6, H⟩ := H
    refine x_irem (q := 33) dX11_draw_32 rfl g6 ?_
    refine x_goto dX11_draw_33 (q := 37) (by decide) ?_
    cases H
    exact x_end ⟨dX11_draw_37, rfl, rfl⟩
theorem s_X11_draw {Z : Nat → (Nat → Nat) → State → Prop} (h : KH) (v0 : Nat) (v1 : Int32) {t : Int32 × KH} (hn : h.1 = 243) (H : f_X11_draw h v0 v1 = some t) : KM Z yX11_draw cX11_draw 2 (some .int) 1 [.ref v0, .int v1] h (some (.int t.1)) t.2 :=
  kx_i (own := RX11) (ini := false) (by decide +kernel) (by decide +kernel) rfl (Nat.le_of_ble_eq_true rfl) (s0_X11_draw h v0 v1 hn H)
theorem dX11_drawKind_0 : decode cX11_drawKind 0 = .ok (.iload_n 1, 1) := by decide +kernel
theorem dX11_drawKind_1 : decode cX11_drawKind 1 = .ok (.ifCond .eq 7, 3) := by decide +kernel
theorem dX11_drawKind_4 : decode cX11_drawKind 4 = .ok (.iconst 3, 1) := by decide +kernel
theorem dX11_drawKind_5 : decode cX11_drawKind 5 = .ok (.goto 4, 3) := by decide +kernel
theorem dX11_drawKind_8 : decode cX11_drawKind 8 = .ok (.iconst 4, 1) := by decide +kernel
theorem dX11_drawKind_9 : decode cX11_drawKind 9 = .ok (.istore_n 2, 1) := by decide +kernel
theorem dX11_drawKind_10 : decode cX11_drawKind 10 = .ok (.iconst 0, 1) := by decide +kernel
theorem dX11_drawKind_11 : decode cX11_drawKind 11 = .ok (.istore_n 3, 1) := by decide +kernel
theorem dX11_drawKind_12 : decode cX11_drawKind 12 = .ok (.iconst 0, 1) := by decide +kernel
theorem dX11_drawKind_13 : decode cX11_drawKind 13 = .ok (.istore 4, 2) := by decide +kernel
theorem dX11_drawKind_15 : decode cX11_drawKind 15 = .ok (.iload 4, 2) := by decide +kernel
theorem dX11_drawKind_17 : decode cX11_drawKind 17 = .ok (.aload_n 0, 1) := by decide +kernel
theorem dX11_drawKind_18 : decode cX11_drawKind 18 = .ok (.getfield 57, 3) := by decide +kernel
theorem dX11_drawKind_21 : decode cX11_drawKind 21 = .ok (.getfield 143, 3) := by decide +kernel
theorem dX11_drawKind_24 : decode cX11_drawKind 24 = .ok (.if_icmp .ge 24, 3) := by decide +kernel
theorem dX11_drawKind_27 : decode cX11_drawKind 27 = .ok (.iload_n 3, 1) := by decide +kernel
theorem dX11_drawKind_28 : decode cX11_drawKind 28 = .ok (.aload_n 0, 1) := by decide +kernel
theorem dX11_drawKind_29 : decode cX11_drawKind 29 = .ok (.getfield 57, 3) := by decide +kernel
theorem dX11_drawKind_32 : decode cX11_drawKind 32 = .ok (.getfield 184, 3) := by decide +kernel
theorem dX11_drawKind_35 : decode cX11_drawKind 35 = .ok (.iload 4, 2) := by decide +kernel
theorem dX11_drawKind_37 : decode cX11_drawKind 37 = .ok (.aaload, 1) := by decide +kernel
theorem dX11_drawKind_38 : decode cX11_drawKind 38 = .ok (.iload_n 2, 1) := by decide +kernel
theorem dX11_drawKind_39 : decode cX11_drawKind 39 = .ok (.iaload, 1) := by decide +kernel
theorem dX11_drawKind_40 : decode cX11_drawKind 40 = .ok (.iadd, 1) := by decide +kernel
theorem dX11_drawKind_41 : decode cX11_drawKind 41 = .ok (.istore_n 3, 1) := by decide +kernel
theorem dX11_drawKind_42 : decode cX11_drawKind 42 = .ok (.iinc 4 1, 3) := by decide +kernel
theorem dX11_drawKind_45 : decode cX11_drawKind 45 = .ok (.goto (-30), 3) := by decide +kernel
theorem dX11_drawKind_48 : decode cX11_drawKind 48 = .ok (.iload_n 3, 1) := by decide +kernel
theorem dX11_drawKind_49 : decode cX11_drawKind 49 = .ok (.ifCond .ne 5, 3) := by decide +kernel
theorem dX11_drawKind_52 : decode cX11_drawKind 52 = .ok (.iconst (-1), 1) := by decide +kernel
theorem dX11_drawKind_53 : decode cX11_drawKind 53 = .ok (.ireturn, 1) := by decide +kernel
theorem dX11_drawKind_54 : decode cX11_drawKind 54 = .ok (.aload_n 0, 1) := by decide +kernel
theorem dX11_drawKind_55 : decode cX11_drawKind 55 = .ok (.iload_n 3, 1) := by decide +kernel
theorem dX11_drawKind_56 : decode cX11_drawKind 56 = .ok (.invokevirtual 363, 3) := by decide +kernel
theorem dX11_drawKind_59 : decode cX11_drawKind 59 = .ok (.istore 4, 2) := by decide +kernel
theorem dX11_drawKind_61 : decode cX11_drawKind 61 = .ok (.iconst 0, 1) := by decide +kernel
theorem dX11_drawKind_62 : decode cX11_drawKind 62 = .ok (.istore 5, 2) := by decide +kernel
theorem dX11_drawKind_64 : decode cX11_drawKind 64 = .ok (.iload 5, 2) := by decide +kernel
theorem dX11_drawKind_66 : decode cX11_drawKind 66 = .ok (.aload_n 0, 1) := by decide +kernel
theorem dX11_drawKind_67 : decode cX11_drawKind 67 = .ok (.getfield 57, 3) := by decide +kernel
theorem dX11_drawKind_70 : decode cX11_drawKind 70 = .ok (.getfield 143, 3) := by decide +kernel
theorem dX11_drawKind_73 : decode cX11_drawKind 73 = .ok (.if_icmp .ge 34, 3) := by decide +kernel
theorem dX11_drawKind_76 : decode cX11_drawKind 76 = .ok (.iload 4, 2) := by decide +kernel
theorem dX11_drawKind_78 : decode cX11_drawKind 78 = .ok (.aload_n 0, 1) := by decide +kernel
theorem dX11_drawKind_79 : decode cX11_drawKind 79 = .ok (.getfield 57, 3) := by decide +kernel
theorem dX11_drawKind_82 : decode cX11_drawKind 82 = .ok (.getfield 184, 3) := by decide +kernel
theorem dX11_drawKind_85 : decode cX11_drawKind 85 = .ok (.iload 5, 2) := by decide +kernel
theorem dX11_drawKind_87 : decode cX11_drawKind 87 = .ok (.aaload, 1) := by decide +kernel
theorem dX11_drawKind_88 : decode cX11_drawKind 88 = .ok (.iload_n 2, 1) := by decide +kernel
theorem dX11_drawKind_89 : decode cX11_drawKind 89 = .ok (.iaload, 1) := by decide +kernel
theorem dX11_drawKind_90 : decode cX11_drawKind 90 = .ok (.isub, 1) := by decide +kernel
theorem dX11_drawKind_91 : decode cX11_drawKind 91 = .ok (.istore 4, 2) := by decide +kernel
theorem dX11_drawKind_93 : decode cX11_drawKind 93 = .ok (.iload 4, 2) := by decide +kernel
theorem dX11_drawKind_95 : decode cX11_drawKind 95 = .ok (.ifCond .ge 6, 3) := by decide +kernel
theorem dX11_drawKind_98 : decode cX11_drawKind 98 = .ok (.iload 5, 2) := by decide +kernel
theorem dX11_drawKind_100 : decode cX11_drawKind 100 = .ok (.ireturn, 1) := by decide +kernel
theorem dX11_drawKind_101 : decode cX11_drawKind 101 = .ok (.iinc 5 1, 3) := by decide +kernel
theorem dX11_drawKind_104 : decode cX11_drawKind 104 = .ok (.goto (-40), 3) := by decide +kernel
theorem dX11_drawKind_107 : decode cX11_drawKind 107 = .ok (.iconst (-1), 1) := by decide +kernel
theorem dX11_drawKind_108 : decode cX11_drawKind 108 = .ok (.ireturn, 1) := by decide +kernel
theorem kc_RX11_363 : Cond.methodLink RX11 363 yX11_draw ∈ ktG ∧ (Cond.instanceMethod yX11_draw ∈ ktG ∧ Cond.selects yX11_draw.cls yX11_draw yX11_draw ∈ ktG) ∧ Cond.initialized yX11_draw.cls ∈ ktG ∧ Cond.code yX11_draw cX11_draw 2 (some .int) ∈ ktG := ⟨(kwm 1097 (by decide +kernel) (by decide +kernel)), ⟨(kwm 1099 (by decide +kernel) (by decide +kernel)), (kwm 31 (by decide +kernel) (by decide +kernel))⟩, (kwm 123 (by decide +kernel) (by decide +kernel)), kwm 1100 (by decide +kernel) (by decide +kernel)⟩
theorem kh_X11_draw : yX11_draw.cls ≠ "java/lang/invoke/MethodHandle" ∧ yX11_draw.cls ≠ "java/lang/invoke/VarHandle" ∧ (parseMethodDescriptor yX11_draw.desc).map (fun d => d.parameters.length) = some 1 := by decide +kernel
def E_X11_drawKind_l15 (h : KH) (v0 : Nat) (v2 : Int32) : Int32 → Nat → List (Nat × Value) → List Value → KH → Prop := fun (e : Int32) pc ls st hh => pc = 48 ∧ ls = [(0, .ref v0), (2, .int v2), (3, .int e)] ∧ st = [] ∧ h = hh
def B_X11_drawKind_l15 (h : KH) (v0 : Nat) (v2 : Int32) : ((Int32 × Int32) ⊕ (Int32)) → Nat → List (Nat × Value) → List Value → KH → Prop := Sum.elim (fun (s : Int32 × Int32) pc ls st hh => pc = 15 ∧ ls = [(0, .ref v0), (2, .int v2), (3, .int s.1), (4, .int s.2)] ∧ st = [] ∧ hh = h) (E_X11_drawKind_l15 h v0 v2)
def f_X11_drawKind_l15 (h : KH) (v0 : Nat) (v2 : Int32) (s : Int32 × Int32) : Option ((Int32 × Int32) ⊕ (Int32)) :=
  if kkind v0 = 11 then if (kR h v0 5) < 999999 then if kkind (kR h v0 5) = 2 then if (kI h (kR h v0 5) 3) ≤ s.2 then
  some (.inr s.1)
  else
  if (kR h (kR h v0 5) 0) < 999999 then if kkind (kR h (kR h v0 5) 0) = 24 then if (s.2 < 0 ∨ klen (kR h (kR h v0 5) 0) ≤ (s.2).toNatClampNeg) then none else if (kR h (kR h (kR h v0 5) 0) ((s.2).toNatClampNeg)) < 999999 then if kkind (kR h (kR h (kR h v0 5) 0) ((s.2).toNatClampNeg)) = 20 then if (v2 < 0 ∨ klen (kR h (kR h (kR h v0 5) 0) ((s.2).toNatClampNeg)) ≤ (v2).toNatClampNeg) then none else kl (s.1 + (kI h (kR h (kR h (kR h v0 5) 0) ((s.2).toNatClampNeg)) ((v2).toNatClampNeg))) fun x11 =>
  kl (s.2 + (1 : Int32)) fun x13 =>
  some (.inl (x11, x13)) else none else none else none else none else none else none else none
set_option maxHeartbeats 4000000 in
set_option maxRecDepth 100000 in
theorem s_X11_drawKind_l15 {Z : Nat → (Nat → Nat) → State → Prop} (h : KH) (v0 : Nat) (v2 : Int32) (s : Int32 × Int32) (t : (Int32 × Int32) ⊕ (Int32)) (hn : (h).1 = 243) (H : f_X11_drawKind_l15 h v0 v2 s = some t) : KX Z RX11 cX11_drawKind 6 false 2 (B_X11_drawKind_l15 h v0 v2 t) 15 [(0, .ref v0), (2, .int v2), (3, .int s.1), (4, .int s.2)] [] h := by
  unfold f_X11_drawKind_l15 at H
  refine x_iload (q := 17) dX11_drawKind_15 rfl rfl ?_
  refine x_aload_n (q := 18) dX11_drawKind_17 rfl rfl ?_
  replace H := kif H; obtain ⟨g1, H⟩ := H
  replace H := kif H; obtain ⟨g2, H⟩ := H
  refine x_getR (q := 21) dX11_drawKind_18 rfl kl_RX11_57 rfl (k243 g1 (by decide) hn) g2 ?_
  replace H := kif H; obtain ⟨g3, H⟩ := H
  refine x_getI (q := 24) dX11_drawKind_21 rfl kl_RX11_143 (Or.inl rfl) (k243 g3 (by decide) hn) ?_
  replace H := kite H; rcases H with ⟨g4, H⟩ | ⟨g4, H⟩
  · refine x_icmp_ge_t dX11_drawKind_24 (q := 48) (by decide) g4 ?_
    cases H
    refine x_sub (ls2 := [(0, .ref v0), (2, .int v2), (3, .int s.1)]) [0, 1, 2] rfl ?_
    exact x_end (x_cfg rfl)
  · refine x_icmp_ge_f (q := 27) dX11_drawKind_24 (t := 48) (by decide) rfl g4 ?_
    refine x_iload_n (q := 28) dX11_drawKind_27 rfl rfl ?_
    refine x_aload_n (q := 29) dX11_drawKind_28 rfl rfl ?_
    refine x_getR (q := 32) dX11_drawKind_29 rfl kl_RX11_57 rfl (k243 g1 (by decide) hn) g2 ?_
    replace H := kif H; obtain ⟨g5, H⟩ := H
    refine x_getR (q := 35) dX11_drawKind_32 rfl kl_RX11_184 rfl (k243 g3 (by decide) hn) g5 ?_
    refine x_iload (q := 37) dX11_drawKind_35 rfl rfl ?_
    replace H := kif H; obtain ⟨g6, H⟩ := H
    replace H := kifn H; obtain ⟨g7, H⟩ := H
    replace H := kif H; obtain ⟨g8, H⟩ := H
    refine x_aald (q := 38) dX11_drawKind_37 rfl (Or.inl rfl) (k243 g6 (by decide) hn) g7 g8 ?_
    refine x_iload_n (q := 39) dX11_drawKind_38 rfl rfl ?_
    replace H := kif H; obtain ⟨g9, H⟩ := H
    replace H := kifn H; obtain ⟨g10, H⟩ := H
    refine x_iald (q := 40) dX11_drawKind_39 rfl (k243 g9 (by decide) hn) g10 ?_
    refine x_iadd (q := 41) dX11_drawKind_40 rfl ?_
    replace H := kle H; obtain ⟨x11, q12, H⟩ := H
    refine x_nmI q12 ?_
    refine x_istore_n (q := 42) (i := 3) (ls2 := [(3, .int x11), (0, .ref v0), (2, .int v2), (4, .int s.2)]) dX11_drawKind_41 rfl rfl (by decide) rfl ?_
    replace H := kle H; obtain ⟨x13, q14, H⟩ := H
    refine x_iinc (q := 45) (i := 4) (ls2 := [(4, .int x13), (3, .int x11), (0, .ref v0), (2, .int v2)]) dX11_drawKind_42 rfl rfl (by decide) (by rw [q14]; rfl) ?_
    refine x_goto dX11_drawKind_45 (q := 15) (by decide) ?_
    cases H
    refine x_sub (ls2 := [(0, .ref v0), (2, .int v2), (3, .int x11), (4, .int x13)]) [2, 3, 1, 0] rfl ?_
    exact x_end (x_cfg rfl)
theorem sl_X11_drawKind_l15 {Z : Nat → (Nat → Nat) → State → Prop} (h : KH) (v0 : Nat) (v2 : Int32) (n : Nat) (s : Int32 × Int32) (r : Int32) (hn : (h).1 = 243) (H : kloop (f_X11_drawKind_l15 h v0 v2) n s = some r) : KX Z RX11 cX11_drawKind 6 false 2 (E_X11_drawKind_l15 h v0 v2 r) 15 [(0, .ref v0), (2, .int v2), (3, .int s.1), (4, .int s.2)] [] h :=
  k_loop (ls := (fun (s : Int32 × Int32) => ([(0, .ref v0), (2, .int v2), (3, .int s.1), (4, .int s.2)] : List (Nat × Value)))) (hp := (fun (s : Int32 × Int32) => (h : KH))) (G := E_X11_drawKind_l15 h v0 v2) (fun s t hn H => s_X11_drawKind_l15 h v0 v2 s t hn H) n s r hn H
def E_X11_drawKind_l64 (h : KH) (v0 : Nat) (v2 : Int32) : ((Unit) ⊕ (Int32 × KH)) → Nat → List (Nat × Value) → List Value → KH → Prop := Sum.elim (fun (e : Unit) pc ls st hh => pc = 107 ∧ ls = [] ∧ st = [] ∧ h = hh) (fun o => (KRi cX11_drawKind o.1 o.2))
def B_X11_drawKind_l64 (h : KH) (v0 : Nat) (v2 : Int32) : ((Int32 × Int32) ⊕ ((Unit) ⊕ (Int32 × KH))) → Nat → List (Nat × Value) → List Value → KH → Prop := Sum.elim (fun (s : Int32 × Int32) pc ls st hh => pc = 64 ∧ ls = [(0, .ref v0), (2, .int v2), (4, .int s.1), (5, .int s.2)] ∧ st = [] ∧ hh = h) (E_X11_drawKind_l64 h v0 v2)
def f_X11_drawKind_l64 (h : KH) (v0 : Nat) (v2 : Int32) (s : Int32 × Int32) : Option ((Int32 × Int32) ⊕ ((Unit) ⊕ (Int32 × KH))) :=
  if kkind v0 = 11 then if (kR h v0 5) < 999999 then if kkind (kR h v0 5) = 2 then if (kI h (kR h v0 5) 3) ≤ s.2 then
  some (.inr (.inl ()))
  else
  if (kR h (kR h v0 5) 0) < 999999 then if kkind (kR h (kR h v0 5) 0) = 24 then if (s.2 < 0 ∨ klen (kR h (kR h v0 5) 0) ≤ (s.2).toNatClampNeg) then none else if (kR h (kR h (kR h v0 5) 0) ((s.2).toNatClampNeg)) < 999999 then if kkind (kR h (kR h (kR h v0 5) 0) ((s.2).toNatClampNeg)) = 20 then if (v2 < 0 ∨ klen (kR h (kR h (kR h v0 5) 0) ((s.2).toNatClampNeg)) ≤ (v2).toNatClampNeg) then none else kl (s.1 - (kI h (kR h (kR h (kR h v0 5) 0) ((s.2).toNatClampNeg)) ((v2).toNatClampNeg))) fun x11 =>
  if 0 ≤ x11 then
  kl (s.2 + (1 : Int32)) fun x14 =>
  some (.inl (x11, x14))
  else
  kout2 (some (s.2, h)) else none else none else none else none else none else none else none
set_option maxHeartbeats 4000000 in
set_option maxRecDepth 100000 in
theorem s_X11_drawKind_l64 {Z : Nat → (Nat → Nat) → State → Prop} (h : KH) (v0 : Nat) (v2 : Int32) (s : Int32 × Int32) (t : (Int32 × Int32) ⊕ ((Unit) ⊕ (Int32 × KH))) (hn : (h).1 = 243) (H : f_X11_drawKind_l64 h v0 v2 s = some t) : KX Z RX11 cX11_drawKind 6 false 2 (B_X11_drawKind_l64 h v0 v2 t) 64 [(0, .ref v0), (2, .int v2), (4, .int s.1), (5, .int s.2)] [] h := by
  unfold f_X11_drawKind_l64 at H
  refine x_iload (q := 66) dX11_drawKind_64 rfl rfl ?_
  refine x_aload_n (q := 67) dX11_drawKind_66 rfl rfl ?_
  replace H := kif H; obtain ⟨g1, H⟩ := H
  replace H := kif H; obtain ⟨g2, H⟩ := H
  refine x_getR (q := 70) dX11_drawKind_67 rfl kl_RX11_57 rfl (k243 g1 (by decide) hn) g2 ?_
  replace H := kif H; obtain ⟨g3, H⟩ := H
  refine x_getI (q := 73) dX11_drawKind_70 rfl kl_RX11_143 (Or.inl rfl) (k243 g3 (by decide) hn) ?_
  replace H := kite H; rcases H with ⟨g4, H⟩ | ⟨g4, H⟩
  · refine x_icmp_ge_t dX11_drawKind_73 (q := 107) (by decide) g4 ?_
    cases H
    refine x_sub (ls2 := []) [] rfl ?_
    exact x_end (x_cfg rfl)
  · refine x_icmp_ge_f (q := 76) dX11_drawKind_73 (t := 107) (by decide) rfl g4 ?_
    refine x_iload (q := 78) dX11_drawKind_76 rfl rfl ?_
    refine x_aload_n (q := 79) dX11_drawKind_78 rfl rfl ?_
    refine x_getR (q := 82) dX11_drawKind_79 rfl kl_RX11_57 rfl (k243 g1 (by decide) hn) g2 ?_
    replace H := kif H; obtain ⟨g5, H⟩ := H
    refine x_getR (q := 85) dX11_drawKind_82 rfl kl_RX11_184 rfl (k243 g3 (by decide) hn) g5 ?_
    refine x_iload (q := 87) dX11_drawKind_85 rfl rfl ?_
    replace H := kif H; obtain ⟨g6, H⟩ := H
    replace H := kifn H; obtain ⟨g7, H⟩ := H
    replace H := kif H; obtain ⟨g8, H⟩ := H
    refine x_aald (q := 88) dX11_drawKind_87 rfl (Or.inl rfl) (k243 g6 (by decide) hn) g7 g8 ?_
    refine x_iload_n (q := 89) dX11_drawKind_88 rfl rfl ?_
    replace H := kif H; obtain ⟨g9, H⟩ := H
    replace H := kifn H; obtain ⟨g10, H⟩ := H
    refine x_iald (q := 90) dX11_drawKind_89 rfl (k243 g9 (by decide) hn) g10 ?_
    refine x_isub (q := 91) dX11_drawKind_90 rfl ?_
    replace H := kle H; obtain ⟨x11, q12, H⟩ := H
    refine x_nmI q12 ?_
    refine x_istore (q := 93) (i := 4) (ls2 := [(4, .int x11), (0, .ref v0), (2, .int v2), (5, .int s.2)]) dX11_drawKind_91 rfl (by decide) rfl ?_
    refine x_iload (q := 95) dX11_drawKind_93 rfl rfl ?_
    replace H := kite H; rcases H with ⟨g13, H⟩ | ⟨g13, H⟩
    · refine x_if_ge_t dX11_drawKind_95 (q := 101) (by decide) g13 ?_
      replace H := kle H; obtain ⟨x14, q15, H⟩ := H
      refine x_iinc (q := 104) (i := 5) (ls2 := [(5, .int x14), (4, .int x11), (0, .ref v0), (2, .int v2)]) dX11_drawKind_101 rfl rfl (by decide) (by rw [q15]; rfl) ?_
      refine x_goto dX11_drawKind_104 (q := 64) (by decide) ?_
      cases H
      refine x_sub (ls2 := [(0, .ref v0), (2, .int v2), (4, .int x11), (5, .int x14)]) [2, 3, 1, 0] rfl ?_
      exact x_end (x_cfg rfl)
    · refine x_if_ge_f (q := 98) dX11_drawKind_95 (t := 101) (by decide) rfl g13 ?_
      replace H := ko2e H; obtain ⟨o16, H, rfl⟩ := H
      refine x_iload (q := 100) dX11_drawKind_98 rfl rfl ?_
      cases H
      exact x_end ⟨dX11_drawKind_100, rfl, rfl⟩
theorem sl_X11_drawKind_l64 {Z : Nat → (Nat → Nat) → State → Prop} (h : KH) (v0 : Nat) (v2 : Int32) (n : Nat) (s : Int32 × Int32) (r : (Unit) ⊕ (Int32 × KH)) (hn : (h).1 = 243) (H : kloop (f_X11_drawKind_l64 h v0 v2) n s = some r) : KX Z RX11 cX11_drawKind 6 false 2 (E_X11_drawKind_l64 h v0 v2 r) 64 [(0, .ref v0), (2, .int v2), (4, .int s.1), (5, .int s.2)] [] h :=
  k_loop (ls := (fun (s : Int32 × Int32) => ([(0, .ref v0), (2, .int v2), (4, .int s.1), (5, .int s.2)] : List (Nat × Value)))) (hp := (fun (s : Int32 × Int32) => (h : KH))) (G := E_X11_drawKind_l64 h v0 v2) (fun s t hn H => s_X11_drawKind_l64 h v0 v2 s t hn H) n s r hn H
def f_X11_drawKind_b9 (h : KH) (v0 : Nat) (w0 : Int32) : Option (Int32 × KH) :=
  kb (kloop (f_X11_drawKind_l15 h v0 w0) KF ((0 : Int32), (0 : Int32))) fun e1 =>
  if e1 = 0 then
  some ((-1 : Int32), h)
  else
  if kkind v0 = 11 then kb (f_X11_draw h v0 e1) fun r6 =>
  kb (kloop (f_X11_drawKind_l64 r6.2 v0 w0) KF (r6.1, (0 : Int32))) fun e10 =>
  ksum e10 (fun x13 =>
  some ((-1 : Int32), r6.2)) (fun o14 => some o14) else none
set_option maxHeartbeats 4000000 in
set_option maxRecDepth 100000 in
theorem s_X11_drawKind_b9 {Z : Nat → (Nat → Nat) → State → Prop} (h : KH) (v0 : Nat) (w0 : Int32) {t : Int32 × KH} (hn : h.1 = 243) (H : f_X11_drawKind_b9 h v0 w0 = some t) : KX Z RX11 cX11_drawKind 6 false 2 (KRi cX11_drawKind t.1 t.2) 9 [(0, .ref v0)] [.int w0] h := by
  unfold f_X11_drawKind_b9 at H
  refine x_istore_n (q := 10) (i := 2) (ls2 := [(2, .int w0), (0, .ref v0)]) dX11_drawKind_9 rfl rfl (by decide) rfl ?_
  refine x_iconst (q := 11) (v := (0 : Int32)) dX11_drawKind_10 rfl (by decide) ?_
  refine x_istore_n (q := 12) (i := 3) (ls2 := [(3, .int (0 : Int32)), (2, .int w0), (0, .ref v0)]) dX11_drawKind_11 rfl rfl (by decide) rfl ?_
  refine x_iconst (q := 13) (v := (0 : Int32)) dX11_drawKind_12 rfl (by decide) ?_
  refine x_istore (q := 15) (i := 4) (ls2 := [(4, .int (0 : Int32)), (3, .int (0 : Int32)), (2, .int w0), (0, .ref v0)]) dX11_drawKind_13 rfl (by decide) rfl ?_
  refine x_sub (ls2 := [(0, .ref v0), (2, .int w0), (3, .int (0 : Int32)), (4, .int (0 : Int32))]) [3, 2, 1, 0] rfl ?_
  replace H := kbe H; obtain ⟨e1, c2, H⟩ := H
  refine x_app (sl_X11_drawKind_l15 h v0 w0 KF ((0 : Int32), (0 : Int32)) e1 hn c2) fun pc2 ls2 st2 h2 hg m3 => ?_
  obtain ⟨rfl, rfl, rfl, rfl⟩ := hg
  refine x_iload_n (q := 49) dX11_drawKind_48 rfl rfl ?_
  replace H := kite H; rcases H with ⟨g4, H⟩ | ⟨g4, H⟩
  · refine x_if_ne_f (q := 52) dX11_drawKind_49 (t := 54) (by decide) rfl g4 ?_
    refine x_iconst (q := 53) (v := (-1 : Int32)) dX11_drawKind_52 rfl (by decide) ?_
    cases H
    exact x_end ⟨dX11_drawKind_53, rfl, rfl⟩
  · refine x_if_ne_t dX11_drawKind_49 (q := 54) (by decide) g4 ?_
    refine x_aload_n (q := 55) dX11_drawKind_54 rfl rfl ?_
    refine x_iload_n (q := 56) dX11_drawKind_55 rfl rfl ?_
    replace H := kif H; obtain ⟨g5, H⟩ := H
    replace H := kbe H; obtain ⟨r6, c7, H⟩ := H
    have m8 := s_X11_draw (Z := Z) h v0 e1 hn c7
    refine x_callV (q := 59) (as := [.int e1]) (rest := []) dX11_drawKind_56 rfl kc_RX11_363 kh_X11_draw (by decide) (Nat.le_of_ble_eq_true rfl) m8 (ci := 11) (by exact ⟨rfl, by decide⟩) (k243 g5 (by decide) hn) ?_
    have n9 : (r6.2).1 = 243 := m8.1.full hn
    refine x_istore (q := 61) (i := 4) (ls2 := [(4, .int r6.1), (0, .ref v0), (2, .int w0), (3, .int e1)]) dX11_drawKind_59 rfl (by decide) rfl ?_
    refine x_iconst (q := 62) (v := (0 : Int32)) dX11_drawKind_61 rfl (by decide) ?_
    refine x_istore (q := 64) (i := 5) (ls2 := [(5, .int (0 : Int32)), (4, .int r6.1), (0, .ref v0), (2, .int w0), (3, .int e1)]) dX11_drawKind_62 rfl (by decide) rfl ?_
    refine x_sub (ls2 := [(0, .ref v0), (2, .int w0), (4, .int r6.1), (5, .int (0 : Int32))]) [2, 3, 1, 0] rfl ?_
    replace H := kbe H; obtain ⟨e10, c11, H⟩ := H
    refine x_app (sl_X11_drawKind_l64 r6.2 v0 w0 KF (r6.1, (0 : Int32)) e10 n9 c11) fun pc2 ls2 st2 h2 hg m12 => ?_
    replace H := kse H; rcases H with ⟨x13, rfl, H⟩ | ⟨o14, rfl, H⟩
    · obtain ⟨rfl, rfl, rfl, rfl⟩ := hg
      refine x_iconst (q := 108) (v := (-1 : Int32)) dX11_drawKind_107 rfl (by decide) ?_
      cases H
      exact x_end ⟨dX11_drawKind_108, rfl, rfl⟩
    · cases H
      exact x_end hg
def f_X11_drawKind (h : KH) (v0 : Nat) (v1 : Int32) : Option (Int32 × KH) :=
  if v1 = 0 then
  f_X11_drawKind_b9 h v0 (4 : Int32)
  else
  f_X11_drawKind_b9 h v0 (3 : Int32)
set_option maxHeartbeats 4000000 in
set_option maxRecDepth 100000 in
theorem s0_X11_drawKind {Z : Nat → (Nat → Nat) → State → Prop} (h : KH) (v0 : Nat) (v1 : Int32) {t : Int32 × KH} (hn : h.1 = 243) (H : f_X11_drawKind h v0 v1 = some t) : KX Z RX11 cX11_drawKind 6 false 2 (KRi cX11_drawKind t.1 t.2) 0 [(0, .ref v0), (1, .int v1)] [] h := by
  unfold f_X11_drawKind at H
  refine x_iload_n (q := 1) dX11_drawKind_0 rfl rfl ?_
  replace H := kite H; rcases H with ⟨g1, H⟩ | ⟨g1, H⟩
  · refine x_if_eq_t dX11_drawKind_1 (q := 8) (by decide) g1 ?_
    refine x_iconst (q := 9) (v := (4 : Int32)) dX11_drawKind_8 rfl (by decide) ?_
    refine x_sub (ls2 := [(0, .ref v0)]) [0] rfl ?_
    exact s_X11_drawKind_b9 h v0 (4 : Int32) hn H
  · refine x_if_eq_f (q := 4) dX11_drawKind_1 (t := 8) (by decide) rfl g1 ?_
    refine x_iconst (q := 5) (v := (3 : Int32)) dX11_drawKind_4 rfl (by decide) ?_
    refine x_goto dX11_drawKind_5 (q := 9) (by decide) ?_
    refine x_sub (ls2 := [(0, .ref v0)]) [0] rfl ?_
    exact s_X11_drawKind_b9 h v0 (3 : Int32) hn H
theorem s_X11_drawKind {Z : Nat → (Nat → Nat) → State → Prop} (h : KH) (v0 : Nat) (v1 : Int32) {t : Int32 × KH} (hn : h.1 = 243) (H : f_X11_drawKind h v0 v1 = some t) : KM Z yX11_drawKind cX11_drawKind 6 (some .int) 2 [.ref v0, .int v1] h (some (.int t.1)) t.2 :=
  kx_i (own := RX11) (ini := false) (by decide +kernel) (by decide +kernel) rfl (Nat.le_of_ble_eq_true rfl) (s0_X11_drawKind h v0 v1 hn H)
theorem dX11_caseBySeed_0 : decode cX11_caseBySeed 0 = .ok (.aload_n 0, 1) := by decide +kernel
theorem dX11_caseBySeed_1 : decode cX11_caseBySeed 1 = .ok (.bipush 100, 2) := by decide +kernel
theorem dX11_caseBySeed_3 : decode cX11_caseBySeed 3 = .ok (.invokevirtual 363, 3) := by decide +kernel
theorem dX11_caseBySeed_6 : decode cX11_caseBySeed 6 = .ok (.aload_n 0, 1) := by decide +kernel
theorem dX11_caseBySeed_7 : decode cX11_caseBySeed 7 = .ok (.getfield 57, 3) := by decide +kernel
theorem dX11_caseBySeed_10 : decode cX11_caseBySeed 10 = .ok (.getfield 152, 3) := by decide +kernel
theorem dX11_caseBySeed_13 : decode cX11_caseBySeed 13 = .ok (.if_icmp .ge 7, 3) := by decide +kernel
theorem dX11_caseBySeed_16 : decode cX11_caseBySeed 16 = .ok (.iconst 0, 1) := by decide +kernel
theorem dX11_caseBySeed_17 : decode cX11_caseBySeed 17 = .ok (.goto 4, 3) := by decide +kernel
theorem dX11_caseBySeed_20 : decode cX11_caseBySeed 20 = .ok (.iconst 1, 1) := by decide +kernel
theorem dX11_caseBySeed_21 : decode cX11_caseBySeed 21 = .ok (.istore_n 1, 1) := by decide +kernel
theorem dX11_caseBySeed_22 : decode cX11_caseBySeed 22 = .ok (.aload_n 0, 1) := by decide +kernel
theorem dX11_caseBySeed_23 : decode cX11_caseBySeed 23 = .ok (.iload_n 1, 1) := by decide +kernel
theorem dX11_caseBySeed_24 : decode cX11_caseBySeed 24 = .ok (.ifCond .ne 7, 3) := by decide +kernel
theorem dX11_caseBySeed_27 : decode cX11_caseBySeed 27 = .ok (.iconst 1, 1) := by decide +kernel
theorem dX11_caseBySeed_28 : decode cX11_caseBySeed 28 = .ok (.goto 4, 3) := by decide +kernel
theorem dX11_caseBySeed_31 : decode cX11_caseBySeed 31 = .ok (.iconst 0, 1) := by decide +kernel
theorem dX11_caseBySeed_32 : decode cX11_caseBySeed 32 = .ok (.invokevirtual 366, 3) := by decide +kernel
theorem dX11_caseBySeed_35 : decode cX11_caseBySeed 35 = .ok (.istore_n 2, 1) := by decide +kernel
theorem dX11_caseBySeed_36 : decode cX11_caseBySeed 36 = .ok (.iload_n 2, 1) := by decide +kernel
theorem dX11_caseBySeed_37 : decode cX11_caseBySeed 37 = .ok (.iconst (-1), 1) := by decide +kernel
theorem dX11_caseBySeed_38 : decode cX11_caseBySeed 38 = .ok (.if_icmp .ne 5, 3) := by decide +kernel
theorem dX11_caseBySeed_41 : decode cX11_caseBySeed 41 = .ok (.iconst 0, 1) := by decide +kernel
theorem dX11_caseBySeed_42 : decode cX11_caseBySeed 42 = .ok (.ireturn, 1) := by decide +kernel
theorem dX11_caseBySeed_43 : decode cX11_caseBySeed 43 = .ok (.aload_n 0, 1) := by decide +kernel
theorem dX11_caseBySeed_44 : decode cX11_caseBySeed 44 = .ok (.iload_n 1, 1) := by decide +kernel
theorem dX11_caseBySeed_45 : decode cX11_caseBySeed 45 = .ok (.iconst 1, 1) := by decide +kernel
theorem dX11_caseBySeed_46 : decode cX11_caseBySeed 46 = .ok (.if_icmp .ne 7, 3) := by decide +kernel
theorem dX11_caseBySeed_49 : decode cX11_caseBySeed 49 = .ok (.iconst 1, 1) := by decide +kernel
theorem dX11_caseBySeed_50 : decode cX11_caseBySeed 50 = .ok (.goto 4, 3) := by decide +kernel
theorem dX11_caseBySeed_53 : decode cX11_caseBySeed 53 = .ok (.iconst 0, 1) := by decide +kernel
theorem dX11_caseBySeed_54 : decode cX11_caseBySeed 54 = .ok (.invokevirtual 366, 3) := by decide +kernel
theorem dX11_caseBySeed_57 : decode cX11_caseBySeed 57 = .ok (.istore_n 3, 1) := by decide +kernel
theorem dX11_caseBySeed_58 : decode cX11_caseBySeed 58 = .ok (.iload_n 3, 1) := by decide +kernel
theorem dX11_caseBySeed_59 : decode cX11_caseBySeed 59 = .ok (.iconst (-1), 1) := by decide +kernel
theorem dX11_caseBySeed_60 : decode cX11_caseBySeed 60 = .ok (.if_icmp .ne 5, 3) := by decide +kernel
theorem dX11_caseBySeed_63 : decode cX11_caseBySeed 63 = .ok (.iconst 0, 1) := by decide +kernel
theorem dX11_caseBySeed_64 : decode cX11_caseBySeed 64 = .ok (.ireturn, 1) := by decide +kernel
theorem dX11_caseBySeed_65 : decode cX11_caseBySeed 65 = .ok (.aload_n 0, 1) := by decide +kernel
theorem dX11_caseBySeed_66 : decode cX11_caseBySeed 66 = .ok (.getfield 91, 3) := by decide +kernel
theorem dX11_caseBySeed_69 : decode cX11_caseBySeed 69 = .ok (.aload_n 0, 1) := by decide +kernel
theorem dX11_caseBySeed_70 : decode cX11_caseBySeed 70 = .ok (.getfield 57, 3) := by decide +kernel
theorem dX11_caseBySeed_73 : decode cX11_caseBySeed 73 = .ok (.aload_n 0, 1) := by decide +kernel
theorem dX11_caseBySeed_74 : decode cX11_caseBySeed 74 = .ok (.getfield 67, 3) := by decide +kernel
theorem dX11_caseBySeed_77 : decode cX11_caseBySeed 77 = .ok (.invokevirtual 223, 3) := by decide +kernel
theorem dX11_caseBySeed_80 : decode cX11_caseBySeed 80 = .ok (.aload_n 0, 1) := by decide +kernel
theorem dX11_caseBySeed_81 : decode cX11_caseBySeed 81 = .ok (.getfield 91, 3) := by decide +kernel
theorem dX11_caseBySeed_84 : decode cX11_caseBySeed 84 = .ok (.aload_n 0, 1) := by decide +kernel
theorem dX11_caseBySeed_85 : decode cX11_caseBySeed 85 = .ok (.getfield 57, 3) := by decide +kernel
theorem dX11_caseBySeed_88 : decode cX11_caseBySeed 88 = .ok (.iconst 0, 1) := by decide +kernel
theorem dX11_caseBySeed_89 : decode cX11_caseBySeed 89 = .ok (.invokevirtual 254, 3) := by decide +kernel
theorem dX11_caseBySeed_92 : decode cX11_caseBySeed 92 = .ok (.istore 4, 2) := by decide +kernel
theorem dX11_caseBySeed_94 : decode cX11_caseBySeed 94 = .ok (.iconst 0, 1) := by decide +kernel
theorem dX11_caseBySeed_95 : decode cX11_caseBySeed 95 = .ok (.istore 5, 2) := by decide +kernel
theorem dX11_caseBySeed_97 : decode cX11_caseBySeed 97 = .ok (.iload 5, 2) := by decide +kernel
theorem dX11_caseBySeed_99 : decode cX11_caseBySeed 99 = .ok (.aload_n 0, 1) := by decide +kernel
theorem dX11_caseBySeed_100 : decode cX11_caseBySeed 100 = .ok (.getfield 57, 3) := by decide +kernel
theorem dX11_caseBySeed_103 : decode cX11_caseBySeed 103 = .ok (.getfield 146, 3) := by decide +kernel
theorem dX11_caseBySeed_106 : decode cX11_caseBySeed 106 = .ok (.if_icmp .ge 47, 3) := by decide +kernel
theorem dX11_caseBySeed_109 : decode cX11_caseBySeed 109 = .ok (.iload 4, 2) := by decide +kernel
theorem dX11_caseBySeed_111 : decode cX11_caseBySeed 111 = .ok (.iload 5, 2) := by decide +kernel
theorem dX11_caseBySeed_113 : decode cX11_caseBySeed 113 = .ok (.ishr, 1) := by decide +kernel
theorem dX11_caseBySeed_114 : decode cX11_caseBySeed 114 = .ok (.iconst 1, 1) := by decide +kernel
theorem dX11_caseBySeed_115 : decode cX11_caseBySeed 115 = .ok (.iand, 1) := by decide +kernel
theorem dX11_caseBySeed_116 : decode cX11_caseBySeed 116 = .ok (.ifCond .eq 31, 3) := by decide +kernel
theorem dX11_caseBySeed_119 : decode cX11_caseBySeed 119 = .ok (.aload_n 0, 1) := by decide +kernel
theorem dX11_caseBySeed_120 : decode cX11_caseBySeed 120 = .ok (.getfield 91, 3) := by decide +kernel
theorem dX11_caseBySeed_123 : decode cX11_caseBySeed 123 = .ok (.iload_n 1, 1) := by decide +kernel
theorem dX11_caseBySeed_124 : decode cX11_caseBySeed 124 = .ok (.iload_n 2, 1) := by decide +kernel
theorem dX11_caseBySeed_125 : decode cX11_caseBySeed 125 = .ok (.iload_n 3, 1) := by decide +kernel
theorem dX11_caseBySeed_126 : decode cX11_caseBySeed 126 = .ok (.iload 5, 2) := by decide +kernel
theorem dX11_caseBySeed_128 : decode cX11_caseBySeed 128 = .ok (.invokevirtual 370, 3) := by decide +kernel
theorem dX11_caseBySeed_131 : decode cX11_caseBySeed 131 = .ok (.istore 6, 2) := by decide +kernel
theorem dX11_caseBySeed_133 : decode cX11_caseBySeed 133 = .ok (.aload_n 0, 1) := by decide +kernel
theorem dX11_caseBySeed_134 : decode cX11_caseBySeed 134 = .ok (.getfield 67, 3) := by decide +kernel
theorem dX11_caseBySeed_137 : decode cX11_caseBySeed 137 = .ok (.getfield 197, 3) := by decide +kernel
theorem dX11_caseBySeed_140 : decode cX11_caseBySeed 140 = .ok (.iload 5, 2) := by decide +kernel
theorem dX11_caseBySeed_142 : decode cX11_caseBySeed 142 = .ok (.iconst 1, 1) := by decide +kernel
theorem dX11_caseBySeed_143 : decode cX11_caseBySeed 143 = .ok (.iload 6, 2) := by decide +kernel
theorem dX11_caseBySeed_145 : decode cX11_caseBySeed 145 = .ok (.iadd, 1) := by decide +kernel
theorem dX11_caseBySeed_146 : decode cX11_caseBySeed 146 = .ok (.iastore, 1) := by decide +kernel
theorem dX11_caseBySeed_147 : decode cX11_caseBySeed 147 = .ok (.iinc 5 1, 3) := by decide +kernel
theorem dX11_caseBySeed_150 : decode cX11_caseBySeed 150 = .ok (.goto (-53), 3) := by decide +kernel
theorem dX11_caseBySeed_153 : decode cX11_caseBySeed 153 = .ok (.aload_n 0, 1) := by decide +kernel
theorem dX11_caseBySeed_154 : decode cX11_caseBySeed 154 = .ok (.getfield 91, 3) := by decide +kernel
theorem dX11_caseBySeed_157 : decode cX11_caseBySeed 157 = .ok (.aload_n 0, 1) := by decide +kernel
theorem dX11_caseBySeed_158 : decode cX11_caseBySeed 158 = .ok (.getfield 57, 3) := by decide +kernel
theorem dX11_caseBySeed_161 : decode cX11_caseBySeed 161 = .ok (.aload_n 0, 1) := by decide +kernel
theorem dX11_caseBySeed_162 : decode cX11_caseBySeed 162 = .ok (.getfield 67, 3) := by decide +kernel
theorem dX11_caseBySeed_165 : decode cX11_caseBySeed 165 = .ok (.invokevirtual 223, 3) := by decide +kernel
theorem dX11_caseBySeed_168 : decode cX11_caseBySeed 168 = .ok (.aload_n 0, 1) := by decide +kernel
theorem dX11_caseBySeed_169 : decode cX11_caseBySeed 169 = .ok (.getfield 91, 3) := by decide +kernel
theorem dX11_caseBySeed_172 : decode cX11_caseBySeed 172 = .ok (.iconst 0, 1) := by decide +kernel
theorem dX11_caseBySeed_173 : decode cX11_caseBySeed 173 = .ok (.invokevirtual 231, 3) := by decide +kernel
theorem dX11_caseBySeed_176 : decode cX11_caseBySeed 176 = .ok (.aload_n 0, 1) := by decide +kernel
theorem dX11_caseBySeed_177 : decode cX11_caseBySeed 177 = .ok (.getfield 91, 3) := by decide +kernel
theorem dX11_caseBySeed_180 : decode cX11_caseBySeed 180 = .ok (.iconst 1, 1) := by decide +kernel
theorem dX11_caseBySeed_181 : decode cX11_caseBySeed 181 = .ok (.invokevirtual 231, 3) := by decide +kernel
theorem dX11_caseBySeed_184 : decode cX11_caseBySeed 184 = .ok (.lcmp, 1) := by decide +kernel
theorem dX11_caseBySeed_185 : decode cX11_caseBySeed 185 = .ok (.ifCond .lt 7, 3) := by decide +kernel
theorem dX11_caseBySeed_188 : decode cX11_caseBySeed 188 = .ok (.iconst 0, 1) := by decide +kernel
theorem dX11_caseBySeed_189 : decode cX11_caseBySeed 189 = .ok (.goto 4, 3) := by decide +kernel
theorem dX11_caseBySeed_192 : decode cX11_caseBySeed 192 = .ok (.iconst 1, 1) := by decide +kernel
theorem dX11_caseBySeed_193 : decode cX11_caseBySeed 193 = .ok (.istore 5, 2) := by decide +kernel
theorem dX11_caseBySeed_195 : decode cX11_caseBySeed 195 = .ok (.iload 5, 2) := by decide +kernel
theorem dX11_caseBySeed_197 : decode cX11_caseBySeed 197 = .ok (.iload_n 1, 1) := by decide +kernel
theorem dX11_caseBySeed_198 : decode cX11_caseBySeed 198 = .ok (.if_icmp .ne 7, 3) := by decide +kernel
theorem dX11_caseBySeed_201 : decode cX11_caseBySeed 201 = .ok (.iconst 1, 1) := by decide +kernel
theorem dX11_caseBySeed_202 : decode cX11_caseBySeed 202 = .ok (.goto 4, 3) := by decide +kernel
theorem dX11_caseBySeed_205 : decode cX11_caseBySeed 205 = .ok (.iconst 0, 1) := by decide +kernel
theorem dX11_caseBySeed_206 : decode cX11_caseBySeed 206 = .ok (.istore 6, 2) := by decide +kernel
theorem dX11_caseBySeed_208 : decode cX11_caseBySeed 208 = .ok (.aload_n 0, 1) := by decide +kernel
theorem dX11_caseBySeed_209 : decode cX11_caseBySeed 209 = .ok (.iload 5, 2) := by decide +kernel
theorem dX11_caseBySeed_211 : decode cX11_caseBySeed 211 = .ok (.iload 6, 2) := by decide +kernel
theorem dX11_caseBySeed_213 : decode cX11_caseBySeed 213 = .ok (.invokevirtual 299, 3) := by decide +kernel
theorem dX11_caseBySeed_216 : decode cX11_caseBySeed 216 = .ok (.iload 6, 2) := by decide +kernel
theorem dX11_caseBySeed_218 : decode cX11_caseBySeed 218 = .ok (.ireturn, 1) := by decide +kernel
theorem kc_RX11_366 : Cond.methodLink RX11 366 yX11_drawKind ∈ ktG ∧ (Cond.instanceMethod yX11_drawKind ∈ ktG ∧ Cond.selects yX11_drawKind.cls yX11_drawKind yX11_drawKind ∈ ktG) ∧ Cond.initialized yX11_drawKind.cls ∈ ktG ∧ Cond.code yX11_drawKind cX11_drawKind 6 (some .int) ∈ ktG := ⟨(kwm 1103 (by decide +kernel) (by decide +kernel)), ⟨(kwm 1105 (by decide +kernel) (by decide +kernel)), (kwm 32 (by decide +kernel) (by decide +kernel))⟩, (kwm 123 (by decide +kernel) (by decide +kernel)), kwm 1106 (by decide +kernel) (by decide +kernel)⟩
theorem kh_X11_drawKind : yX11_drawKind.cls ≠ "java/lang/invoke/MethodHandle" ∧ yX11_drawKind.cls ≠ "java/lang/invoke/VarHandle" ∧ (parseMethodDescriptor yX11_drawKind.desc).map (fun d => d.parameters.length) = some 1 := by decide +kernel
theorem kc_RX11_370 : Cond.methodLink RX11 370 yX10_answerIn ∈ ktG ∧ (Cond.instanceMethod yX10_answerIn ∈ ktG ∧ Cond.selects yX10_answerIn.cls yX10_answerIn yX10_answerIn ∈ ktG) ∧ Cond.initialized yX10_answerIn.cls ∈ ktG ∧ Cond.code yX10_answerIn cX10_answerIn 7 (some .int) ∈ ktG := ⟨(kwm 1107 (by decide +kernel) (by decide +kernel)), ⟨(kwm 1108 (by decide +kernel) (by decide +kernel)), (kwm 1109 (by decide +kernel) (by decide +kernel))⟩, (kwm 138 (by decide +kernel) (by decide +kernel)), kwm 1110 (by decide +kernel) (by decide +kernel)⟩
theorem kh_X10_answerIn : yX10_answerIn.cls ≠ "java/lang/invoke/MethodHandle" ∧ yX10_answerIn.cls ≠ "java/lang/invoke/VarHandle" ∧ (parseMethodDescriptor yX10_answerIn.desc).map (fun d => d.parameters.length) = some 4 := by decide +kernel
def E_X11_caseBySeed_l97 (v0 : Nat) (v1 : Int32) (v2 : Int32) (v3 : Int32) (v4 : Int32) : KH → Nat → List (Nat × Value) → List Value → KH → Prop := fun (e : KH) pc ls st hh => pc = 153 ∧ ls = [(0, .ref v0), (1, .int v1)] ∧ st = [] ∧ e = hh
def B_X11_caseBySeed_l97 (v0 : Nat) (v1 : Int32) (v2 : Int32) (v3 : Int32) (v4 : Int32) : ((Int32 × KH) ⊕ (KH)) → Nat → List (Nat × Value) → List Value → KH → Prop := Sum.elim (fun (s : Int32 × KH) pc ls st hh => pc = 97 ∧ ls = [(0, .ref v0), (1, .int v1), (2, .int v2), (3, .int v3), (4, .int v4), (5, .int s.1)] ∧ st = [] ∧ hh = s.2) (E_X11_caseBySeed_l97 v0 v1 v2 v3 v4)
def f_X11_caseBySeed_b147 (h : KH) (v0 : Nat) (v1 : Int32) (v2 : Int32) (v3 : Int32) (v4 : Int32) (v5 : Int32) : Option ((Int32 × KH) ⊕ (KH)) :=
  kl (v5 + (1 : Int32)) fun x1 =>
  some (.inl (x1, h))
set_option maxHeartbeats 4000000 in
set_option maxRecDepth 100000 in
theorem s_X11_caseBySeed_b147 {Z : Nat → (Nat → Nat) → State → Prop} (h : KH) (v0 : Nat) (v1 : Int32) (v2 : Int32) (v3 : Int32) (v4 : Int32) (v5 : Int32) {t : (Int32 × KH) ⊕ (KH)} (hn : h.1 = 243) (H : f_X11_caseBySeed_b147 h v0 v1 v2 v3 v4 v5 = some t) : KX Z RX11 cX11_caseBySeed 7 false 7 (B_X11_caseBySeed_l97 v0 v1 v2 v3 v4 t) 147 [(0, .ref v0), (1, .int v1), (2, .int v2), (3, .int v3), (4, .int v4), (5, .int v5)] [] h := by
  unfold f_X11_caseBySeed_b147 at H
  replace H := kle H; obtain ⟨x1, q2, H⟩ := H
  refine x_iinc (q := 150) (i := 5) (ls2 := [(5, .int x1), (0, .ref v0), (1, .int v1), (2, .int v2), (3, .int v3), (4, .int v4)]) dX11_caseBySeed_147 rfl rfl (by decide) (by rw [q2]; rfl) ?_
  refine x_goto dX11_caseBySeed_150 (q := 97) (by decide) ?_
  cases H
  refine x_sub (ls2 := [(0, .ref v0), (1, .int v1), (2, .int v2), (3, .int v3), (4, .int v4), (5, .int x1)]) [1, 2, 3, 4, 5, 0] rfl ?_
  exact x_end (x_cfg rfl)
def f_X11_caseBySeed_l97 (v0 : Nat) (v1 : Int32) (v2 : Int32) (v3 : Int32) (v4 : Int32) (s : Int32 × KH) : Option ((Int32 × KH) ⊕ (KH)) :=
  if kkind v0 = 11 then if (kR s.2 v0 5) < 999999 then if kkind (kR s.2 v0 5) = 2 then if (kI s.2 (kR s.2 v0 5) 4) ≤ s.1 then
  some (.inr s.2)
  else
  if ((v4 >>> (s.1 &&& 31)) &&& (1 : Int32)) = 0 then
  f_X11_caseBySeed_b147 s.2 v0 v1 v2 v3 v4 s.1
  else
  if (kR s.2 v0 11) < 999999 then if kkind (kR s.2 v0 11) = 10 then kb (f_X10_answerIn s.2 (kR s.2 v0 11) v1 v2 v3 s.1) fun r8 =>
  if (kR s.2 v0 7) < 999999 then if kkind (kR s.2 v0 7) = 8 then if (kR s.2 (kR s.2 v0 7) 4) < 999999 then if kkind (kR s.2 (kR s.2 v0 7) 4) = 20 then if (s.1 < 0 ∨ klen (kR s.2 (kR s.2 v0 7) 4) ≤ (s.1).toNatClampNeg) then none else kl (ksI s.2 (kR s.2 (kR s.2 v0 7) 4) ((s.1).toNatClampNeg) ((1 : Int32) + r8)) fun h16 =>
  f_X11_caseBySeed_b147 h16 v0 v1 v2 v3 v4 s.1 else none else none else none else none else none else none else none else none else none
set_option maxHeartbeats 4000000 in
set_option maxRecDepth 100000 in
theorem s_X11_caseBySeed_l97 {Z : Nat → (Nat → Nat) → State → Prop} (v0 : Nat) (v1 : Int32) (v2 : Int32) (v3 : Int32) (v4 : Int32) (s : Int32 × KH) (t : (Int32 × KH) ⊕ (KH)) (hn : (s.2).1 = 243) (H : f_X11_caseBySeed_l97 v0 v1 v2 v3 v4 s = some t) : KX Z RX11 cX11_caseBySeed 7 false 7 (B_X11_caseBySeed_l97 v0 v1 v2 v3 v4 t) 97 [(0, .ref v0), (1, .int v1), (2, .int v2), (3, .int v3), (4, .int v4), (5, .int s.1)] [] s.2 := by
  unfold f_X11_caseBySeed_l97 at H
  refine x_iload (q := 99) dX11_caseBySeed_97 rfl rfl ?_
  refine x_aload_n (q := 100) dX11_caseBySeed_99 rfl rfl ?_
  replace H := kif H; obtain ⟨g1, H⟩ := H
  replace H := kif H; obtain ⟨g2, H⟩ := H
  refine x_getR (q := 103) dX11_caseBySeed_100 rfl kl_RX11_57 rfl (k243 g1 (by decide) hn) g2 ?_
  replace H := kif H; obtain ⟨g3, H⟩ := H
  refine x_getI (q := 106) dX11_caseBySeed_103 rfl kl_RX11_146 (Or.inl rfl) (k243 g3 (by decide) hn) ?_
  replace H := kite H; rcases H with ⟨g4, H⟩ | ⟨g4, H⟩
  · refine x_icmp_ge_t dX11_caseBySeed_106 (q := 153) (by decide) g4 ?_
    cases H
    refine x_sub (ls2 := [(0, .ref v0), (1, .int v1)]) [0, 1] rfl ?_
    exact x_end (x_cfg rfl)
  · refine x_icmp_ge_f (q := 109) dX11_caseBySeed_106 (t := 153) (by decide) rfl g4 ?_
    refine x_iload (q := 111) dX11_caseBySeed_109 rfl rfl ?_
    refine x_iload (q := 113) dX11_caseBySeed_111 rfl rfl ?_
    refine x_ishr (q := 114) dX11_caseBySeed_113 rfl ?_
    refine x_iconst (q := 115) (v := (1 : Int32)) dX11_caseBySeed_114 rfl (by decide) ?_
    refine x_iand (q := 116) dX11_caseBySeed_115 rfl ?_
    replace H := kite H; rcases H with ⟨g5, H⟩ | ⟨g5, H⟩
    · refine x_if_eq_t dX11_caseBySeed_116 (q := 147) (by decide) g5 ?_
      refine x_sub (ls2 := [(0, .ref v0), (1, .int v1), (2, .int v2), (3, .int v3), (4, .int v4), (5, .int s.1)]) [0, 1, 2, 3, 4, 5] rfl ?_
      exact s_X11_caseBySeed_b147 s.2 v0 v1 v2 v3 v4 s.1 hn H
    · refine x_if_eq_f (q := 119) dX11_caseBySeed_116 (t := 147) (by decide) rfl g5 ?_
      refine x_aload_n (q := 120) dX11_caseBySeed_119 rfl rfl ?_
      replace H := kif H; obtain ⟨g6, H⟩ := H
      refine x_getR (q := 123) dX11_caseBySeed_120 rfl kl_RX11_91 rfl (k243 g1 (by decide) hn) g6 ?_
      refine x_iload_n (q := 124) dX11_caseBySeed_123 rfl rfl ?_
      refine x_iload_n (q := 125) dX11_caseBySeed_124 rfl rfl ?_
      refine x_iload_n (q := 126) dX11_caseBySeed_125 rfl rfl ?_
      refine x_iload (q := 128) dX11_caseBySeed_126 rfl rfl ?_
      replace H := kif H; obtain ⟨g7, H⟩ := H
      replace H := kbe H; obtain ⟨r8, c9, H⟩ := H
      have m10 := s_X10_answerIn (Z := Z) s.2 (kR s.2 v0 11) v1 v2 v3 s.1 hn c9
      refine x_callV (q := 131) (as := [.int v1, .int v2, .int v3, .int s.1]) (rest := []) dX11_caseBySeed_128 rfl kc_RX11_370 kh_X10_answerIn (by decide) (Nat.le_of_ble_eq_true rfl) m10 (ci := 10) (by exact ⟨rfl, by decide⟩) (k243 g7 (by decide) hn) ?_
      refine x_istore (q := 133) (i := 6) (ls2 := [(6, .int r8), (0, .ref v0), (1, .int v1), (2, .int v2), (3, .int v3), (4, .int v4), (5, .int s.1)]) dX11_caseBySeed_131 rfl (by decide) rfl ?_
      refine x_aload_n (q := 134) dX11_caseBySeed_133 rfl rfl ?_
      replace H := kif H; obtain ⟨g11, H⟩ := H
      refine x_getR (q := 137) dX11_caseBySeed_134 rfl kl_RX11_67 rfl (k243 g1 (by decide) hn) g11 ?_
      replace H := kif H; obtain ⟨g12, H⟩ := H
      replace H := kif H; obtain ⟨g13, H⟩ := H
      refine x_getR (q := 140) dX11_caseBySeed_137 rfl kl_RX11_197 rfl (k243 g12 (by decide) hn) g13 ?_
      refine x_iload (q := 142) dX11_caseBySeed_140 rfl rfl ?_
      refine x_iconst (q := 143) (v := (1 : Int32)) dX11_caseBySeed_142 rfl (by decide) ?_
      refine x_iload (q := 145) dX11_caseBySeed_143 rfl rfl ?_
      refine x_iadd (q := 146) dX11_caseBySeed_145 rfl ?_
      replace H := kif H; obtain ⟨g14, H⟩ := H
      replace H := kifn H; obtain ⟨g15, H⟩ := H
      replace H := kle H; obtain ⟨h16, q17, H⟩ := H
      refine x_iast (q := 147) dX11_caseBySeed_146 rfl (k243 g14 (by decide) hn) g15 ?_
      refine x_nmH q17 ?_
      have n18 : h16.1 = 243 := by rw [q17]; exact hn
      refine x_sub (ls2 := [(0, .ref v0), (1, .int v1), (2, .int v2), (3, .int v3), (4, .int v4), (5, .int s.1)]) [1, 2, 3, 4, 5, 6] rfl ?_
      exact s_X11_caseBySeed_b147 h16 v0 v1 v2 v3 v4 s.1 n18 H
theorem sl_X11_caseBySeed_l97 {Z : Nat → (Nat → Nat) → State → Prop} (v0 : Nat) (v1 : Int32) (v2 : Int32) (v3 : Int32) (v4 : Int32) (n : Nat) (s : Int32 × KH) (r : KH) (hn : (s.2).1 = 243) (H : kloop (f_X11_caseBySeed_l97 v0 v1 v2 v3 v4) n s = some r) : KX Z RX11 cX11_caseBySeed 7 false 7 (E_X11_caseBySeed_l97 v0 v1 v2 v3 v4 r) 97 [(0, .ref v0), (1, .int v1), (2, .int v2), (3, .int v3), (4, .int v4), (5, .int s.1)] [] s.2 :=
  k_loop (ls := (fun (s : Int32 × KH) => ([(0, .ref v0), (1, .int v1), (2, .int v2), (3, .int v3), (4, .int v4), (5, .int s.1)] : List (Nat × Value)))) (hp := (fun (s : Int32 × KH) => (s.2 : KH))) (G := E_X11_caseBySeed_l97 v0 v1 v2 v3 v4) (fun s t hn H => s_X11_caseBySeed_l97 v0 v1 v2 v3 v4 s t hn H) n s r hn H
def f_X11_caseBySeed_b206 (h : KH) (v0 : Nat) (v5 : Int32) (w0 : Int32) : Option (Int32 × KH) :=
  if kkind v0 = 11 then kb (f_X11_closeCase h v0 v5 w0) fun r2 =>
  some (w0, r2) else none
set_option maxHeartbeats 4000000 in
set_option maxRecDepth 100000 in
theorem s_X11_caseBySeed_b206 {Z : Nat → (Nat → Nat) → State → Prop} (h : KH) (v0 : Nat) (v5 : Int32) (w0 : Int32) {t : Int32 × KH} (hn : h.1 = 243) (H : f_X11_caseBySeed_b206 h v0 v5 w0 = some t) : KX Z RX11 cX11_caseBySeed 7 false 7 (KRi cX11_caseBySeed t.1 t.2) 206 [(0, .ref v0), (5, .int v5)] [.int w0] h := by
  unfold f_X11_caseBySeed_b206 at H
  refine x_istore (q := 208) (i := 6) (ls2 := [(6, .int w0), (0, .ref v0), (5, .int v5)]) dX11_caseBySeed_206 rfl (by decide) rfl ?_
  refine x_aload_n (q := 209) dX11_caseBySeed_208 rfl rfl ?_
  refine x_iload (q := 211) dX11_caseBySeed_209 rfl rfl ?_
  refine x_iload (q := 213) dX11_caseBySeed_211 rfl rfl ?_
  replace H := kif H; obtain ⟨g1, H⟩ := H
  replace H := kbe H; obtain ⟨r2, c3, H⟩ := H
  have m4 := s_X11_closeCase (Z := Z) h v0 v5 w0 hn c3
  refine x_callV (q := 216) (as := [.int v5, .int w0]) (rest := []) dX11_caseBySeed_213 rfl kc_RX11_299 kh_X11_closeCase (by decide) (Nat.le_of_ble_eq_true rfl) m4 (ci := 11) (by exact ⟨rfl, by decide⟩) (k243 g1 (by decide) hn) ?_
  have n5 : (r2).1 = 243 := m4.1.full hn
  refine x_iload (q := 218) dX11_caseBySeed_216 rfl rfl ?_
  cases H
  exact x_end ⟨dX11_caseBySeed_218, rfl, rfl⟩
def f_X11_caseBySeed_b193 (h : KH) (v0 : Nat) (v1 : Int32) (w0 : Int32) : Option (Int32 × KH) :=
  if w0 = v1 then
  f_X11_caseBySeed_b206 h v0 w0 (1 : Int32)
  else
  f_X11_caseBySeed_b206 h v0 w0 (0 : Int32)
set_option maxHeartbeats 4000000 in
set_option maxRecDepth 100000 in
theorem s_X11_caseBySeed_b193 {Z : Nat → (Nat → Nat) → State → Prop} (h : KH) (v0 : Nat) (v1 : Int32) (w0 : Int32) {t : Int32 × KH} (hn : h.1 = 243) (H : f_X11_caseBySeed_b193 h v0 v1 w0 = some t) : KX Z RX11 cX11_caseBySeed 7 false 7 (KRi cX11_caseBySeed t.1 t.2) 193 [(0, .ref v0), (1, .int v1)] [.int w0] h := by
  unfold f_X11_caseBySeed_b193 at H
  refine x_istore (q := 195) (i := 5) (ls2 := [(5, .int w0), (0, .ref v0), (1, .int v1)]) dX11_caseBySeed_193 rfl (by decide) rfl ?_
  refine x_iload (q := 197) dX11_caseBySeed_195 rfl rfl ?_
  refine x_iload_n (q := 198) dX11_caseBySeed_197 rfl rfl ?_
  replace H := kite H; rcases H with ⟨g1, H⟩ | ⟨g1, H⟩
  · refine x_icmp_ne_f (q := 201) dX11_caseBySeed_198 (t := 205) (by decide) rfl g1 ?_
    refine x_iconst (q := 202) (v := (1 : Int32)) dX11_caseBySeed_201 rfl (by decide) ?_
    refine x_goto dX11_caseBySeed_202 (q := 206) (by decide) ?_
    refine x_sub (ls2 := [(0, .ref v0), (5, .int w0)]) [1, 0] rfl ?_
    exact s_X11_caseBySeed_b206 h v0 w0 (1 : Int32) hn H
  · refine x_icmp_ne_t dX11_caseBySeed_198 (q := 205) (by decide) g1 ?_
    refine x_iconst (q := 206) (v := (0 : Int32)) dX11_caseBySeed_205 rfl (by decide) ?_
    refine x_sub (ls2 := [(0, .ref v0), (5, .int w0)]) [1, 0] rfl ?_
    exact s_X11_caseBySeed_b206 h v0 w0 (0 : Int32) hn H
def f_X11_caseBySeed_b54 (h : KH) (v0 : Nat) (v1 : Int32) (v2 : Int32) (w0 : Nat) (w1 : Int32) : Option (Int32 × KH) :=
  if kkind w0 = 11 then kb (f_X11_drawKind h w0 w1) fun r2 =>
  if r2.1 = (-1 : Int32) then
  some ((0 : Int32), r2.2)
  else
  if kkind v0 = 11 then if (kR r2.2 v0 11) < 999999 then if (kR r2.2 v0 5) < 999999 then if (kR r2.2 v0 7) < 999999 then if kkind (kR r2.2 v0 11) = 10 then kb (f_X10_weigh r2.2 (kR r2.2 v0 11) (kR r2.2 v0 5) (kR r2.2 v0 7)) fun r12 =>
  if (kR r12 v0 11) < 999999 then if (kR r12 v0 5) < 999999 then if kkind (kR r12 v0 11) = 10 then kb (f_X10_bestSet r12 (kR r12 v0 11) (kR r12 v0 5) (0 : Int32)) fun r19 =>
  kb (kloop (f_X11_caseBySeed_l97 v0 v1 v2 r2.1 r19.1) KF ((0 : Int32), r19.2)) fun e23 =>
  if (kR e23 v0 11) < 999999 then if (kR e23 v0 5) < 999999 then if (kR e23 v0 7) < 999999 then if kkind (kR e23 v0 11) = 10 then kb (f_X10_weigh e23 (kR e23 v0 11) (kR e23 v0 5) (kR e23 v0 7)) fun r30 =>
  if (kR r30 v0 11) < 999999 then if kkind (kR r30 v0 11) = 10 then kb (f_X10_sumOf r30 (kR r30 v0 11) (0 : Int32)) fun r36 =>
  kb (f_X10_sumOf r30 (kR r30 v0 11) (1 : Int32)) fun r39 =>
  if (lg_cmp r36 r39) < 0 then
  f_X11_caseBySeed_b193 r30 v0 v1 (1 : Int32)
  else
  f_X11_caseBySeed_b193 r30 v0 v1 (0 : Int32) else none else none else none else none else none else none else none else none else none else none else none else none else none else none else none
set_option maxHeartbeats 4000000 in
set_option maxRecDepth 100000 in
theorem s_X11_caseBySeed_b54 {Z : Nat → (Nat → Nat) → State → Prop} (h : KH) (v0 : Nat) (v1 : Int32) (v2 : Int32) (w0 : Nat) (w1 : Int32) {t : Int32 × KH} (hn : h.1 = 243) (H : f_X11_caseBySeed_b54 h v0 v1 v2 w0 w1 = some t) : KX Z RX11 cX11_caseBySeed 7 false 7 (KRi cX11_caseBySeed t.1 t.2) 54 [(0, .ref v0), (1, .int v1), (2, .int v2)] [.int w1, .ref w0] h := by
  unfold f_X11_caseBySeed_b54 at H
  replace H := kif H; obtain ⟨g1, H⟩ := H
  replace H := kbe H; obtain ⟨r2, c3, H⟩ := H
  have m4 := s_X11_drawKind (Z := Z) h w0 w1 hn c3
  refine x_callV (q := 57) (as := [.int w1]) (rest := []) dX11_caseBySeed_54 rfl kc_RX11_366 kh_X11_drawKind (by decide) (Nat.le_of_ble_eq_true rfl) m4 (ci := 11) (by exact ⟨rfl, by decide⟩) (k243 g1 (by decide) hn) ?_
  have n5 : (r2.2).1 = 243 := m4.1.full hn
  refine x_istore_n (q := 58) (i := 3) (ls2 := [(3, .int r2.1), (0, .ref v0), (1, .int v1), (2, .int v2)]) dX11_caseBySeed_57 rfl rfl (by decide) rfl ?_
  refine x_iload_n (q := 59) dX11_caseBySeed_58 rfl rfl ?_
  refine x_iconst (q := 60) (v := (-1 : Int32)) dX11_caseBySeed_59 rfl (by decide) ?_
  replace H := kite H; rcases H with ⟨g6, H⟩ | ⟨g6, H⟩
  · refine x_icmp_ne_f (q := 63) dX11_caseBySeed_60 (t := 65) (by decide) rfl g6 ?_
    refine x_iconst (q := 64) (v := (0 : Int32)) dX11_caseBySeed_63 rfl (by decide) ?_
    cases H
    exact x_end ⟨dX11_caseBySeed_64, rfl, rfl⟩
  · refine x_icmp_ne_t dX11_caseBySeed_60 (q := 65) (by decide) g6 ?_
    refine x_aload_n (q := 66) dX11_caseBySeed_65 rfl rfl ?_
    replace H := kif H; obtain ⟨g7, H⟩ := H
    replace H := kif H; obtain ⟨g8, H⟩ := H
    refine x_getR (q := 69) dX11_caseBySeed_66 rfl kl_RX11_91 rfl (k243 g7 (by decide) n5) g8 ?_
    refine x_aload_n (q := 70) dX11_caseBySeed_69 rfl rfl ?_
    replace H := kif H; obtain ⟨g9, H⟩ := H
    refine x_getR (q := 73) dX11_caseBySeed_70 rfl kl_RX11_57 rfl (k243 g7 (by decide) n5) g9 ?_
    refine x_aload_n (q := 74) dX11_caseBySeed_73 rfl rfl ?_
    replace H := kif H; obtain ⟨g10, H⟩ := H
    refine x_getR (q := 77) dX11_caseBySeed_74 rfl kl_RX11_67 rfl (k243 g7 (by decide) n5) g10 ?_
    replace H := kif H; obtain ⟨g11, H⟩ := H
    replace H := kbe H; obtain ⟨r12, c13, H⟩ := H
    have m14 := s_X10_weigh (Z := Z) r2.2 (kR r2.2 v0 11) (kR r2.2 v0 5) (kR r2.2 v0 7) n5 c13
    refine x_callV (q := 80) (as := [.ref (kR r2.2 v0 5), .ref (kR r2.2 v0 7)]) (rest := []) dX11_caseBySeed_77 rfl kc_RX11_223 kh_X10_weigh (by decide) (Nat.le_of_ble_eq_true rfl) m14 (ci := 10) (by exact ⟨rfl, by decide⟩) (k243 g11 (by decide) n5) ?_
    have n15 : (r12).1 = 243 := m14.1.full n5
    refine x_aload_n (q := 81) dX11_caseBySeed_80 rfl rfl ?_
    replace H := kif H; obtain ⟨g16, H⟩ := H
    refine x_getR (q := 84) dX11_caseBySeed_81 rfl kl_RX11_91 rfl (k243 g7 (by decide) n15) g16 ?_
    refine x_aload_n (q := 85) dX11_caseBySeed_84 rfl rfl ?_
    replace H := kif H; obtain ⟨g17, H⟩ := H
    refine x_getR (q := 88) dX11_caseBySeed_85 rfl kl_RX11_57 rfl (k243 g7 (by decide) n15) g17 ?_
    refine x_iconst (q := 89) (v := (0 : Int32)) dX11_caseBySeed_88 rfl (by decide) ?_
    replace H := kif H; obtain ⟨g18, H⟩ := H
    replace H := kbe H; obtain ⟨r19, c20, H⟩ := H
    have m21 := s_X10_bestSet (Z := Z) r12 (kR r12 v0 11) (kR r12 v0 5) (0 : Int32) n15 c20
    refine x_callV (q := 92) (as := [.ref (kR r12 v0 5), .int (0 : Int32)]) (rest := []) dX11_caseBySeed_89 rfl kc_RX11_254 kh_X10_bestSet (by decide) (Nat.le_of_ble_eq_true rfl) m21 (ci := 10) (by exact ⟨rfl, by decide⟩) (k243 g18 (by decide) n15) ?_
    have n22 : (r19.2).1 = 243 := m21.1.full n15
    refine x_istore (q := 94) (i := 4) (ls2 := [(4, .int r19.1), (3, .int r2.1), (0, .ref v0), (1, .int v1), (2, .int v2)]) dX11_caseBySeed_92 rfl (by decide) rfl ?_
    refine x_iconst (q := 95) (v := (0 : Int32)) dX11_caseBySeed_94 rfl (by decide) ?_
    refine x_istore (q := 97) (i := 5) (ls2 := [(5, .int (0 : Int32)), (4, .int r19.1), (3, .int r2.1), (0, .ref v0), (1, .int v1), (2, .int v2)]) dX11_caseBySeed_95 rfl (by decide) rfl ?_
    refine x_sub (ls2 := [(0, .ref v0), (1, .int v1), (2, .int v2), (3, .int r2.1), (4, .int r19.1), (5, .int (0 : Int32))]) [3, 4, 5, 2, 1, 0] rfl ?_
    replace H := kbe H; obtain ⟨e23, c24, H⟩ := H
    refine x_app (sl_X11_caseBySeed_l97 v0 v1 v2 r2.1 r19.1 KF ((0 : Int32), r19.2) e23 n22 c24) fun pc2 ls2 st2 h2 hg m25 => ?_
    obtain ⟨rfl, rfl, rfl, rfl⟩ := hg
    refine x_aload_n (q := 154) dX11_caseBySeed_153 rfl rfl ?_
    replace H := kif H; obtain ⟨g26, H⟩ := H
    refine x_getR (q := 157) dX11_caseBySeed_154 rfl kl_RX11_91 rfl (k243 g7 (by decide) (m25.full n22)) g26 ?_
    refine x_aload_n (q := 158) dX11_caseBySeed_157 rfl rfl ?_
    replace H := kif H; obtain ⟨g27, H⟩ := H
    refine x_getR (q := 161) dX11_caseBySeed_158 rfl kl_RX11_57 rfl (k243 g7 (by decide) (m25.full n22)) g27 ?_
    refine x_aload_n (q := 162) dX11_caseBySeed_161 rfl rfl ?_
    replace H := kif H; obtain ⟨g28, H⟩ := H
    refine x_getR (q := 165) dX11_caseBySeed_162 rfl kl_RX11_67 rfl (k243 g7 (by decide) (m25.full n22)) g28 ?_
    replace H := kif H; obtain ⟨g29, H⟩ := H
    replace H := kbe H; obtain ⟨r30, c31, H⟩ := H
    have m32 := s_X10_weigh (Z := Z) e23 (kR e23 v0 11) (kR e23 v0 5) (kR e23 v0 7) (m25.full n22) c31
    refine x_callV (q := 168) (as := [.ref (kR e23 v0 5), .ref (kR e23 v0 7)]) (rest := []) dX11_caseBySeed_165 rfl kc_RX11_223 kh_X10_weigh (by decide) (Nat.le_of_ble_eq_true rfl) m32 (ci := 10) (by exact ⟨rfl, by decide⟩) (k243 g29 (by decide) (m25.full n22)) ?_
    have n33 : (r30).1 = 243 := m32.1.full (m25.full n22)
    refine x_aload_n (q := 169) dX11_caseBySeed_168 rfl rfl ?_
    replace H := kif H; obtain ⟨g34, H⟩ := H
    refine x_getR (q := 172) dX11_caseBySeed_169 rfl kl_RX11_91 rfl (k243 g7 (by decide) n33) g34 ?_
    refine x_iconst (q := 173) (v := (0 : Int32)) dX11_caseBySeed_172 rfl (by decide) ?_
    replace H := kif H; obtain ⟨g35, H⟩ := H
    replace H := kbe H; obtain ⟨r36, c37, H⟩ := H
    have m38 := s_X10_sumOf (Z := Z) r30 (kR r30 v0 11) (0 : Int32) n33 c37
    refine x_callV (q := 176) (as := [.int (0 : Int32)]) (rest := []) dX11_caseBySeed_173 rfl kc_RX11_231 kh_X10_sumOf (by decide) (Nat.le_of_ble_eq_true rfl) m38 (ci := 10) (by exact ⟨rfl, by decide⟩) (k243 g35 (by decide) n33) ?_
    refine x_aload_n (q := 177) dX11_caseBySeed_176 rfl rfl ?_
    refine x_getR (q := 180) dX11_caseBySeed_177 rfl kl_RX11_91 rfl (k243 g7 (by decide) n33) g34 ?_
    refine x_iconst (q := 181) (v := (1 : Int32)) dX11_caseBySeed_180 rfl (by decide) ?_
    replace H := kbe H; obtain ⟨r39, c40, H⟩ := H
    have m41 := s_X10_sumOf (Z := Z) r30 (kR r30 v0 11) (1 : Int32) n33 c40
    refine x_callV (q := 184) (as := [.int (1 : Int32)]) (rest := [.long r36]) dX11_caseBySeed_181 rfl kc_RX11_231 kh_X10_sumOf (by decide) (Nat.le_of_ble_eq_true rfl) m41 (ci := 10) (by exact ⟨rfl, by decide⟩) (k243 g35 (by decide) n33) ?_
    refine x_lcmp (q := 185) dX11_caseBySeed_184 rfl ?_
    replace H := kite H; rcases H with ⟨g42, H⟩ | ⟨g42, H⟩
    · refine x_if_lt_t dX11_caseBySeed_185 (q := 192) (by decide) g42 ?_
      refine x_iconst (q := 193) (v := (1 : Int32)) dX11_caseBySeed_192 rfl (by decide) ?_
      refine x_sub (ls2 := [(0, .ref v0), (1, .int v1)]) [0, 1] rfl ?_
      exact s_X11_caseBySeed_b193 r30 v0 v1 (1 : Int32) n33 H
    · refine x_if_lt_f (q := 188) dX11_caseBySeed_185 (t := 192) (by decide) rfl g42 ?_
      refine x_iconst (q := 189) (v := (0 : Int32)) dX11_caseBySeed_188 rfl (by decide) ?_
      refine x_goto dX11_caseBySeed_189 (q := 193) (by decide) ?_
      refine x_sub (ls2 := [(0, .ref v0), (1, .int v1)]) [0, 1] rfl ?_
      exact s_X11_caseBySeed_b193 r30 v0 v1 (0 : Int32) n33 H
def f_X11_caseBySeed_b32 (h : KH) (v0 : Nat) (v1 : Int32) (w0 : Nat) (w1 : Int32) : Option (Int32 × KH) :=
  if kkind w0 = 11 then kb (f_X11_drawKind h w0 w1) fun r2 =>
  if r2.1 = (-1 : Int32) then
  some ((0 : Int32), r2.2)
  else
  if v1 = (1 : Int32) then
  f_X11_caseBySeed_b54 r2.2 v0 v1 r2.1 v0 (1 : Int32)
  else
  f_X11_caseBySeed_b54 r2.2 v0 v1 r2.1 v0 (0 : Int32) else none
set_option maxHeartbeats 4000000 in
set_option maxRecDepth 100000 in
theorem s_X11_caseBySeed_b32 {Z : Nat → (Nat → Nat) → State → Prop} (h : KH) (v0 : Nat) (v1 : Int32) (w0 : Nat) (w1 : Int32) {t : Int32 × KH} (hn : h.1 = 243) (H : f_X11_caseBySeed_b32 h v0 v1 w0 w1 = some t) : KX Z RX11 cX11_caseBySeed 7 false 7 (KRi cX11_caseBySeed t.1 t.2) 32 [(0, .ref v0), (1, .int v1)] [.int w1, .ref w0] h := by
  unfold f_X11_caseBySeed_b32 at H
  replace H := kif H; obtain ⟨g1, H⟩ := H
  replace H := kbe H; obtain ⟨r2, c3, H⟩ := H
  have m4 := s_X11_drawKind (Z := Z) h w0 w1 hn c3
  refine x_callV (q := 35) (as := [.int w1]) (rest := []) dX11_caseBySeed_32 rfl kc_RX11_366 kh_X11_drawKind (by decide) (Nat.le_of_ble_eq_true rfl) m4 (ci := 11) (by exact ⟨rfl, by decide⟩) (k243 g1 (by decide) hn) ?_
  have n5 : (r2.2).1 = 243 := m4.1.full hn
  refine x_istore_n (q := 36) (i := 2) (ls2 := [(2, .int r2.1), (0, .ref v0), (1, .int v1)]) dX11_caseBySeed_35 rfl rfl (by decide) rfl ?_
  refine x_iload_n (q := 37) dX11_caseBySeed_36 rfl rfl ?_
  refine x_iconst (q := 38) (v := (-1 : Int32)) dX11_caseBySeed_37 rfl (by decide) ?_
  replace H := kite H; rcases H with ⟨g6, H⟩ | ⟨g6, H⟩
  · refine x_icmp_ne_f (q := 41) dX11_caseBySeed_38 (t := 43) (by decide) rfl g6 ?_
    refine x_iconst (q := 42) (v := (0 : Int32)) dX11_caseBySeed_41 rfl (by decide) ?_
    cases H
    exact x_end ⟨dX11_caseBySeed_42, rfl, rfl⟩
  · refine x_icmp_ne_t dX11_caseBySeed_38 (q := 43) (by decide) g6 ?_
    refine x_aload_n (q := 44) dX11_caseBySeed_43 rfl rfl ?_
    refine x_iload_n (q := 45) dX11_caseBySeed_44 rfl rfl ?_
    refine x_iconst (q := 46) (v := (1 : Int32)) dX11_caseBySeed_45 rfl (by decide) ?_
    replace H := kite H; rcases H with ⟨g7, H⟩ | ⟨g7, H⟩
    · refine x_icmp_ne_f (q := 49) dX11_caseBySeed_46 (t := 53) (by decide) rfl g7 ?_
      refine x_iconst (q := 50) (v := (1 : Int32)) dX11_caseBySeed_49 rfl (by decide) ?_
      refine x_goto dX11_caseBySeed_50 (q := 54) (by decide) ?_
      refine x_sub (ls2 := [(0, .ref v0), (1, .int v1), (2, .int r2.1)]) [1, 2, 0] rfl ?_
      exact s_X11_caseBySeed_b54 r2.2 v0 v1 r2.1 v0 (1 : Int32) n5 H
    · refine x_icmp_ne_t dX11_caseBySeed_46 (q := 53) (by decide) g7 ?_
      refine x_iconst (q := 54) (v := (0 : Int32)) dX11_caseBySeed_53 rfl (by decide) ?_
      refine x_sub (ls2 := [(0, .ref v0), (1, .int v1), (2, .int r2.1)]) [1, 2, 0] rfl ?_
      exact s_X11_caseBySeed_b54 r2.2 v0 v1 r2.1 v0 (0 : Int32) n5 H
def f_X11_caseBySeed_b21 (h : KH) (v0 : Nat) (w0 : Int32) : Option (Int32 × KH) :=
  if w0 = 0 then
  f_X11_caseBySeed_b32 h v0 w0 v0 (1 : Int32)
  else
  f_X11_caseBySeed_b32 h v0 w0 v0 (0 : Int32)
set_option maxHeartbeats 4000000 in
set_option maxRecDepth 100000 in
theorem s_X11_caseBySeed_b21 {Z : Nat → (Nat → Nat) → State → Prop} (h : KH) (v0 : Nat) (w0 : Int32) {t : Int32 × KH} (hn : h.1 = 243) (H : f_X11_caseBySeed_b21 h v0 w0 = some t) : KX Z RX11 cX11_caseBySeed 7 false 7 (KRi cX11_caseBySeed t.1 t.2) 21 [(0, .ref v0)] [.int w0] h := by
  unfold f_X11_caseBySeed_b21 at H
  refine x_istore_n (q := 22) (i := 1) (ls2 := [(1, .int w0), (0, .ref v0)]) dX11_caseBySeed_21 rfl rfl (by decide) rfl ?_
  refine x_aload_n (q := 23) dX11_caseBySeed_22 rfl rfl ?_
  refine x_iload_n (q := 24) dX11_caseBySeed_23 rfl rfl ?_
  replace H := kite H; rcases H with ⟨g1, H⟩ | ⟨g1, H⟩
  · refine x_if_ne_f (q := 27) dX11_caseBySeed_24 (t := 31) (by decide) rfl g1 ?_
    refine x_iconst (q := 28) (v := (1 : Int32)) dX11_caseBySeed_27 rfl (by decide) ?_
    refine x_goto dX11_caseBySeed_28 (q := 32) (by decide) ?_
    refine x_sub (ls2 := [(0, .ref v0), (1, .int w0)]) [1, 0] rfl ?_
    exact s_X11_caseBySeed_b32 h v0 w0 v0 (1 : Int32) hn H
  · refine x_if_ne_t dX11_caseBySeed_24 (q := 31) (by decide) g1 ?_
    refine x_iconst (q := 32) (v := (0 : Int32)) dX11_caseBySeed_31 rfl (by decide) ?_
    refine x_sub (ls2 := [(0, .ref v0), (1, .int w0)]) [1, 0] rfl ?_
    exact s_X11_caseBySeed_b32 h v0 w0 v0 (0 : Int32) hn H
def f_X11_caseBySeed (h : KH) (v0 : Nat) : Option (Int32 × KH) :=
  if kkind v0 = 11 then kb (f_X11_draw h v0 (100 : Int32)) fun r2 =>
  if (kR r2.2 v0 5) < 999999 then if kkind (kR r2.2 v0 5) = 2 then if (kI r2.2 (kR r2.2 v0 5) 6) ≤ r2.1 then
  f_X11_caseBySeed_b21 r2.2 v0 (1 : Int32)
  else
  f_X11_caseBySeed_b21 r2.2 v0 (0 : Int32) else none else none else none
set_option maxHeartbeats 4000000 in
set_option maxRecDepth 100000 in
theorem s0_X11_caseBySeed {Z : Nat → (Nat → Nat) → State → Prop} (h : KH) (v0 : Nat) {t : Int32 × KH} (hn : h.1 = 243) (H : f_X11_caseBySeed h v0 = some t) : KX Z RX11 cX11_caseBySeed 7 false 7 (KRi cX11_caseBySeed t.1 t.2) 0 [(0, .ref v0)] [] h := by
  unfold f_X11_caseBySeed at H
  refine x_aload_n (q := 1) dX11_caseBySeed_0 rfl rfl ?_
  refine x_bipush (q := 3) (v := (100 : Int32)) dX11_caseBySeed_1 rfl (by decide) ?_
  replace H := kif H; obtain ⟨g1, H⟩ := H
  replace H := kbe H; obtain ⟨r2, c3, H⟩ := H
  have m4 := s_X11_draw (Z := Z) h v0 (100 : Int32) hn c3
  refine x_callV (q := 6) (as := [.int (100 : Int32)]) (rest := []) dX11_caseBySeed_3 rfl kc_RX11_363 kh_X11_draw (by decide) (Nat.le_of_ble_eq_true rfl) m4 (ci := 11) (by exact ⟨rfl, by decide⟩) (k243 g1 (by decide) hn) ?_
  have n5 : (r2.2).1 = 243 := m4.1.full hn
  refine x_aload_n (q := 7) dX11_caseBySeed_6 rfl rfl ?_
  replace H := kif H; obtain ⟨g6, H⟩ := H
  refine x_getR (q := 10) dX11_caseBySeed_7 rfl kl_RX11_57 rfl (k243 g1 (by decide) n5) g6 ?_
  replace H := kif H; obtain ⟨g7, H⟩ := H
  refine x_getI (q := 13) dX11_caseBySeed_10 rfl kl_RX11_152 (Or.inl rfl) (k243 g7 (by decide) n5) ?_
  replace H := kite H; rcases H with ⟨g8, H⟩ | ⟨g8, H⟩
  · refine x_icmp_ge_t dX11_caseBySeed_13 (q := 20) (by decide) g8 ?_
    refine x_iconst (q := 21) (v := (1 : Int32)) dX11_caseBySeed_20 rfl (by decide) ?_
    refine x_sub (ls2 := [(0, .ref v0)]) [0] rfl ?_
    exact s_X11_caseBySeed_b21 r2.2 v0 (1 : Int32) n5 H
  · refine x_icmp_ge_f (q := 16) dX11_caseBySeed_13 (t := 20) (by decide) rfl g8 ?_
    refine x_iconst (q := 17) (v := (0 : Int32)) dX11_caseBySeed_16 rfl (by decide) ?_
    refine x_goto dX11_caseBySeed_17 (q := 21) (by decide) ?_
    refine x_sub (ls2 := [(0, .ref v0)]) [0] rfl ?_
    exact s_X11_caseBySeed_b21 r2.2 v0 (0 : Int32) n5 H
theorem s_X11_caseBySeed {Z : Nat → (Nat → Nat) → State → Prop} (h : KH) (v0 : Nat) {t : Int32 × KH} (hn : h.1 = 243) (H : f_X11_caseBySeed h v0 = some t) : KM Z yX11_caseBySeed cX11_caseBySeed 7 (some .int) 7 [.ref v0] h (some (.int t.1)) t.2 :=
  kx_i (own := RX11) (ini := false) (by decide +kernel) (by decide +kernel) rfl (Nat.le_of_ble_eq_true rfl) (s0_X11_caseBySeed h v0 hn H)
