-- methods as functions, and that the machine does as they say (by wip/whole/gen_all.py): X12_qWordHere, X12_qWordOf, X12_qAsksWord, X12_qDrops, X12_qEndsPart, X12_qPartTold, X12_qIsBracket, X12_qBracket, X12_qDropsToBracket, X12_qIsOn, X12_qGoesOn, X12_qSums, X12_qFact, X12_qDropsNots
theorem dX12_qWordHere_0 : decode cX12_qWordHere 0 = .ok (.aload_n 0, 1) := by decide +kernel
theorem dX12_qWordHere_1 : decode cX12_qWordHere 1 = .ok (.aload_n 0, 1) := by decide +kernel
theorem dX12_qWordHere_2 : decode cX12_qWordHere 2 = .ok (.getfield 188, 3) := by decide +kernel
theorem dX12_qWordHere_5 : decode cX12_qWordHere 5 = .ok (.invokevirtual 253, 3) := by decide +kernel
theorem dX12_qWordHere_8 : decode cX12_qWordHere 8 = .ok (.ifCond .eq 5, 3) := by decide +kernel
theorem dX12_qWordHere_11 : decode cX12_qWordHere 11 = .ok (.iconst 0, 1) := by decide +kernel
theorem dX12_qWordHere_12 : decode cX12_qWordHere 12 = .ok (.ireturn, 1) := by decide +kernel
theorem dX12_qWordHere_13 : decode cX12_qWordHere 13 = .ok (.aload_n 0, 1) := by decide +kernel
theorem dX12_qWordHere_14 : decode cX12_qWordHere 14 = .ok (.aload_n 0, 1) := by decide +kernel
theorem dX12_qWordHere_15 : decode cX12_qWordHere 15 = .ok (.getfield 191, 3) := by decide +kernel
theorem dX12_qWordHere_18 : decode cX12_qWordHere 18 = .ok (.invokevirtual 253, 3) := by decide +kernel
theorem dX12_qWordHere_21 : decode cX12_qWordHere 21 = .ok (.ifCond .eq 5, 3) := by decide +kernel
theorem dX12_qWordHere_24 : decode cX12_qWordHere 24 = .ok (.iconst 1, 1) := by decide +kernel
theorem dX12_qWordHere_25 : decode cX12_qWordHere 25 = .ok (.ireturn, 1) := by decide +kernel
theorem dX12_qWordHere_26 : decode cX12_qWordHere 26 = .ok (.aload_n 0, 1) := by decide +kernel
theorem dX12_qWordHere_27 : decode cX12_qWordHere 27 = .ok (.aload_n 0, 1) := by decide +kernel
theorem dX12_qWordHere_28 : decode cX12_qWordHere 28 = .ok (.getfield 194, 3) := by decide +kernel
theorem dX12_qWordHere_31 : decode cX12_qWordHere 31 = .ok (.invokevirtual 253, 3) := by decide +kernel
theorem dX12_qWordHere_34 : decode cX12_qWordHere 34 = .ok (.ifCond .eq 5, 3) := by decide +kernel
theorem dX12_qWordHere_37 : decode cX12_qWordHere 37 = .ok (.iconst 2, 1) := by decide +kernel
theorem dX12_qWordHere_38 : decode cX12_qWordHere 38 = .ok (.ireturn, 1) := by decide +kernel
theorem dX12_qWordHere_39 : decode cX12_qWordHere 39 = .ok (.aload_n 0, 1) := by decide +kernel
theorem dX12_qWordHere_40 : decode cX12_qWordHere 40 = .ok (.aload_n 0, 1) := by decide +kernel
theorem dX12_qWordHere_41 : decode cX12_qWordHere 41 = .ok (.getfield 197, 3) := by decide +kernel
theorem dX12_qWordHere_44 : decode cX12_qWordHere 44 = .ok (.invokevirtual 253, 3) := by decide +kernel
theorem dX12_qWordHere_47 : decode cX12_qWordHere 47 = .ok (.ifCond .eq 5, 3) := by decide +kernel
theorem dX12_qWordHere_50 : decode cX12_qWordHere 50 = .ok (.iconst 3, 1) := by decide +kernel
theorem dX12_qWordHere_51 : decode cX12_qWordHere 51 = .ok (.ireturn, 1) := by decide +kernel
theorem dX12_qWordHere_52 : decode cX12_qWordHere 52 = .ok (.aload_n 0, 1) := by decide +kernel
theorem dX12_qWordHere_53 : decode cX12_qWordHere 53 = .ok (.aload_n 0, 1) := by decide +kernel
theorem dX12_qWordHere_54 : decode cX12_qWordHere 54 = .ok (.getfield 200, 3) := by decide +kernel
theorem dX12_qWordHere_57 : decode cX12_qWordHere 57 = .ok (.invokevirtual 253, 3) := by decide +kernel
theorem dX12_qWordHere_60 : decode cX12_qWordHere 60 = .ok (.ifCond .eq 5, 3) := by decide +kernel
theorem dX12_qWordHere_63 : decode cX12_qWordHere 63 = .ok (.iconst 4, 1) := by decide +kernel
theorem dX12_qWordHere_64 : decode cX12_qWordHere 64 = .ok (.ireturn, 1) := by decide +kernel
theorem dX12_qWordHere_65 : decode cX12_qWordHere 65 = .ok (.aload_n 0, 1) := by decide +kernel
theorem dX12_qWordHere_66 : decode cX12_qWordHere 66 = .ok (.aload_n 0, 1) := by decide +kernel
theorem dX12_qWordHere_67 : decode cX12_qWordHere 67 = .ok (.getfield 203, 3) := by decide +kernel
theorem dX12_qWordHere_70 : decode cX12_qWordHere 70 = .ok (.invokevirtual 253, 3) := by decide +kernel
theorem dX12_qWordHere_73 : decode cX12_qWordHere 73 = .ok (.ifCond .eq 5, 3) := by decide +kernel
theorem dX12_qWordHere_76 : decode cX12_qWordHere 76 = .ok (.iconst 5, 1) := by decide +kernel
theorem dX12_qWordHere_77 : decode cX12_qWordHere 77 = .ok (.ireturn, 1) := by decide +kernel
theorem dX12_qWordHere_78 : decode cX12_qWordHere 78 = .ok (.aload_n 0, 1) := by decide +kernel
theorem dX12_qWordHere_79 : decode cX12_qWordHere 79 = .ok (.aload_n 0, 1) := by decide +kernel
theorem dX12_qWordHere_80 : decode cX12_qWordHere 80 = .ok (.getfield 206, 3) := by decide +kernel
theorem dX12_qWordHere_83 : decode cX12_qWordHere 83 = .ok (.invokevirtual 253, 3) := by decide +kernel
theorem dX12_qWordHere_86 : decode cX12_qWordHere 86 = .ok (.ifCond .eq 6, 3) := by decide +kernel
theorem dX12_qWordHere_89 : decode cX12_qWordHere 89 = .ok (.bipush 6, 2) := by decide +kernel
theorem dX12_qWordHere_91 : decode cX12_qWordHere 91 = .ok (.ireturn, 1) := by decide +kernel
theorem dX12_qWordHere_92 : decode cX12_qWordHere 92 = .ok (.aload_n 0, 1) := by decide +kernel
theorem dX12_qWordHere_93 : decode cX12_qWordHere 93 = .ok (.aload_n 0, 1) := by decide +kernel
theorem dX12_qWordHere_94 : decode cX12_qWordHere 94 = .ok (.getfield 209, 3) := by decide +kernel
theorem dX12_qWordHere_97 : decode cX12_qWordHere 97 = .ok (.invokevirtual 253, 3) := by decide +kernel
theorem dX12_qWordHere_100 : decode cX12_qWordHere 100 = .ok (.ifCond .eq 6, 3) := by decide +kernel
theorem dX12_qWordHere_103 : decode cX12_qWordHere 103 = .ok (.bipush 7, 2) := by decide +kernel
theorem dX12_qWordHere_105 : decode cX12_qWordHere 105 = .ok (.ireturn, 1) := by decide +kernel
theorem dX12_qWordHere_106 : decode cX12_qWordHere 106 = .ok (.aload_n 0, 1) := by decide +kernel
theorem dX12_qWordHere_107 : decode cX12_qWordHere 107 = .ok (.aload_n 0, 1) := by decide +kernel
theorem dX12_qWordHere_108 : decode cX12_qWordHere 108 = .ok (.getfield 212, 3) := by decide +kernel
theorem dX12_qWordHere_111 : decode cX12_qWordHere 111 = .ok (.invokevirtual 253, 3) := by decide +kernel
theorem dX12_qWordHere_114 : decode cX12_qWordHere 114 = .ok (.ifCond .eq 6, 3) := by decide +kernel
theorem dX12_qWordHere_117 : decode cX12_qWordHere 117 = .ok (.bipush 8, 2) := by decide +kernel
theorem dX12_qWordHere_119 : decode cX12_qWordHere 119 = .ok (.ireturn, 1) := by decide +kernel
theorem dX12_qWordHere_120 : decode cX12_qWordHere 120 = .ok (.iconst (-1), 1) := by decide +kernel
theorem dX12_qWordHere_121 : decode cX12_qWordHere 121 = .ok (.ireturn, 1) := by decide +kernel
theorem kl_RX12_188 : KLk RX12 188 12 76 := ⟨RX12, TX12, 97, rfl, by decide, Or.inl (kwm 1273 (by decide +kernel) (by decide +kernel))⟩
theorem kl_RX12_191 : KLk RX12 191 12 77 := ⟨RX12, TX12, 97, rfl, by decide, Or.inl (kwm 1274 (by decide +kernel) (by decide +kernel))⟩
theorem kl_RX12_194 : KLk RX12 194 12 78 := ⟨RX12, TX12, 97, rfl, by decide, Or.inl (kwm 1275 (by decide +kernel) (by decide +kernel))⟩
theorem kl_RX12_197 : KLk RX12 197 12 79 := ⟨RX12, TX12, 97, rfl, by decide, Or.inl (kwm 1276 (by decide +kernel) (by decide +kernel))⟩
theorem kl_RX12_200 : KLk RX12 200 12 80 := ⟨RX12, TX12, 97, rfl, by decide, Or.inl (kwm 1277 (by decide +kernel) (by decide +kernel))⟩
theorem kl_RX12_203 : KLk RX12 203 12 81 := ⟨RX12, TX12, 97, rfl, by decide, Or.inl (kwm 1278 (by decide +kernel) (by decide +kernel))⟩
theorem kl_RX12_206 : KLk RX12 206 12 82 := ⟨RX12, TX12, 97, rfl, by decide, Or.inl (kwm 1279 (by decide +kernel) (by decide +kernel))⟩
theorem kl_RX12_209 : KLk RX12 209 12 83 := ⟨RX12, TX12, 97, rfl, by decide, Or.inl (kwm 1280 (by decide +kernel) (by decide +kernel))⟩
theorem kl_RX12_212 : KLk RX12 212 12 84 := ⟨RX12, TX12, 97, rfl, by decide, Or.inl (kwm 1281 (by decide +kernel) (by decide +kernel))⟩
def f_X12_qWordHere (h : KH) (v0 : Nat) : Option (Int32 × KH) :=
  if kkind v0 = 12 then if (kR h v0 76) < 999999 then kb (f_X12_isHere h v0 (kR h v0 76)) fun r3 =>
  if r3.1 = 0 then
  if (kR r3.2 v0 77) < 999999 then kb (f_X12_isHere r3.2 v0 (kR r3.2 v0 77)) fun r9 =>
  if r9.1 = 0 then
  if (kR r9.2 v0 78) < 999999 then kb (f_X12_isHere r9.2 v0 (kR r9.2 v0 78)) fun r15 =>
  if r15.1 = 0 then
  if (kR r15.2 v0 79) < 999999 then kb (f_X12_isHere r15.2 v0 (kR r15.2 v0 79)) fun r21 =>
  if r21.1 = 0 then
  if (kR r21.2 v0 80) < 999999 then kb (f_X12_isHere r21.2 v0 (kR r21.2 v0 80)) fun r27 =>
  if r27.1 = 0 then
  if (kR r27.2 v0 81) < 999999 then kb (f_X12_isHere r27.2 v0 (kR r27.2 v0 81)) fun r33 =>
  if r33.1 = 0 then
  if (kR r33.2 v0 82) < 999999 then kb (f_X12_isHere r33.2 v0 (kR r33.2 v0 82)) fun r39 =>
  if r39.1 = 0 then
  if (kR r39.2 v0 83) < 999999 then kb (f_X12_isHere r39.2 v0 (kR r39.2 v0 83)) fun r45 =>
  if r45.1 = 0 then
  if (kR r45.2 v0 84) < 999999 then kb (f_X12_isHere r45.2 v0 (kR r45.2 v0 84)) fun r51 =>
  if r51.1 = 0 then
  some ((-1 : Int32), r51.2)
  else
  some ((8 : Int32), r51.2) else none
  else
  some ((7 : Int32), r45.2) else none
  else
  some ((6 : Int32), r39.2) else none
  else
  some ((5 : Int32), r33.2) else none
  else
  some ((4 : Int32), r27.2) else none
  else
  some ((3 : Int32), r21.2) else none
  else
  some ((2 : Int32), r15.2) else none
  else
  some ((1 : Int32), r9.2) else none
  else
  some ((0 : Int32), r3.2) else none else none
set_option maxHeartbeats 4000000 in
set_option maxRecDepth 100000 in
theorem s0_X12_qWordHere {Z : Nat → (Nat → Nat) → State → Prop} (h : KH) (v0 : Nat) {t : Int32 × KH} (hn : h.1 = 243) (H : f_X12_qWordHere h v0 = some t) : KX Z RX12 cX12_qWordHere 1 false 3 (KRi cX12_qWordHere t.1 t.2) 0 [(0, .ref v0)] [] h := by
  unfold f_X12_qWordHere at H
  refine x_aload_n (q := 1) dX12_qWordHere_0 rfl rfl ?_
  refine x_aload_n (q := 2) dX12_qWordHere_1 rfl rfl ?_
  replace H := kif H; obtain ⟨g1, H⟩ := H
  replace H := kif H; obtain ⟨g2, H⟩ := H
  refine x_getR (q := 5) dX12_qWordHere_2 rfl kl_RX12_188 rfl (k243 g1 (by decide) hn) g2 ?_
  replace H := kbe H; obtain ⟨r3, c4, H⟩ := H
  have m5 := s_X12_isHere (Z := Z) h v0 (kR h v0 76) hn c4
  refine x_callV (q := 8) (as := [.ref (kR h v0 76)]) (rest := []) dX12_qWordHere_5 rfl kc_RX12_253 kh_X12_isHere (by decide) (Nat.le_of_ble_eq_true rfl) m5 (ci := 12) (by exact ⟨rfl, by decide⟩) (k243 g1 (by decide) hn) ?_
  have n6 : (r3.2).1 = 243 := m5.1.full hn
  replace H := kite H; rcases H with ⟨g7, H⟩ | ⟨g7, H⟩
  · refine x_if_eq_t dX12_qWordHere_8 (q := 13) (by decide) g7 ?_
    refine x_aload_n (q := 14) dX12_qWordHere_13 rfl rfl ?_
    refine x_aload_n (q := 15) dX12_qWordHere_14 rfl rfl ?_
    replace H := kif H; obtain ⟨g8, H⟩ := H
    refine x_getR (q := 18) dX12_qWordHere_15 rfl kl_RX12_191 rfl (k243 g1 (by decide) n6) g8 ?_
    replace H := kbe H; obtain ⟨r9, c10, H⟩ := H
    have m11 := s_X12_isHere (Z := Z) r3.2 v0 (kR r3.2 v0 77) n6 c10
    refine x_callV (q := 21) (as := [.ref (kR r3.2 v0 77)]) (rest := []) dX12_qWordHere_18 rfl kc_RX12_253 kh_X12_isHere (by decide) (Nat.le_of_ble_eq_true rfl) m11 (ci := 12) (by exact ⟨rfl, by decide⟩) (k243 g1 (by decide) n6) ?_
    have n12 : (r9.2).1 = 243 := m11.1.full n6
    replace H := kite H; rcases H with ⟨g13, H⟩ | ⟨g13, H⟩
    · refine x_if_eq_t dX12_qWordHere_21 (q := 26) (by decide) g13 ?_
      refine x_aload_n (q := 27) dX12_qWordHere_26 rfl rfl ?_
      refine x_aload_n (q := 28) dX12_qWordHere_27 rfl rfl ?_
      replace H := kif H; obtain ⟨g14, H⟩ := H
      refine x_getR (q := 31) dX12_qWordHere_28 rfl kl_RX12_194 rfl (k243 g1 (by decide) n12) g14 ?_
      replace H := kbe H; obtain ⟨r15, c16, H⟩ := H
      have m17 := s_X12_isHere (Z := Z) r9.2 v0 (kR r9.2 v0 78) n12 c16
      refine x_callV (q := 34) (as := [.ref (kR r9.2 v0 78)]) (rest := []) dX12_qWordHere_31 rfl kc_RX12_253 kh_X12_isHere (by decide) (Nat.le_of_ble_eq_true rfl) m17 (ci := 12) (by exact ⟨rfl, by decide⟩) (k243 g1 (by decide) n12) ?_
      have n18 : (r15.2).1 = 243 := m17.1.full n12
      replace H := kite H; rcases H with ⟨g19, H⟩ | ⟨g19, H⟩
      · refine x_if_eq_t dX12_qWordHere_34 (q := 39) (by decide) g19 ?_
        refine x_aload_n (q := 40) dX12_qWordHere_39 rfl rfl ?_
        refine x_aload_n (q := 41) dX12_qWordHere_40 rfl rfl ?_
        replace H := kif H; obtain ⟨g20, H⟩ := H
        refine x_getR (q := 44) dX12_qWordHere_41 rfl kl_RX12_197 rfl (k243 g1 (by decide) n18) g20 ?_
        replace H := kbe H; obtain ⟨r21, c22, H⟩ := H
        have m23 := s_X12_isHere (Z := Z) r15.2 v0 (kR r15.2 v0 79) n18 c22
        refine x_callV (q := 47) (as := [.ref (kR r15.2 v0 79)]) (rest := []) dX12_qWordHere_44 rfl kc_RX12_253 kh_X12_isHere (by decide) (Nat.le_of_ble_eq_true rfl) m23 (ci := 12) (by exact ⟨rfl, by decide⟩) (k243 g1 (by decide) n18) ?_
        have n24 : (r21.2).1 = 243 := m23.1.full n18
        replace H := kite H; rcases H with ⟨g25, H⟩ | ⟨g25, H⟩
        · refine x_if_eq_t dX12_qWordHere_47 (q := 52) (by decide) g25 ?_
          refine x_aload_n (q := 53) dX12_qWordHere_52 rfl rfl ?_
          refine x_aload_n (q := 54) dX12_qWordHere_53 rfl rfl ?_
          replace H := kif H; obtain ⟨g26, H⟩ := H
          refine x_getR (q := 57) dX12_qWordHere_54 rfl kl_RX12_200 rfl (k243 g1 (by decide) n24) g26 ?_
          replace H := kbe H; obtain ⟨r27, c28, H⟩ := H
          have m29 := s_X12_isHere (Z := Z) r21.2 v0 (kR r21.2 v0 80) n24 c28
          refine x_callV (q := 60) (as := [.ref (kR r21.2 v0 80)]) (rest := []) dX12_qWordHere_57 rfl kc_RX12_253 kh_X12_isHere (by decide) (Nat.le_of_ble_eq_true rfl) m29 (ci := 12) (by exact ⟨rfl, by decide⟩) (k243 g1 (by decide) n24) ?_
          have n30 : (r27.2).1 = 243 := m29.1.full n24
          replace H := kite H; rcases H with ⟨g31, H⟩ | ⟨g31, H⟩
          · refine x_if_eq_t dX12_qWordHere_60 (q := 65) (by decide) g31 ?_
            refine x_aload_n (q := 66) dX12_qWordHere_65 rfl rfl ?_
            refine x_aload_n (q := 67) dX12_qWordHere_66 rfl rfl ?_
            replace H := kif H; obtain ⟨g32, H⟩ := H
            refine x_getR (q := 70) dX12_qWordHere_67 rfl kl_RX12_203 rfl (k243 g1 (by decide) n30) g32 ?_
            replace H := kbe H; obtain ⟨r33, c34, H⟩ := H
            have m35 := s_X12_isHere (Z := Z) r27.2 v0 (kR r27.2 v0 81) n30 c34
            refine x_callV (q := 73) (as := [.ref (kR r27.2 v0 81)]) (rest := []) dX12_qWordHere_70 rfl kc_RX12_253 kh_X12_isHere (by decide) (Nat.le_of_ble_eq_true rfl) m35 (ci := 12) (by exact ⟨rfl, by decide⟩) (k243 g1 (by decide) n30) ?_
            have n36 : (r33.2).1 = 243 := m35.1.full n30
            replace H := kite H; rcases H with ⟨g37, H⟩ | ⟨g37, H⟩
            · refine x_if_eq_t dX12_qWordHere_73 (q := 78) (by decide) g37 ?_
              refine x_aload_n (q := 79) dX12_qWordHere_78 rfl rfl ?_
              refine x_aload_n (q := 80) dX12_qWordHere_79 rfl rfl ?_
              replace H := kif H; obtain ⟨g38, H⟩ := H
              refine x_getR (q := 83) dX12_qWordHere_80 rfl kl_RX12_206 rfl (k243 g1 (by decide) n36) g38 ?_
              replace H := kbe H; obtain ⟨r39, c40, H⟩ := H
              have m41 := s_X12_isHere (Z := Z) r33.2 v0 (kR r33.2 v0 82) n36 c40
              refine x_callV (q := 86) (as := [.ref (kR r33.2 v0 82)]) (rest := []) dX12_qWordHere_83 rfl kc_RX12_253 kh_X12_isHere (by decide) (Nat.le_of_ble_eq_true rfl) m41 (ci := 12) (by exact ⟨rfl, by decide⟩) (k243 g1 (by decide) n36) ?_
              have n42 : (r39.2).1 = 243 := m41.1.full n36
              replace H := kite H; rcases H with ⟨g43, H⟩ | ⟨g43, H⟩
              · refine x_if_eq_t dX12_qWordHere_86 (q := 92) (by decide) g43 ?_
                refine x_aload_n (q := 93) dX12_qWordHere_92 rfl rfl ?_
                refine x_aload_n (q := 94) dX12_qWordHere_93 rfl rfl ?_
                replace H := kif H; obtain ⟨g44, H⟩ := H
                refine x_getR (q := 97) dX12_qWordHere_94 rfl kl_RX12_209 rfl (k243 g1 (by decide) n42) g44 ?_
                replace H := kbe H; obtain ⟨r45, c46, H⟩ := H
                have m47 := s_X12_isHere (Z := Z) r39.2 v0 (kR r39.2 v0 83) n42 c46
                refine x_callV (q := 100) (as := [.ref (kR r39.2 v0 83)]) (rest := []) dX12_qWordHere_97 rfl kc_RX12_253 kh_X12_isHere (by decide) (Nat.le_of_ble_eq_true rfl) m47 (ci := 12) (by exact ⟨rfl, by decide⟩) (k243 g1 (by decide) n42) ?_
                have n48 : (r45.2).1 = 243 := m47.1.full n42
                replace H := kite H; rcases H with ⟨g49, H⟩ | ⟨g49, H⟩
                · refine x_if_eq_t dX12_qWordHere_100 (q := 106) (by decide) g49 ?_
                  refine x_aload_n (q := 107) dX12_qWordHere_106 rfl rfl ?_
                  refine x_aload_n (q := 108) dX12_qWordHere_107 rfl rfl ?_
                  replace H := kif H; obtain ⟨g50, H⟩ := H
                  refine x_getR (q := 111) dX12_qWordHere_108 rfl kl_RX12_212 rfl (k243 g1 (by decide) n48) g50 ?_
                  replace H := kbe H; obtain ⟨r51, c52, H⟩ := H
                  have m53 := s_X12_isHere (Z := Z) r45.2 v0 (kR r45.2 v0 84) n48 c52
                  refine x_callV (q := 114) (as := [.ref (kR r45.2 v0 84)]) (rest := []) dX12_qWordHere_111 rfl kc_RX12_253 kh_X12_isHere (by decide) (Nat.le_of_ble_eq_true rfl) m53 (ci := 12) (by exact ⟨rfl, by decide⟩) (k243 g1 (by decide) n48) ?_
                  have n54 : (r51.2).1 = 243 := m53.1.full n48
                  replace H := kite H; rcases H with ⟨g55, H⟩ | ⟨g55, H⟩
                  · refine x_if_eq_t dX12_qWordHere_114 (q := 120) (by decide) g55 ?_
                    refine x_iconst (q := 121) (v := (-1 : Int32)) dX12_qWordHere_120 rfl (by decide) ?_
                    cases H
                    exact x_end ⟨dX12_qWordHere_121, rfl, rfl⟩
                  · refine x_if_eq_f (q := 117) dX12_qWordHere_114 (t := 120) (by decide) rfl g55 ?_
                    refine x_bipush (q := 119) (v := (8 : Int32)) dX12_qWordHere_117 rfl (by decide) ?_
                    cases H
                    exact x_end ⟨dX12_qWordHere_119, rfl, rfl⟩
                · refine x_if_eq_f (q := 103) dX12_qWordHere_100 (t := 106) (by decide) rfl g49 ?_
                  refine x_bipush (q := 105) (v := (7 : Int32)) dX12_qWordHere_103 rfl (by decide) ?_
                  cases H
                  exact x_end ⟨dX12_qWordHere_105, rfl, rfl⟩
              · refine x_if_eq_f (q := 89) dX12_qWordHere_86 (t := 92) (by decide) rfl g43 ?_
                refine x_bipush (q := 91) (v := (6 : Int32)) dX12_qWordHere_89 rfl (by decide) ?_
                cases H
                exact x_end ⟨dX12_qWordHere_91, rfl, rfl⟩
            · refine x_if_eq_f (q := 76) dX12_qWordHere_73 (t := 78) (by decide) rfl g37 ?_
              refine x_iconst (q := 77) (v := (5 : Int32)) dX12_qWordHere_76 rfl (by decide) ?_
              cases H
              exact x_end ⟨dX12_qWordHere_77, rfl, rfl⟩
          · refine x_if_eq_f (q := 63) dX12_qWordHere_60 (t := 65) (by decide) rfl g31 ?_
            refine x_iconst (q := 64) (v := (4 : Int32)) dX12_qWordHere_63 rfl (by decide) ?_
            cases H
            exact x_end ⟨dX12_qWordHere_64, rfl, rfl⟩
        · refine x_if_eq_f (q := 50) dX12_qWordHere_47 (t := 52) (by decide) rfl g25 ?_
          refine x_iconst (q := 51) (v := (3 : Int32)) dX12_qWordHere_50 rfl (by decide) ?_
          cases H
          exact x_end ⟨dX12_qWordHere_51, rfl, rfl⟩
      · refine x_if_eq_f (q := 37) dX12_qWordHere_34 (t := 39) (by decide) rfl g19 ?_
        refine x_iconst (q := 38) (v := (2 : Int32)) dX12_qWordHere_37 rfl (by decide) ?_
        cases H
        exact x_end ⟨dX12_qWordHere_38, rfl, rfl⟩
    · refine x_if_eq_f (q := 24) dX12_qWordHere_21 (t := 26) (by decide) rfl g13 ?_
      refine x_iconst (q := 25) (v := (1 : Int32)) dX12_qWordHere_24 rfl (by decide) ?_
      cases H
      exact x_end ⟨dX12_qWordHere_25, rfl, rfl⟩
  · refine x_if_eq_f (q := 11) dX12_qWordHere_8 (t := 13) (by decide) rfl g7 ?_
    refine x_iconst (q := 12) (v := (0 : Int32)) dX12_qWordHere_11 rfl (by decide) ?_
    cases H
    exact x_end ⟨dX12_qWordHere_12, rfl, rfl⟩
theorem s_X12_qWordHere {Z : Nat → (Nat → Nat) → State → Prop} (h : KH) (v0 : Nat) {t : Int32 × KH} (hn : h.1 = 243) (H : f_X12_qWordHere h v0 = some t) : KM Z yX12_qWordHere cX12_qWordHere 1 (some .int) 3 [.ref v0] h (some (.int t.1)) t.2 :=
  kx_i (own := RX12) (ini := false) (by decide +kernel) (by decide +kernel) rfl (Nat.le_of_ble_eq_true rfl) (s0_X12_qWordHere h v0 hn H)
theorem dX12_qWordOf_0 : decode cX12_qWordOf 0 = .ok (.aload_n 0, 1) := by decide +kernel
theorem dX12_qWordOf_1 : decode cX12_qWordOf 1 = .ok (.invokevirtual 559, 3) := by decide +kernel
theorem dX12_qWordOf_4 : decode cX12_qWordOf 4 = .ok (.istore_n 3, 1) := by decide +kernel
theorem dX12_qWordOf_5 : decode cX12_qWordOf 5 = .ok (.iload_n 3, 1) := by decide +kernel
theorem dX12_qWordOf_6 : decode cX12_qWordOf 6 = .ok (.iload_n 1, 1) := by decide +kernel
theorem dX12_qWordOf_7 : decode cX12_qWordOf 7 = .ok (.if_icmp .lt 20, 3) := by decide +kernel
theorem dX12_qWordOf_10 : decode cX12_qWordOf 10 = .ok (.iload_n 3, 1) := by decide +kernel
theorem dX12_qWordOf_11 : decode cX12_qWordOf 11 = .ok (.iload_n 2, 1) := by decide +kernel
theorem dX12_qWordOf_12 : decode cX12_qWordOf 12 = .ok (.if_icmp .ge 15, 3) := by decide +kernel
theorem dX12_qWordOf_15 : decode cX12_qWordOf 15 = .ok (.aload_n 0, 1) := by decide +kernel
theorem dX12_qWordOf_16 : decode cX12_qWordOf 16 = .ok (.iload_n 3, 1) := by decide +kernel
theorem dX12_qWordOf_17 : decode cX12_qWordOf 17 = .ok (.invokevirtual 562, 3) := by decide +kernel
theorem dX12_qWordOf_20 : decode cX12_qWordOf 20 = .ok (.ifCond .eq 7, 3) := by decide +kernel
theorem dX12_qWordOf_23 : decode cX12_qWordOf 23 = .ok (.iload_n 3, 1) := by decide +kernel
theorem dX12_qWordOf_24 : decode cX12_qWordOf 24 = .ok (.goto 4, 3) := by decide +kernel
theorem dX12_qWordOf_27 : decode cX12_qWordOf 27 = .ok (.iconst (-1), 1) := by decide +kernel
theorem dX12_qWordOf_28 : decode cX12_qWordOf 28 = .ok (.ireturn, 1) := by decide +kernel
theorem kc_RX12_559 : Cond.methodLink RX12 559 yX12_qWordHere ∈ ktG ∧ (Cond.instanceMethod yX12_qWordHere ∈ ktG ∧ Cond.selects yX12_qWordHere.cls yX12_qWordHere yX12_qWordHere ∈ ktG) ∧ Cond.initialized yX12_qWordHere.cls ∈ ktG ∧ Cond.code yX12_qWordHere cX12_qWordHere 1 (some .int) ∈ ktG := ⟨(kwm 1605 (by decide +kernel) (by decide +kernel)), ⟨(kwm 1607 (by decide +kernel) (by decide +kernel)), (kwm 59 (by decide +kernel) (by decide +kernel))⟩, (kwm 139 (by decide +kernel) (by decide +kernel)), kwm 1608 (by decide +kernel) (by decide +kernel)⟩
theorem kh_X12_qWordHere : yX12_qWordHere.cls ≠ "java/lang/invoke/MethodHandle" ∧ yX12_qWordHere.cls ≠ "java/lang/invoke/VarHandle" ∧ (parseMethodDescriptor yX12_qWordHere.desc).map (fun d => d.parameters.length) = some 0 := by decide +kernel
theorem kc_RX12_562 : Cond.methodLink RX12 562 yX12_isAllowed ∈ ktG ∧ (Cond.instanceMethod yX12_isAllowed ∈ ktG ∧ Cond.selects yX12_isAllowed.cls yX12_isAllowed yX12_isAllowed ∈ ktG) ∧ Cond.initialized yX12_isAllowed.cls ∈ ktG ∧ Cond.code yX12_isAllowed cX12_isAllowed 2 (some .boolean) ∈ ktG := ⟨(kwm 1609 (by decide +kernel) (by decide +kernel)), ⟨(kwm 1611 (by decide +kernel) (by decide +kernel)), (kwm 60 (by decide +kernel) (by decide +kernel))⟩, (kwm 139 (by decide +kernel) (by decide +kernel)), kwm 1612 (by decide +kernel) (by decide +kernel)⟩
theorem kh_X12_isAllowed : yX12_isAllowed.cls ≠ "java/lang/invoke/MethodHandle" ∧ yX12_isAllowed.cls ≠ "java/lang/invoke/VarHandle" ∧ (parseMethodDescriptor yX12_isAllowed.desc).map (fun d => d.parameters.length) = some 1 := by decide +kernel
def f_X12_qWordOf (h : KH) (v0 : Nat) (v1 : Int32) (v2 : Int32) : Option (Int32 × KH) :=
  if kkind v0 = 12 then kb (f_X12_qWordHere h v0) fun r2 =>
  if r2.1 < v1 then
  some ((-1 : Int32), r2.2)
  else
  if v2 ≤ r2.1 then
  some ((-1 : Int32), r2.2)
  else
  kb (f_X12_isAllowed r2.2 v0 r2.1) fun r8 =>
  if r8 = 0 then
  some ((-1 : Int32), r2.2)
  else
  some (r2.1, r2.2) else none
set_option maxHeartbeats 4000000 in
set_option maxRecDepth 100000 in
theorem s0_X12_qWordOf {Z : Nat → (Nat → Nat) → State → Prop} (h : KH) (v0 : Nat) (v1 : Int32) (v2 : Int32) {t : Int32 × KH} (hn : h.1 = 243) (H : f_X12_qWordOf h v0 v1 v2 = some t) : KX Z RX12 cX12_qWordOf 4 false 4 (KRi cX12_qWordOf t.1 t.2) 0 [(0, .ref v0), (1, .int v1), (2, .int v2)] [] h := by
  unfold f_X12_qWordOf at H
  refine x_aload_n (q := 1) dX12_qWordOf_0 rfl rfl ?_
  replace H := kif H; obtain ⟨g1, H⟩ := H
  replace H := kbe H; obtain ⟨r2, c3, H⟩ := H
  have m4 := s_X12_qWordHere (Z := Z) h v0 hn c3
  refine x_callV (q := 4) (as := []) (rest := []) dX12_qWordOf_1 rfl kc_RX12_559 kh_X12_qWordHere (by decide) (Nat.le_of_ble_eq_true rfl) m4 (ci := 12) (by exact ⟨rfl, by decide⟩) (k243 g1 (by decide) hn) ?_
  have n5 : (r2.2).1 = 243 := m4.1.full hn
  refine x_istore_n (q := 5) (i := 3) (ls2 := [(3, .int r2.1), (0, .ref v0), (1, .int v1), (2, .int v2)]) dX12_qWordOf_4 rfl rfl (by decide) rfl ?_
  refine x_iload_n (q := 6) dX12_qWordOf_5 rfl rfl ?_
  refine x_iload_n (q := 7) dX12_qWordOf_6 rfl rfl ?_
  replace H := kite H; rcases H with ⟨g6, H⟩ | ⟨g6, H⟩
  · refine x_icmp_lt_t dX12_qWordOf_7 (q := 27) (by decide) g6 ?_
    refine x_iconst (q := 28) (v := (-1 : Int32)) dX12_qWordOf_27 rfl (by decide) ?_
    cases H
    exact x_end ⟨dX12_qWordOf_28, rfl, rfl⟩
  · refine x_icmp_lt_f (q := 10) dX12_qWordOf_7 (t := 27) (by decide) rfl g6 ?_
    refine x_iload_n (q := 11) dX12_qWordOf_10 rfl rfl ?_
    refine x_iload_n (q := 12) dX12_qWordOf_11 rfl rfl ?_
    replace H := kite H; rcases H with ⟨g7, H⟩ | ⟨g7, H⟩
    · refine x_icmp_ge_t dX12_qWordOf_12 (q := 27) (by decide) g7 ?_
      refine x_iconst (q := 28) (v := (-1 : Int32)) dX12_qWordOf_27 rfl (by decide) ?_
      cases H
      exact x_end ⟨dX12_qWordOf_28, rfl, rfl⟩
    · refine x_icmp_ge_f (q := 15) dX12_qWordOf_12 (t := 27) (by decide) rfl g7 ?_
      refine x_aload_n (q := 16) dX12_qWordOf_15 rfl rfl ?_
      refine x_iload_n (q := 17) dX12_qWordOf_16 rfl rfl ?_
      replace H := kbe H; obtain ⟨r8, c9, H⟩ := H
      have m10 := s_X12_isAllowed (Z := Z) r2.2 v0 r2.1 n5 c9
      refine x_callV (q := 20) (as := [.int r2.1]) (rest := []) dX12_qWordOf_17 rfl kc_RX12_562 kh_X12_isAllowed (by decide) (Nat.le_of_ble_eq_true rfl) m10 (ci := 12) (by exact ⟨rfl, by decide⟩) (k243 g1 (by decide) n5) ?_
      replace H := kite H; rcases H with ⟨g11, H⟩ | ⟨g11, H⟩
      · refine x_if_eq_t dX12_qWordOf_20 (q := 27) (by decide) g11 ?_
        refine x_iconst (q := 28) (v := (-1 : Int32)) dX12_qWordOf_27 rfl (by decide) ?_
        cases H
        exact x_end ⟨dX12_qWordOf_28, rfl, rfl⟩
      · refine x_if_eq_f (q := 23) dX12_qWordOf_20 (t := 27) (by decide) rfl g11 ?_
        refine x_iload_n (q := 24) dX12_qWordOf_23 rfl rfl ?_
        refine x_goto dX12_qWordOf_24 (q := 28) (by decide) ?_
        cases H
        exact x_end ⟨dX12_qWordOf_28, rfl, rfl⟩
theorem s_X12_qWordOf {Z : Nat → (Nat → Nat) → State → Prop} (h : KH) (v0 : Nat) (v1 : Int32) (v2 : Int32) {t : Int32 × KH} (hn : h.1 = 243) (H : f_X12_qWordOf h v0 v1 v2 = some t) : KM Z yX12_qWordOf cX12_qWordOf 4 (some .int) 4 [.ref v0, .int v1, .int v2] h (some (.int t.1)) t.2 :=
  kx_i (own := RX12) (ini := false) (by decide +kernel) (by decide +kernel) rfl (Nat.le_of_ble_eq_true rfl) (s0_X12_qWordOf h v0 v1 v2 hn H)
theorem dX12_qAsksWord_0 : decode cX12_qAsksWord 0 = .ok (.iload_n 1, 1) := by decide +kernel
theorem dX12_qAsksWord_1 : decode cX12_qAsksWord 1 = .ok (.tableswitch 135 0 7 #[47, 58, 69, 80, 91, 102, 113, 124], 47) := by decide +kernel
theorem dX12_qAsksWord_48 : decode cX12_qAsksWord 48 = .ok (.aload_n 0, 1) := by decide +kernel
theorem dX12_qAsksWord_49 : decode cX12_qAsksWord 49 = .ok (.aload_n 0, 1) := by decide +kernel
theorem dX12_qAsksWord_50 : decode cX12_qAsksWord 50 = .ok (.getfield 188, 3) := by decide +kernel
theorem dX12_qAsksWord_53 : decode cX12_qAsksWord 53 = .ok (.invokevirtual 300, 3) := by decide +kernel
theorem dX12_qAsksWord_56 : decode cX12_qAsksWord 56 = .ok (.goto 88, 3) := by decide +kernel
theorem dX12_qAsksWord_59 : decode cX12_qAsksWord 59 = .ok (.aload_n 0, 1) := by decide +kernel
theorem dX12_qAsksWord_60 : decode cX12_qAsksWord 60 = .ok (.aload_n 0, 1) := by decide +kernel
theorem dX12_qAsksWord_61 : decode cX12_qAsksWord 61 = .ok (.getfield 191, 3) := by decide +kernel
theorem dX12_qAsksWord_64 : decode cX12_qAsksWord 64 = .ok (.invokevirtual 300, 3) := by decide +kernel
theorem dX12_qAsksWord_67 : decode cX12_qAsksWord 67 = .ok (.goto 77, 3) := by decide +kernel
theorem dX12_qAsksWord_70 : decode cX12_qAsksWord 70 = .ok (.aload_n 0, 1) := by decide +kernel
theorem dX12_qAsksWord_71 : decode cX12_qAsksWord 71 = .ok (.aload_n 0, 1) := by decide +kernel
theorem dX12_qAsksWord_72 : decode cX12_qAsksWord 72 = .ok (.getfield 194, 3) := by decide +kernel
theorem dX12_qAsksWord_75 : decode cX12_qAsksWord 75 = .ok (.invokevirtual 300, 3) := by decide +kernel
theorem dX12_qAsksWord_78 : decode cX12_qAsksWord 78 = .ok (.goto 66, 3) := by decide +kernel
theorem dX12_qAsksWord_81 : decode cX12_qAsksWord 81 = .ok (.aload_n 0, 1) := by decide +kernel
theorem dX12_qAsksWord_82 : decode cX12_qAsksWord 82 = .ok (.aload_n 0, 1) := by decide +kernel
theorem dX12_qAsksWord_83 : decode cX12_qAsksWord 83 = .ok (.getfield 197, 3) := by decide +kernel
theorem dX12_qAsksWord_86 : decode cX12_qAsksWord 86 = .ok (.invokevirtual 300, 3) := by decide +kernel
theorem dX12_qAsksWord_89 : decode cX12_qAsksWord 89 = .ok (.goto 55, 3) := by decide +kernel
theorem dX12_qAsksWord_92 : decode cX12_qAsksWord 92 = .ok (.aload_n 0, 1) := by decide +kernel
theorem dX12_qAsksWord_93 : decode cX12_qAsksWord 93 = .ok (.aload_n 0, 1) := by decide +kernel
theorem dX12_qAsksWord_94 : decode cX12_qAsksWord 94 = .ok (.getfield 200, 3) := by decide +kernel
theorem dX12_qAsksWord_97 : decode cX12_qAsksWord 97 = .ok (.invokevirtual 300, 3) := by decide +kernel
theorem dX12_qAsksWord_100 : decode cX12_qAsksWord 100 = .ok (.goto 44, 3) := by decide +kernel
theorem dX12_qAsksWord_103 : decode cX12_qAsksWord 103 = .ok (.aload_n 0, 1) := by decide +kernel
theorem dX12_qAsksWord_104 : decode cX12_qAsksWord 104 = .ok (.aload_n 0, 1) := by decide +kernel
theorem dX12_qAsksWord_105 : decode cX12_qAsksWord 105 = .ok (.getfield 203, 3) := by decide +kernel
theorem dX12_qAsksWord_108 : decode cX12_qAsksWord 108 = .ok (.invokevirtual 300, 3) := by decide +kernel
theorem dX12_qAsksWord_111 : decode cX12_qAsksWord 111 = .ok (.goto 33, 3) := by decide +kernel
theorem dX12_qAsksWord_114 : decode cX12_qAsksWord 114 = .ok (.aload_n 0, 1) := by decide +kernel
theorem dX12_qAsksWord_115 : decode cX12_qAsksWord 115 = .ok (.aload_n 0, 1) := by decide +kernel
theorem dX12_qAsksWord_116 : decode cX12_qAsksWord 116 = .ok (.getfield 206, 3) := by decide +kernel
theorem dX12_qAsksWord_119 : decode cX12_qAsksWord 119 = .ok (.invokevirtual 300, 3) := by decide +kernel
theorem dX12_qAsksWord_122 : decode cX12_qAsksWord 122 = .ok (.goto 22, 3) := by decide +kernel
theorem dX12_qAsksWord_125 : decode cX12_qAsksWord 125 = .ok (.aload_n 0, 1) := by decide +kernel
theorem dX12_qAsksWord_126 : decode cX12_qAsksWord 126 = .ok (.aload_n 0, 1) := by decide +kernel
theorem dX12_qAsksWord_127 : decode cX12_qAsksWord 127 = .ok (.getfield 209, 3) := by decide +kernel
theorem dX12_qAsksWord_130 : decode cX12_qAsksWord 130 = .ok (.invokevirtual 300, 3) := by decide +kernel
theorem dX12_qAsksWord_133 : decode cX12_qAsksWord 133 = .ok (.goto 11, 3) := by decide +kernel
theorem dX12_qAsksWord_136 : decode cX12_qAsksWord 136 = .ok (.aload_n 0, 1) := by decide +kernel
theorem dX12_qAsksWord_137 : decode cX12_qAsksWord 137 = .ok (.aload_n 0, 1) := by decide +kernel
theorem dX12_qAsksWord_138 : decode cX12_qAsksWord 138 = .ok (.getfield 212, 3) := by decide +kernel
theorem dX12_qAsksWord_141 : decode cX12_qAsksWord 141 = .ok (.invokevirtual 300, 3) := by decide +kernel
theorem dX12_qAsksWord_144 : decode cX12_qAsksWord 144 = .ok (.return_, 1) := by decide +kernel
def f_X12_qAsksWord (h : KH) (v0 : Nat) (v1 : Int32) : Option (KH) :=
  if v1 = (0 : Int32) then
  if kkind v0 = 12 then if (kR h v0 76) < 999999 then kb (f_X12_asks h v0 (kR h v0 76)) fun r4 =>
  some r4 else none else none
  else if v1 = (1 : Int32) then
  if kkind v0 = 12 then if (kR h v0 77) < 999999 then kb (f_X12_asks h v0 (kR h v0 77)) fun r11 =>
  some r11 else none else none
  else if v1 = (2 : Int32) then
  if kkind v0 = 12 then if (kR h v0 78) < 999999 then kb (f_X12_asks h v0 (kR h v0 78)) fun r18 =>
  some r18 else none else none
  else if v1 = (3 : Int32) then
  if kkind v0 = 12 then if (kR h v0 79) < 999999 then kb (f_X12_asks h v0 (kR h v0 79)) fun r25 =>
  some r25 else none else none
  else if v1 = (4 : Int32) then
  if kkind v0 = 12 then if (kR h v0 80) < 999999 then kb (f_X12_asks h v0 (kR h v0 80)) fun r32 =>
  some r32 else none else none
  else if v1 = (5 : Int32) then
  if kkind v0 = 12 then if (kR h v0 81) < 999999 then kb (f_X12_asks h v0 (kR h v0 81)) fun r39 =>
  some r39 else none else none
  else if v1 = (6 : Int32) then
  if kkind v0 = 12 then if (kR h v0 82) < 999999 then kb (f_X12_asks h v0 (kR h v0 82)) fun r46 =>
  some r46 else none else none
  else if v1 = (7 : Int32) then
  if kkind v0 = 12 then if (kR h v0 83) < 999999 then kb (f_X12_asks h v0 (kR h v0 83)) fun r53 =>
  some r53 else none else none
  else 
  if kkind v0 = 12 then if (kR h v0 84) < 999999 then kb (f_X12_asks h v0 (kR h v0 84)) fun r59 =>
  some r59 else none else none
set_option maxHeartbeats 4000000 in
set_option maxRecDepth 100000 in
theorem s0_X12_qAsksWord {Z : Nat → (Nat → Nat) → State → Prop} (h : KH) (v0 : Nat) (v1 : Int32) {t : KH} (hn : h.1 = 243) (H : f_X12_qAsksWord h v0 v1 = some t) : KX Z RX12 cX12_qAsksWord 2 false 5 (KRv cX12_qAsksWord t) 0 [(0, .ref v0), (1, .int v1)] [] h := by
  unfold f_X12_qAsksWord at H
  refine x_iload_n (q := 1) dX12_qAsksWord_0 rfl rfl ?_
  replace H := kite H; rcases H with ⟨g1, H⟩ | ⟨g1, H⟩
  · refine x_tableIn (v := (0 : Int32)) (off := 47) dX12_qAsksWord_1 g1 (by decide) (q := 48) (by decide) ?_
    refine x_aload_n (q := 49) dX12_qAsksWord_48 rfl rfl ?_
    refine x_aload_n (q := 50) dX12_qAsksWord_49 rfl rfl ?_
    replace H := kif H; obtain ⟨g2, H⟩ := H
    replace H := kif H; obtain ⟨g3, H⟩ := H
    refine x_getR (q := 53) dX12_qAsksWord_50 rfl kl_RX12_188 rfl (k243 g2 (by decide) hn) g3 ?_
    replace H := kbe H; obtain ⟨r4, c5, H⟩ := H
    have m6 := s_X12_asks (Z := Z) h v0 (kR h v0 76) hn c5
    refine x_callV (q := 56) (as := [.ref (kR h v0 76)]) (rest := []) dX12_qAsksWord_53 rfl kc_RX12_300 kh_X12_asks (by decide) (Nat.le_of_ble_eq_true rfl) m6 (ci := 12) (by exact ⟨rfl, by decide⟩) (k243 g2 (by decide) hn) ?_
    have n7 : (r4).1 = 243 := m6.1.full hn
    refine x_goto dX12_qAsksWord_56 (q := 144) (by decide) ?_
    cases H
    exact x_end ⟨dX12_qAsksWord_144, rfl, rfl⟩
  replace H := kite H; rcases H with ⟨g8, H⟩ | ⟨g8, H⟩
  · refine x_tableIn (v := (1 : Int32)) (off := 58) dX12_qAsksWord_1 g8 (by decide) (q := 59) (by decide) ?_
    refine x_aload_n (q := 60) dX12_qAsksWord_59 rfl rfl ?_
    refine x_aload_n (q := 61) dX12_qAsksWord_60 rfl rfl ?_
    replace H := kif H; obtain ⟨g9, H⟩ := H
    replace H := kif H; obtain ⟨g10, H⟩ := H
    refine x_getR (q := 64) dX12_qAsksWord_61 rfl kl_RX12_191 rfl (k243 g9 (by decide) hn) g10 ?_
    replace H := kbe H; obtain ⟨r11, c12, H⟩ := H
    have m13 := s_X12_asks (Z := Z) h v0 (kR h v0 77) hn c12
    refine x_callV (q := 67) (as := [.ref (kR h v0 77)]) (rest := []) dX12_qAsksWord_64 rfl kc_RX12_300 kh_X12_asks (by decide) (Nat.le_of_ble_eq_true rfl) m13 (ci := 12) (by exact ⟨rfl, by decide⟩) (k243 g9 (by decide) hn) ?_
    have n14 : (r11).1 = 243 := m13.1.full hn
    refine x_goto dX12_qAsksWord_67 (q := 144) (by decide) ?_
    cases H
    exact x_end ⟨dX12_qAsksWord_144, rfl, rfl⟩
  replace H := kite H; rcases H with ⟨g15, H⟩ | ⟨g15, H⟩
  · refine x_tableIn (v := (2 : Int32)) (off := 69) dX12_qAsksWord_1 g15 (by decide) (q := 70) (by decide) ?_
    refine x_aload_n (q := 71) dX12_qAsksWord_70 rfl rfl ?_
    refine x_aload_n (q := 72) dX12_qAsksWord_71 rfl rfl ?_
    replace H := kif H; obtain ⟨g16, H⟩ := H
    replace H := kif H; obtain ⟨g17, H⟩ := H
    refine x_getR (q := 75) dX12_qAsksWord_72 rfl kl_RX12_194 rfl (k243 g16 (by decide) hn) g17 ?_
    replace H := kbe H; obtain ⟨r18, c19, H⟩ := H
    have m20 := s_X12_asks (Z := Z) h v0 (kR h v0 78) hn c19
    refine x_callV (q := 78) (as := [.ref (kR h v0 78)]) (rest := []) dX12_qAsksWord_75 rfl kc_RX12_300 kh_X12_asks (by decide) (Nat.le_of_ble_eq_true rfl) m20 (ci := 12) (by exact ⟨rfl, by decide⟩) (k243 g16 (by decide) hn) ?_
    have n21 : (r18).1 = 243 := m20.1.full hn
    refine x_goto dX12_qAsksWord_78 (q := 144) (by decide) ?_
    cases H
    exact x_end ⟨dX12_qAsksWord_144, rfl, rfl⟩
  replace H := kite H; rcases H with ⟨g22, H⟩ | ⟨g22, H⟩
  · refine x_tableIn (v := (3 : Int32)) (off := 80) dX12_qAsksWord_1 g22 (by decide) (q := 81) (by decide) ?_
    refine x_aload_n (q := 82) dX12_qAsksWord_81 rfl rfl ?_
    refine x_aload_n (q := 83) dX12_qAsksWord_82 rfl rfl ?_
    replace H := kif H; obtain ⟨g23, H⟩ := H
    replace H := kif H; obtain ⟨g24, H⟩ := H
    refine x_getR (q := 86) dX12_qAsksWord_83 rfl kl_RX12_197 rfl (k243 g23 (by decide) hn) g24 ?_
    replace H := kbe H; obtain ⟨r25, c26, H⟩ := H
    have m27 := s_X12_asks (Z := Z) h v0 (kR h v0 79) hn c26
    refine x_callV (q := 89) (as := [.ref (kR h v0 79)]) (rest := []) dX12_qAsksWord_86 rfl kc_RX12_300 kh_X12_asks (by decide) (Nat.le_of_ble_eq_true rfl) m27 (ci := 12) (by exact ⟨rfl, by decide⟩) (k243 g23 (by decide) hn) ?_
    have n28 : (r25).1 = 243 := m27.1.full hn
    refine x_goto dX12_qAsksWord_89 (q := 144) (by decide) ?_
    cases H
    exact x_end ⟨dX12_qAsksWord_144, rfl, rfl⟩
  replace H := kite H; rcases H with ⟨g29, H⟩ | ⟨g29, H⟩
  · refine x_tableIn (v := (4 : Int32)) (off := 91) dX12_qAsksWord_1 g29 (by decide) (q := 92) (by decide) ?_
    refine x_aload_n (q := 93) dX12_qAsksWord_92 rfl rfl ?_
    refine x_aload_n (q := 94) dX12_qAsksWord_93 rfl rfl ?_
    replace H := kif H; obtain ⟨g30, H⟩ := H
    replace H := kif H; obtain ⟨g31, H⟩ := H
    refine x_getR (q := 97) dX12_qAsksWord_94 rfl kl_RX12_200 rfl (k243 g30 (by decide) hn) g31 ?_
    replace H := kbe H; obtain ⟨r32, c33, H⟩ := H
    have m34 := s_X12_asks (Z := Z) h v0 (kR h v0 80) hn c33
    refine x_callV (q := 100) (as := [.ref (kR h v0 80)]) (rest := []) dX12_qAsksWord_97 rfl kc_RX12_300 kh_X12_asks (by decide) (Nat.le_of_ble_eq_true rfl) m34 (ci := 12) (by exact ⟨rfl, by decide⟩) (k243 g30 (by decide) hn) ?_
    have n35 : (r32).1 = 243 := m34.1.full hn
    refine x_goto dX12_qAsksWord_100 (q := 144) (by decide) ?_
    cases H
    exact x_end ⟨dX12_qAsksWord_144, rfl, rfl⟩
  replace H := kite H; rcases H with ⟨g36, H⟩ | ⟨g36, H⟩
  · refine x_tableIn (v := (5 : Int32)) (off := 102) dX12_qAsksWord_1 g36 (by decide) (q := 103) (by decide) ?_
    refine x_aload_n (q := 104) dX12_qAsksWord_103 rfl rfl ?_
    refine x_aload_n (q := 105) dX12_qAsksWord_104 rfl rfl ?_
    replace H := kif H; obtain ⟨g37, H⟩ := H
    replace H := kif H; obtain ⟨g38, H⟩ := H
    refine x_getR (q := 108) dX12_qAsksWord_105 rfl kl_RX12_203 rfl (k243 g37 (by decide) hn) g38 ?_
    replace H := kbe H; obtain ⟨r39, c40, H⟩ := H
    have m41 := s_X12_asks (Z := Z) h v0 (kR h v0 81) hn c40
    refine x_callV (q := 111) (as := [.ref (kR h v0 81)]) (rest := []) dX12_qAsksWord_108 rfl kc_RX12_300 kh_X12_asks (by decide) (Nat.le_of_ble_eq_true rfl) m41 (ci := 12) (by exact ⟨rfl, by decide⟩) (k243 g37 (by decide) hn) ?_
    have n42 : (r39).1 = 243 := m41.1.full hn
    refine x_goto dX12_qAsksWord_111 (q := 144) (by decide) ?_
    cases H
    exact x_end ⟨dX12_qAsksWord_144, rfl, rfl⟩
  replace H := kite H; rcases H with ⟨g43, H⟩ | ⟨g43, H⟩
  · refine x_tableIn (v := (6 : Int32)) (off := 113) dX12_qAsksWord_1 g43 (by decide) (q := 114) (by decide) ?_
    refine x_aload_n (q := 115) dX12_qAsksWord_114 rfl rfl ?_
    refine x_aload_n (q := 116) dX12_qAsksWord_115 rfl rfl ?_
    replace H := kif H; obtain ⟨g44, H⟩ := H
    replace H := kif H; obtain ⟨g45, H⟩ := H
    refine x_getR (q := 119) dX12_qAsksWord_116 rfl kl_RX12_206 rfl (k243 g44 (by decide) hn) g45 ?_
    replace H := kbe H; obtain ⟨r46, c47, H⟩ := H
    have m48 := s_X12_asks (Z := Z) h v0 (kR h v0 82) hn c47
    refine x_callV (q := 122) (as := [.ref (kR h v0 82)]) (rest := []) dX12_qAsksWord_119 rfl kc_RX12_300 kh_X12_asks (by decide) (Nat.le_of_ble_eq_true rfl) m48 (ci := 12) (by exact ⟨rfl, by decide⟩) (k243 g44 (by decide) hn) ?_
    have n49 : (r46).1 = 243 := m48.1.full hn
    refine x_goto dX12_qAsksWord_122 (q := 144) (by decide) ?_
    cases H
    exact x_end ⟨dX12_qAsksWord_144, rfl, rfl⟩
  replace H := kite H; rcases H with ⟨g50, H⟩ | ⟨g50, H⟩
  · refine x_tableIn (v := (7 : Int32)) (off := 124) dX12_qAsksWord_1 g50 (by decide) (q := 125) (by decide) ?_
    refine x_aload_n (q := 126) dX12_qAsksWord_125 rfl rfl ?_
    refine x_aload_n (q := 127) dX12_qAsksWord_126 rfl rfl ?_
    replace H := kif H; obtain ⟨g51, H⟩ := H
    replace H := kif H; obtain ⟨g52, H⟩ := H
    refine x_getR (q := 130) dX12_qAsksWord_127 rfl kl_RX12_209 rfl (k243 g51 (by decide) hn) g52 ?_
    replace H := kbe H; obtain ⟨r53, c54, H⟩ := H
    have m55 := s_X12_asks (Z := Z) h v0 (kR h v0 83) hn c54
    refine x_callV (q := 133) (as := [.ref (kR h v0 83)]) (rest := []) dX12_qAsksWord_130 rfl kc_RX12_300 kh_X12_asks (by decide) (Nat.le_of_ble_eq_true rfl) m55 (ci := 12) (by exact ⟨rfl, by decide⟩) (k243 g51 (by decide) hn) ?_
    have n56 : (r53).1 = 243 := m55.1.full hn
    refine x_goto dX12_qAsksWord_133 (q := 144) (by decide) ?_
    cases H
    exact x_end ⟨dX12_qAsksWord_144, rfl, rfl⟩
  refine x_tableOut dX12_qAsksWord_1 (q := 136) (by decide) (by have z0 : v1.toInt ≠ 0 := kne g1 (by decide); have z1 : v1.toInt ≠ 1 := kne g8 (by decide); have z2 : v1.toInt ≠ 2 := kne g15 (by decide); have z3 : v1.toInt ≠ 3 := kne g22 (by decide); have z4 : v1.toInt ≠ 4 := kne g29 (by decide); have z5 : v1.toInt ≠ 5 := kne g36 (by decide); have z6 : v1.toInt ≠ 6 := kne g43 (by decide); have z7 : v1.toInt ≠ 7 := kne g50 (by decide); omega) ?_
  refine x_aload_n (q := 137) dX12_qAsksWord_136 rfl rfl ?_
  refine x_aload_n (q := 138) dX12_qAsksWord_137 rfl rfl ?_
  replace H := kif H; obtain ⟨g57, H⟩ := H
  replace H := kif H; obtain ⟨g58, H⟩ := H
  refine x_getR (q := 141) dX12_qAsksWord_138 rfl kl_RX12_212 rfl (k243 g57 (by decide) hn) g58 ?_
  replace H := kbe H; obtain ⟨r59, c60, H⟩ := H
  have m61 := s_X12_asks (Z := Z) h v0 (kR h v0 84) hn c60
  refine x_callV (q := 144) (as := [.ref (kR h v0 84)]) (rest := []) dX12_qAsksWord_141 rfl kc_RX12_300 kh_X12_asks (by decide) (Nat.le_of_ble_eq_true rfl) m61 (ci := 12) (by exact ⟨rfl, by decide⟩) (k243 g57 (by decide) hn) ?_
  have n62 : (r59).1 = 243 := m61.1.full hn
  cases H
  exact x_end ⟨dX12_qAsksWord_144, rfl, rfl⟩
theorem s_X12_qAsksWord {Z : Nat → (Nat → Nat) → State → Prop} (h : KH) (v0 : Nat) (v1 : Int32) {t : KH} (hn : h.1 = 243) (H : f_X12_qAsksWord h v0 v1 = some t) : KM Z yX12_qAsksWord cX12_qAsksWord 2 none 5 [.ref v0, .int v1] h none t :=
  kx_v (own := RX12) (ini := false) (by decide +kernel) (by decide +kernel) rfl (Nat.le_of_ble_eq_true rfl) (s0_X12_qAsksWord h v0 v1 hn H)
theorem dX12_qDrops_0 : decode cX12_qDrops 0 = .ok (.aload_n 0, 1) := by decide +kernel
theorem dX12_qDrops_1 : decode cX12_qDrops 1 = .ok (.dup, 1) := by decide +kernel
theorem dX12_qDrops_2 : decode cX12_qDrops 2 = .ok (.getfield 315, 3) := by decide +kernel
theorem dX12_qDrops_5 : decode cX12_qDrops 5 = .ok (.iconst 1, 1) := by decide +kernel
theorem dX12_qDrops_6 : decode cX12_qDrops 6 = .ok (.isub, 1) := by decide +kernel
theorem dX12_qDrops_7 : decode cX12_qDrops 7 = .ok (.putfield 315, 3) := by decide +kernel
theorem dX12_qDrops_10 : decode cX12_qDrops 10 = .ok (.aload_n 0, 1) := by decide +kernel
theorem dX12_qDrops_11 : decode cX12_qDrops 11 = .ok (.aload_n 0, 1) := by decide +kernel
theorem dX12_qDrops_12 : decode cX12_qDrops 12 = .ok (.getfield 218, 3) := by decide +kernel
theorem dX12_qDrops_15 : decode cX12_qDrops 15 = .ok (.aload_n 0, 1) := by decide +kernel
theorem dX12_qDrops_16 : decode cX12_qDrops 16 = .ok (.getfield 315, 3) := by decide +kernel
theorem dX12_qDrops_19 : decode cX12_qDrops 19 = .ok (.iaload, 1) := by decide +kernel
theorem dX12_qDrops_20 : decode cX12_qDrops 20 = .ok (.invokevirtual 550, 3) := by decide +kernel
theorem dX12_qDrops_23 : decode cX12_qDrops 23 = .ok (.return_, 1) := by decide +kernel
theorem kc_RX12_550 : Cond.methodLink RX12 550 yX12_qCode ∈ ktG ∧ (Cond.instanceMethod yX12_qCode ∈ ktG ∧ Cond.selects yX12_qCode.cls yX12_qCode yX12_qCode ∈ ktG) ∧ Cond.initialized yX12_qCode.cls ∈ ktG ∧ Cond.code yX12_qCode cX12_qCode 2 none ∈ ktG := ⟨(kwm 1589 (by decide +kernel) (by decide +kernel)), ⟨(kwm 1591 (by decide +kernel) (by decide +kernel)), (kwm 55 (by decide +kernel) (by decide +kernel))⟩, (kwm 139 (by decide +kernel) (by decide +kernel)), kwm 1592 (by decide +kernel) (by decide +kernel)⟩
theorem kh_X12_qCode : yX12_qCode.cls ≠ "java/lang/invoke/MethodHandle" ∧ yX12_qCode.cls ≠ "java/lang/invoke/VarHandle" ∧ (parseMethodDescriptor yX12_qCode.desc).map (fun d => d.parameters.length) = some 1 := by decide +kernel
def f_X12_qDrops (h : KH) (v0 : Nat) : Option (KH) :=
  if kkind v0 = 12 then kl (ksI h v0 88 ((kI h v0 88) - (1 : Int32))) fun h2 =>
  if (kR h2 v0 87) < 999999 then if kkind (kR h2 v0 87) = 20 then if ((kI h2 v0 88) < 0 ∨ klen (kR h2 v0 87) ≤ ((kI h2 v0 88)).toNatClampNeg) then none else kb (f_X12_qCode h2 v0 (kI h2 (kR h2 v0 87) (((kI h2 v0 88)).toNatClampNeg))) fun r8 =>
  some r8 else none else none else none
set_option maxHeartbeats 4000000 in
set_option maxRecDepth 100000 in
theorem s0_X12_qDrops {Z : Nat → (Nat → Nat) → State → Prop} (h : KH) (v0 : Nat) {t : KH} (hn : h.1 = 243) (H : f_X12_qDrops h v0 = some t) : KX Z RX12 cX12_qDrops 1 false 2 (KRv cX12_qDrops t) 0 [(0, .ref v0)] [] h := by
  unfold f_X12_qDrops at H
  refine x_aload_n (q := 1) dX12_qDrops_0 rfl rfl ?_
  refine x_dup (q := 2) dX12_qDrops_1 rfl rfl ?_
  replace H := kif H; obtain ⟨g1, H⟩ := H
  refine x_getI (q := 5) dX12_qDrops_2 rfl kl_RX12_315 (Or.inl rfl) (k243 g1 (by decide) hn) ?_
  refine x_iconst (q := 6) (v := (1 : Int32)) dX12_qDrops_5 rfl (by decide) ?_
  refine x_isub (q := 7) dX12_qDrops_6 rfl ?_
  replace H := kle H; obtain ⟨h2, q3, H⟩ := H
  refine x_putI (q := 10) dX12_qDrops_7 rfl kl_RX12_315 (Or.inl rfl) rfl (k243 g1 (by decide) hn) ?_
  refine x_nmH q3 ?_
  have n4 : h2.1 = 243 := by rw [q3]; exact hn
  refine x_aload_n (q := 11) dX12_qDrops_10 rfl rfl ?_
  refine x_aload_n (q := 12) dX12_qDrops_11 rfl rfl ?_
  replace H := kif H; obtain ⟨g5, H⟩ := H
  refine x_getR (q := 15) dX12_qDrops_12 rfl kl_RX12_218 rfl (k243 g1 (by decide) n4) g5 ?_
  refine x_aload_n (q := 16) dX12_qDrops_15 rfl rfl ?_
  refine x_getI (q := 19) dX12_qDrops_16 rfl kl_RX12_315 (Or.inl rfl) (k243 g1 (by decide) n4) ?_
  replace H := kif H; obtain ⟨g6, H⟩ := H
  replace H := kifn H; obtain ⟨g7, H⟩ := H
  refine x_iald (q := 20) dX12_qDrops_19 rfl (k243 g6 (by decide) n4) g7 ?_
  replace H := kbe H; obtain ⟨r8, c9, H⟩ := H
  have m10 := s_X12_qCode (Z := Z) h2 v0 (kI h2 (kR h2 v0 87) (((kI h2 v0 88)).toNatClampNeg)) n4 c9
  refine x_callV (q := 23) (as := [.int (kI h2 (kR h2 v0 87) (((kI h2 v0 88)).toNatClampNeg))]) (rest := []) dX12_qDrops_20 rfl kc_RX12_550 kh_X12_qCode (by decide) (Nat.le_of_ble_eq_true rfl) m10 (ci := 12) (by exact ⟨rfl, by decide⟩) (k243 g1 (by decide) n4) ?_
  have n11 : (r8).1 = 243 := m10.1.full n4
  cases H
  exact x_end ⟨dX12_qDrops_23, rfl, rfl⟩
theorem s_X12_qDrops {Z : Nat → (Nat → Nat) → State → Prop} (h : KH) (v0 : Nat) {t : KH} (hn : h.1 = 243) (H : f_X12_qDrops h v0 = some t) : KM Z yX12_qDrops cX12_qDrops 1 none 2 [.ref v0] h none t :=
  kx_v (own := RX12) (ini := false) (by decide +kernel) (by decide +kernel) rfl (Nat.le_of_ble_eq_true rfl) (s0_X12_qDrops h v0 hn H)
theorem dX12_qEndsPart_0 : decode cX12_qEndsPart 0 = .ok (.aload_n 0, 1) := by decide +kernel
theorem dX12_qEndsPart_1 : decode cX12_qEndsPart 1 = .ok (.getfield 230, 3) := by decide +kernel
theorem dX12_qEndsPart_4 : decode cX12_qEndsPart 4 = .ok (.ifCond .ne 47, 3) := by decide +kernel
theorem dX12_qEndsPart_7 : decode cX12_qEndsPart 7 = .ok (.aload_n 0, 1) := by decide +kernel
theorem dX12_qEndsPart_8 : decode cX12_qEndsPart 8 = .ok (.getfield 315, 3) := by decide +kernel
theorem dX12_qEndsPart_11 : decode cX12_qEndsPart 11 = .ok (.aload_n 0, 1) := by decide +kernel
theorem dX12_qEndsPart_12 : decode cX12_qEndsPart 12 = .ok (.getfield 321, 3) := by decide +kernel
theorem dX12_qEndsPart_15 : decode cX12_qEndsPart 15 = .ok (.if_icmp .le 36, 3) := by decide +kernel
theorem dX12_qEndsPart_18 : decode cX12_qEndsPart 18 = .ok (.aload_n 0, 1) := by decide +kernel
theorem dX12_qEndsPart_19 : decode cX12_qEndsPart 19 = .ok (.getfield 218, 3) := by decide +kernel
theorem dX12_qEndsPart_22 : decode cX12_qEndsPart 22 = .ok (.aload_n 0, 1) := by decide +kernel
theorem dX12_qEndsPart_23 : decode cX12_qEndsPart 23 = .ok (.getfield 315, 3) := by decide +kernel
theorem dX12_qEndsPart_26 : decode cX12_qEndsPart 26 = .ok (.iconst 1, 1) := by decide +kernel
theorem dX12_qEndsPart_27 : decode cX12_qEndsPart 27 = .ok (.isub, 1) := by decide +kernel
theorem dX12_qEndsPart_28 : decode cX12_qEndsPart 28 = .ok (.iaload, 1) := by decide +kernel
theorem dX12_qEndsPart_29 : decode cX12_qEndsPart 29 = .ok (.bipush 60, 2) := by decide +kernel
theorem dX12_qEndsPart_31 : decode cX12_qEndsPart 31 = .ok (.if_icmp .lt 20, 3) := by decide +kernel
theorem dX12_qEndsPart_34 : decode cX12_qEndsPart 34 = .ok (.aload_n 0, 1) := by decide +kernel
theorem dX12_qEndsPart_35 : decode cX12_qEndsPart 35 = .ok (.dup, 1) := by decide +kernel
theorem dX12_qEndsPart_36 : decode cX12_qEndsPart 36 = .ok (.getfield 318, 3) := by decide +kernel
theorem dX12_qEndsPart_39 : decode cX12_qEndsPart 39 = .ok (.iconst 1, 1) := by decide +kernel
theorem dX12_qEndsPart_40 : decode cX12_qEndsPart 40 = .ok (.isub, 1) := by decide +kernel
theorem dX12_qEndsPart_41 : decode cX12_qEndsPart 41 = .ok (.putfield 318, 3) := by decide +kernel
theorem dX12_qEndsPart_44 : decode cX12_qEndsPart 44 = .ok (.aload_n 0, 1) := by decide +kernel
theorem dX12_qEndsPart_45 : decode cX12_qEndsPart 45 = .ok (.invokevirtual 556, 3) := by decide +kernel
theorem dX12_qEndsPart_48 : decode cX12_qEndsPart 48 = .ok (.goto (-48), 3) := by decide +kernel
theorem dX12_qEndsPart_51 : decode cX12_qEndsPart 51 = .ok (.return_, 1) := by decide +kernel
theorem kl_RX12_321 : KLk RX12 321 12 90 := ⟨RX12, TX12, 97, rfl, by decide, Or.inl (kwm 1287 (by decide +kernel) (by decide +kernel))⟩
theorem kc_RX12_556 : Cond.methodLink RX12 556 yX12_qDrops ∈ ktG ∧ (Cond.instanceMethod yX12_qDrops ∈ ktG ∧ Cond.selects yX12_qDrops.cls yX12_qDrops yX12_qDrops ∈ ktG) ∧ Cond.initialized yX12_qDrops.cls ∈ ktG ∧ Cond.code yX12_qDrops cX12_qDrops 1 none ∈ ktG := ⟨(kwm 1629 (by decide +kernel) (by decide +kernel)), ⟨(kwm 1631 (by decide +kernel) (by decide +kernel)), (kwm 65 (by decide +kernel) (by decide +kernel))⟩, (kwm 139 (by decide +kernel) (by decide +kernel)), kwm 1632 (by decide +kernel) (by decide +kernel)⟩
theorem kh_X12_qDrops : yX12_qDrops.cls ≠ "java/lang/invoke/MethodHandle" ∧ yX12_qDrops.cls ≠ "java/lang/invoke/VarHandle" ∧ (parseMethodDescriptor yX12_qDrops.desc).map (fun d => d.parameters.length) = some 0 := by decide +kernel
def E_X12_qEndsPart_l0 (v0 : Nat) : KH → Nat → List (Nat × Value) → List Value → KH → Prop := fun (e : KH) pc ls st hh => pc = 51 ∧ ls = [] ∧ st = [] ∧ e = hh
def B_X12_qEndsPart_l0 (v0 : Nat) : ((KH) ⊕ (KH)) → Nat → List (Nat × Value) → List Value → KH → Prop := Sum.elim (fun (s : KH) pc ls st hh => pc = 0 ∧ ls = [(0, .ref v0)] ∧ st = [] ∧ hh = s) (E_X12_qEndsPart_l0 v0)
def f_X12_qEndsPart_l0 (v0 : Nat) (s : KH) : Option ((KH) ⊕ (KH)) :=
  if kkind v0 = 12 then if (kI s v0 5) = 0 then
  if (kI s v0 88) ≤ (kI s v0 90) then
  some (.inr s)
  else
  if (kR s v0 87) < 999999 then if kkind (kR s v0 87) = 20 then if (((kI s v0 88) - (1 : Int32)) < 0 ∨ klen (kR s v0 87) ≤ (((kI s v0 88) - (1 : Int32))).toNatClampNeg) then none else if (kI s (kR s v0 87) ((((kI s v0 88) - (1 : Int32))).toNatClampNeg)) < (60 : Int32) then
  some (.inr s)
  else
  kl (ksI s v0 89 ((kI s v0 89) - (1 : Int32))) fun h8 =>
  kb (f_X12_qDrops h8 v0) fun r11 =>
  some (.inl r11) else none else none
  else
  some (.inr s) else none
set_option maxHeartbeats 4000000 in
set_option maxRecDepth 100000 in
theorem s_X12_qEndsPart_l0 {Z : Nat → (Nat → Nat) → State → Prop} (v0 : Nat) (s : KH) (t : (KH) ⊕ (KH)) (hn : (s).1 = 243) (H : f_X12_qEndsPart_l0 v0 s = some t) : KX Z RX12 cX12_qEndsPart 1 false 3 (B_X12_qEndsPart_l0 v0 t) 0 [(0, .ref v0)] [] s := by
  unfold f_X12_qEndsPart_l0 at H
  refine x_aload_n (q := 1) dX12_qEndsPart_0 rfl rfl ?_
  replace H := kif H; obtain ⟨g1, H⟩ := H
  refine x_getI (q := 4) dX12_qEndsPart_1 rfl kl_RX12_230 (Or.inl rfl) (k243 g1 (by decide) hn) ?_
  replace H := kite H; rcases H with ⟨g2, H⟩ | ⟨g2, H⟩
  · refine x_if_ne_f (q := 7) dX12_qEndsPart_4 (t := 51) (by decide) rfl g2 ?_
    refine x_aload_n (q := 8) dX12_qEndsPart_7 rfl rfl ?_
    refine x_getI (q := 11) dX12_qEndsPart_8 rfl kl_RX12_315 (Or.inl rfl) (k243 g1 (by decide) hn) ?_
    refine x_aload_n (q := 12) dX12_qEndsPart_11 rfl rfl ?_
    refine x_getI (q := 15) dX12_qEndsPart_12 rfl kl_RX12_321 (Or.inl rfl) (k243 g1 (by decide) hn) ?_
    replace H := kite H; rcases H with ⟨g3, H⟩ | ⟨g3, H⟩
    · refine x_icmp_le_t dX12_qEndsPart_15 (q := 51) (by decide) g3 ?_
      cases H
      refine x_sub (ls2 := []) [] rfl ?_
      exact x_end (x_cfg rfl)
    · refine x_icmp_le_f (q := 18) dX12_qEndsPart_15 (t := 51) (by decide) rfl g3 ?_
      refine x_aload_n (q := 19) dX12_qEndsPart_18 rfl rfl ?_
      replace H := kif H; obtain ⟨g4, H⟩ := H
      refine x_getR (q := 22) dX12_qEndsPart_19 rfl kl_RX12_218 rfl (k243 g1 (by decide) hn) g4 ?_
      refine x_aload_n (q := 23) dX12_qEndsPart_22 rfl rfl ?_
      refine x_getI (q := 26) dX12_qEndsPart_23 rfl kl_RX12_315 (Or.inl rfl) (k243 g1 (by decide) hn) ?_
      refine x_iconst (q := 27) (v := (1 : Int32)) dX12_qEndsPart_26 rfl (by decide) ?_
      refine x_isub (q := 28) dX12_qEndsPart_27 rfl ?_
      replace H := kif H; obtain ⟨g5, H⟩ := H
      replace H := kifn H; obtain ⟨g6, H⟩ := H
      refine x_iald (q := 29) dX12_qEndsPart_28 rfl (k243 g5 (by decide) hn) g6 ?_
      refine x_bipush (q := 31) (v := (60 : Int32)) dX12_qEndsPart_29 rfl (by decide) ?_
      replace H := kite H; rcases H with ⟨g7, H⟩ | ⟨g7, H⟩
      · refine x_icmp_lt_t dX12_qEndsPart_31 (q := 51) (by decide) g7 ?_
        cases H
        refine x_sub (ls2 := []) [] rfl ?_
        exact x_end (x_cfg rfl)
      · refine x_icmp_lt_f (q := 34) dX12_qEndsPart_31 (t := 51) (by decide) rfl g7 ?_
        refine x_aload_n (q := 35) dX12_qEndsPart_34 rfl rfl ?_
        refine x_dup (q := 36) dX12_qEndsPart_35 rfl rfl ?_
        refine x_getI (q := 39) dX12_qEndsPart_36 rfl kl_RX12_318 (Or.inl rfl) (k243 g1 (by decide) hn) ?_
        refine x_iconst (q := 40) (v := (1 : Int32)) dX12_qEndsPart_39 rfl (by decide) ?_
        refine x_isub (q := 41) dX12_qEndsPart_40 rfl ?_
        replace H := kle H; obtain ⟨h8, q9, H⟩ := H
        refine x_putI (q := 44) dX12_qEndsPart_41 rfl kl_RX12_318 (Or.inl rfl) rfl (k243 g1 (by decide) hn) ?_
        refine x_nmH q9 ?_
        have n10 : h8.1 = 243 := by rw [q9]; exact hn
        refine x_aload_n (q := 45) dX12_qEndsPart_44 rfl rfl ?_
        replace H := kbe H; obtain ⟨r11, c12, H⟩ := H
        have m13 := s_X12_qDrops (Z := Z) h8 v0 n10 c12
        refine x_callV (q := 48) (as := []) (rest := []) dX12_qEndsPart_45 rfl kc_RX12_556 kh_X12_qDrops (by decide) (Nat.le_of_ble_eq_true rfl) m13 (ci := 12) (by exact ⟨rfl, by decide⟩) (k243 g1 (by decide) n10) ?_
        have n14 : (r11).1 = 243 := m13.1.full n10
        refine x_goto dX12_qEndsPart_48 (q := 0) (by decide) ?_
        cases H
        refine x_sub (ls2 := [(0, .ref v0)]) [0] rfl ?_
        exact x_end (x_cfg rfl)
  · refine x_if_ne_t dX12_qEndsPart_4 (q := 51) (by decide) g2 ?_
    cases H
    refine x_sub (ls2 := []) [] rfl ?_
    exact x_end (x_cfg rfl)
theorem sl_X12_qEndsPart_l0 {Z : Nat → (Nat → Nat) → State → Prop} (v0 : Nat) (n : Nat) (s : KH) (r : KH) (hn : (s).1 = 243) (H : kloop (f_X12_qEndsPart_l0 v0) n s = some r) : KX Z RX12 cX12_qEndsPart 1 false 3 (E_X12_qEndsPart_l0 v0 r) 0 [(0, .ref v0)] [] s :=
  k_loop (ls := (fun (s : KH) => ([(0, .ref v0)] : List (Nat × Value)))) (hp := (fun (s : KH) => (s : KH))) (G := E_X12_qEndsPart_l0 v0) (fun s t hn H => s_X12_qEndsPart_l0 v0 s t hn H) n s r hn H
def f_X12_qEndsPart (h : KH) (v0 : Nat) : Option (KH) :=
  kb (kloop (f_X12_qEndsPart_l0 v0) KF h) fun e1 =>
  some e1
set_option maxHeartbeats 4000000 in
set_option maxRecDepth 100000 in
theorem s0_X12_qEndsPart {Z : Nat → (Nat → Nat) → State → Prop} (h : KH) (v0 : Nat) {t : KH} (hn : h.1 = 243) (H : f_X12_qEndsPart h v0 = some t) : KX Z RX12 cX12_qEndsPart 1 false 3 (KRv cX12_qEndsPart t) 0 [(0, .ref v0)] [] h := by
  unfold f_X12_qEndsPart at H
  refine x_sub (ls2 := [(0, .ref v0)]) [0] rfl ?_
  replace H := kbe H; obtain ⟨e1, c2, H⟩ := H
  refine x_app (sl_X12_qEndsPart_l0 v0 KF h e1 hn c2) fun pc2 ls2 st2 h2 hg m3 => ?_
  obtain ⟨rfl, rfl, rfl, rfl⟩ := hg
  cases H
  exact x_end ⟨dX12_qEndsPart_51, rfl, rfl⟩
theorem s_X12_qEndsPart {Z : Nat → (Nat → Nat) → State → Prop} (h : KH) (v0 : Nat) {t : KH} (hn : h.1 = 243) (H : f_X12_qEndsPart h v0 = some t) : KM Z yX12_qEndsPart cX12_qEndsPart 1 none 3 [.ref v0] h none t :=
  kx_v (own := RX12) (ini := false) (by decide +kernel) (by decide +kernel) rfl (Nat.le_of_ble_eq_true rfl) (s0_X12_qEndsPart h v0 hn H)
theorem dX12_qPartTold_0 : decode cX12_qPartTold 0 = .ok (.iconst 1, 1) := by decide +kernel
theorem dX12_qPartTold_1 : decode cX12_qPartTold 1 = .ok (.istore_n 1, 1) := by decide +kernel
theorem dX12_qPartTold_2 : decode cX12_qPartTold 2 = .ok (.iload_n 1, 1) := by decide +kernel
theorem dX12_qPartTold_3 : decode cX12_qPartTold 3 = .ok (.ifCond .eq 183, 3) := by decide +kernel
theorem dX12_qPartTold_6 : decode cX12_qPartTold 6 = .ok (.aload_n 0, 1) := by decide +kernel
theorem dX12_qPartTold_7 : decode cX12_qPartTold 7 = .ok (.getfield 230, 3) := by decide +kernel
theorem dX12_qPartTold_10 : decode cX12_qPartTold 10 = .ok (.ifCond .ne 176, 3) := by decide +kernel
theorem dX12_qPartTold_13 : decode cX12_qPartTold 13 = .ok (.aload_n 0, 1) := by decide +kernel
theorem dX12_qPartTold_14 : decode cX12_qPartTold 14 = .ok (.invokevirtual 242, 3) := by decide +kernel
theorem dX12_qPartTold_17 : decode cX12_qPartTold 17 = .ok (.istore_n 2, 1) := by decide +kernel
theorem dX12_qPartTold_18 : decode cX12_qPartTold 18 = .ok (.aload_n 0, 1) := by decide +kernel
theorem dX12_qPartTold_19 : decode cX12_qPartTold 19 = .ok (.bipush 8, 2) := by decide +kernel
theorem dX12_qPartTold_21 : decode cX12_qPartTold 21 = .ok (.bipush 9, 2) := by decide +kernel
theorem dX12_qPartTold_23 : decode cX12_qPartTold 23 = .ok (.invokevirtual 565, 3) := by decide +kernel
theorem dX12_qPartTold_26 : decode cX12_qPartTold 26 = .ok (.istore_n 3, 1) := by decide +kernel
theorem dX12_qPartTold_27 : decode cX12_qPartTold 27 = .ok (.iload_n 2, 1) := by decide +kernel
theorem dX12_qPartTold_28 : decode cX12_qPartTold 28 = .ok (.bipush 40, 2) := by decide +kernel
theorem dX12_qPartTold_30 : decode cX12_qPartTold 30 = .ok (.if_icmp .ne 26, 3) := by decide +kernel
theorem dX12_qPartTold_33 : decode cX12_qPartTold 33 = .ok (.aload_n 0, 1) := by decide +kernel
theorem dX12_qPartTold_34 : decode cX12_qPartTold 34 = .ok (.bipush 20, 2) := by decide +kernel
theorem dX12_qPartTold_36 : decode cX12_qPartTold 36 = .ok (.aload_n 0, 1) := by decide +kernel
theorem dX12_qPartTold_37 : decode cX12_qPartTold 37 = .ok (.getfield 236, 3) := by decide +kernel
theorem dX12_qPartTold_40 : decode cX12_qPartTold 40 = .ok (.invokevirtual 568, 3) := by decide +kernel
theorem dX12_qPartTold_43 : decode cX12_qPartTold 43 = .ok (.aload_n 0, 1) := by decide +kernel
theorem dX12_qPartTold_44 : decode cX12_qPartTold 44 = .ok (.dup, 1) := by decide +kernel
theorem dX12_qPartTold_45 : decode cX12_qPartTold 45 = .ok (.getfield 236, 3) := by decide +kernel
theorem dX12_qPartTold_48 : decode cX12_qPartTold 48 = .ok (.iconst 1, 1) := by decide +kernel
theorem dX12_qPartTold_49 : decode cX12_qPartTold 49 = .ok (.iadd, 1) := by decide +kernel
theorem dX12_qPartTold_50 : decode cX12_qPartTold 50 = .ok (.putfield 236, 3) := by decide +kernel
theorem dX12_qPartTold_53 : decode cX12_qPartTold 53 = .ok (.goto 130, 3) := by decide +kernel
theorem dX12_qPartTold_56 : decode cX12_qPartTold 56 = .ok (.aload_n 0, 1) := by decide +kernel
theorem dX12_qPartTold_57 : decode cX12_qPartTold 57 = .ok (.aload_n 0, 1) := by decide +kernel
theorem dX12_qPartTold_58 : decode cX12_qPartTold 58 = .ok (.getfield 182, 3) := by decide +kernel
theorem dX12_qPartTold_61 : decode cX12_qPartTold 61 = .ok (.invokevirtual 253, 3) := by decide +kernel
theorem dX12_qPartTold_64 : decode cX12_qPartTold 64 = .ok (.ifCond .ne 14, 3) := by decide +kernel
theorem dX12_qPartTold_67 : decode cX12_qPartTold 67 = .ok (.aload_n 0, 1) := by decide +kernel
theorem dX12_qPartTold_68 : decode cX12_qPartTold 68 = .ok (.aload_n 0, 1) := by decide +kernel
theorem dX12_qPartTold_69 : decode cX12_qPartTold 69 = .ok (.getfield 185, 3) := by decide +kernel
theorem dX12_qPartTold_72 : decode cX12_qPartTold 72 = .ok (.invokevirtual 253, 3) := by decide +kernel
theorem dX12_qPartTold_75 : decode cX12_qPartTold 75 = .ok (.ifCond .eq 78, 3) := by decide +kernel
theorem dX12_qPartTold_78 : decode cX12_qPartTold 78 = .ok (.aload_n 0, 1) := by decide +kernel
theorem dX12_qPartTold_79 : decode cX12_qPartTold 79 = .ok (.aload_n 0, 1) := by decide +kernel
theorem dX12_qPartTold_80 : decode cX12_qPartTold 80 = .ok (.getfield 182, 3) := by decide +kernel
theorem dX12_qPartTold_83 : decode cX12_qPartTold 83 = .ok (.invokevirtual 257, 3) := by decide +kernel
theorem dX12_qPartTold_86 : decode cX12_qPartTold 86 = .ok (.istore 4, 2) := by decide +kernel
theorem dX12_qPartTold_88 : decode cX12_qPartTold 88 = .ok (.iload 4, 2) := by decide +kernel
theorem dX12_qPartTold_90 : decode cX12_qPartTold 90 = .ok (.ifCond .ne 11, 3) := by decide +kernel
theorem dX12_qPartTold_93 : decode cX12_qPartTold 93 = .ok (.aload_n 0, 1) := by decide +kernel
theorem dX12_qPartTold_94 : decode cX12_qPartTold 94 = .ok (.aload_n 0, 1) := by decide +kernel
theorem dX12_qPartTold_95 : decode cX12_qPartTold 95 = .ok (.getfield 185, 3) := by decide +kernel
theorem dX12_qPartTold_98 : decode cX12_qPartTold 98 = .ok (.invokevirtual 300, 3) := by decide +kernel
theorem dX12_qPartTold_101 : decode cX12_qPartTold 101 = .ok (.aload_n 0, 1) := by decide +kernel
theorem dX12_qPartTold_102 : decode cX12_qPartTold 102 = .ok (.invokevirtual 242, 3) := by decide +kernel
theorem dX12_qPartTold_105 : decode cX12_qPartTold 105 = .ok (.bipush 40, 2) := by decide +kernel
theorem dX12_qPartTold_107 : decode cX12_qPartTold 107 = .ok (.if_icmp .ne 10, 3) := by decide +kernel
theorem dX12_qPartTold_110 : decode cX12_qPartTold 110 = .ok (.aload_n 0, 1) := by decide +kernel
theorem dX12_qPartTold_111 : decode cX12_qPartTold 111 = .ok (.getfield 236, 3) := by decide +kernel
theorem dX12_qPartTold_114 : decode cX12_qPartTold 114 = .ok (.goto 4, 3) := by decide +kernel
theorem dX12_qPartTold_117 : decode cX12_qPartTold 117 = .ok (.iconst (-1), 1) := by decide +kernel
theorem dX12_qPartTold_118 : decode cX12_qPartTold 118 = .ok (.istore 5, 2) := by decide +kernel
theorem dX12_qPartTold_120 : decode cX12_qPartTold 120 = .ok (.iload 5, 2) := by decide +kernel
theorem dX12_qPartTold_122 : decode cX12_qPartTold 122 = .ok (.iconst (-1), 1) := by decide +kernel
theorem dX12_qPartTold_123 : decode cX12_qPartTold 123 = .ok (.if_icmp .eq 21, 3) := by decide +kernel
theorem dX12_qPartTold_126 : decode cX12_qPartTold 126 = .ok (.aload_n 0, 1) := by decide +kernel
theorem dX12_qPartTold_127 : decode cX12_qPartTold 127 = .ok (.iload 4, 2) := by decide +kernel
theorem dX12_qPartTold_129 : decode cX12_qPartTold 129 = .ok (.ifCond .eq 8, 3) := by decide +kernel
theorem dX12_qPartTold_132 : decode cX12_qPartTold 132 = .ok (.bipush 21, 2) := by decide +kernel
theorem dX12_qPartTold_134 : decode cX12_qPartTold 134 = .ok (.goto 5, 3) := by decide +kernel
theorem dX12_qPartTold_137 : decode cX12_qPartTold 137 = .ok (.bipush 22, 2) := by decide +kernel
theorem dX12_qPartTold_139 : decode cX12_qPartTold 139 = .ok (.iload 5, 2) := by decide +kernel
theorem dX12_qPartTold_141 : decode cX12_qPartTold 141 = .ok (.invokevirtual 568, 3) := by decide +kernel
theorem dX12_qPartTold_144 : decode cX12_qPartTold 144 = .ok (.aload_n 0, 1) := by decide +kernel
theorem dX12_qPartTold_145 : decode cX12_qPartTold 145 = .ok (.bipush 40, 2) := by decide +kernel
theorem dX12_qPartTold_147 : decode cX12_qPartTold 147 = .ok (.invokevirtual 346, 3) := by decide +kernel
theorem dX12_qPartTold_150 : decode cX12_qPartTold 150 = .ok (.goto 33, 3) := by decide +kernel
theorem dX12_qPartTold_153 : decode cX12_qPartTold 153 = .ok (.iload_n 3, 1) := by decide +kernel
theorem dX12_qPartTold_154 : decode cX12_qPartTold 154 = .ok (.iconst (-1), 1) := by decide +kernel
theorem dX12_qPartTold_155 : decode cX12_qPartTold 155 = .ok (.if_icmp .eq 26, 3) := by decide +kernel
theorem dX12_qPartTold_158 : decode cX12_qPartTold 158 = .ok (.aload_n 0, 1) := by decide +kernel
theorem dX12_qPartTold_159 : decode cX12_qPartTold 159 = .ok (.bipush 60, 2) := by decide +kernel
theorem dX12_qPartTold_161 : decode cX12_qPartTold 161 = .ok (.iload_n 3, 1) := by decide +kernel
theorem dX12_qPartTold_162 : decode cX12_qPartTold 162 = .ok (.iadd, 1) := by decide +kernel
theorem dX12_qPartTold_163 : decode cX12_qPartTold 163 = .ok (.bipush 8, 2) := by decide +kernel
theorem dX12_qPartTold_165 : decode cX12_qPartTold 165 = .ok (.isub, 1) := by decide +kernel
theorem dX12_qPartTold_166 : decode cX12_qPartTold 166 = .ok (.aload_n 0, 1) := by decide +kernel
theorem dX12_qPartTold_167 : decode cX12_qPartTold 167 = .ok (.getfield 236, 3) := by decide +kernel
theorem dX12_qPartTold_170 : decode cX12_qPartTold 170 = .ok (.invokevirtual 568, 3) := by decide +kernel
theorem dX12_qPartTold_173 : decode cX12_qPartTold 173 = .ok (.aload_n 0, 1) := by decide +kernel
theorem dX12_qPartTold_174 : decode cX12_qPartTold 174 = .ok (.iload_n 3, 1) := by decide +kernel
theorem dX12_qPartTold_175 : decode cX12_qPartTold 175 = .ok (.invokevirtual 571, 3) := by decide +kernel
theorem dX12_qPartTold_178 : decode cX12_qPartTold 178 = .ok (.goto 5, 3) := by decide +kernel
theorem dX12_qPartTold_181 : decode cX12_qPartTold 181 = .ok (.iconst 0, 1) := by decide +kernel
theorem dX12_qPartTold_182 : decode cX12_qPartTold 182 = .ok (.istore_n 1, 1) := by decide +kernel
theorem dX12_qPartTold_183 : decode cX12_qPartTold 183 = .ok (.goto (-181), 3) := by decide +kernel
theorem dX12_qPartTold_186 : decode cX12_qPartTold 186 = .ok (.aload_n 0, 1) := by decide +kernel
theorem dX12_qPartTold_187 : decode cX12_qPartTold 187 = .ok (.getfield 230, 3) := by decide +kernel
theorem dX12_qPartTold_190 : decode cX12_qPartTold 190 = .ok (.ifCond .eq 4, 3) := by decide +kernel
theorem dX12_qPartTold_193 : decode cX12_qPartTold 193 = .ok (.return_, 1) := by decide +kernel
theorem dX12_qPartTold_194 : decode cX12_qPartTold 194 = .ok (.aload_n 0, 1) := by decide +kernel
theorem dX12_qPartTold_195 : decode cX12_qPartTold 195 = .ok (.iconst 0, 1) := by decide +kernel
theorem dX12_qPartTold_196 : decode cX12_qPartTold 196 = .ok (.bipush 8, 2) := by decide +kernel
theorem dX12_qPartTold_198 : decode cX12_qPartTold 198 = .ok (.invokevirtual 565, 3) := by decide +kernel
theorem dX12_qPartTold_201 : decode cX12_qPartTold 201 = .ok (.istore_n 2, 1) := by decide +kernel
theorem dX12_qPartTold_202 : decode cX12_qPartTold 202 = .ok (.iload_n 2, 1) := by decide +kernel
theorem dX12_qPartTold_203 : decode cX12_qPartTold 203 = .ok (.iconst (-1), 1) := by decide +kernel
theorem dX12_qPartTold_204 : decode cX12_qPartTold 204 = .ok (.if_icmp .eq 8, 3) := by decide +kernel
theorem dX12_qPartTold_207 : decode cX12_qPartTold 207 = .ok (.aload_n 0, 1) := by decide +kernel
theorem dX12_qPartTold_208 : decode cX12_qPartTold 208 = .ok (.iload_n 2, 1) := by decide +kernel
theorem dX12_qPartTold_209 : decode cX12_qPartTold 209 = .ok (.invokevirtual 571, 3) := by decide +kernel
theorem dX12_qPartTold_212 : decode cX12_qPartTold 212 = .ok (.aload_n 0, 1) := by decide +kernel
theorem dX12_qPartTold_213 : decode cX12_qPartTold 213 = .ok (.iload_n 2, 1) := by decide +kernel
theorem dX12_qPartTold_214 : decode cX12_qPartTold 214 = .ok (.iconst (-1), 1) := by decide +kernel
theorem dX12_qPartTold_215 : decode cX12_qPartTold 215 = .ok (.if_icmp .eq 10, 3) := by decide +kernel
theorem dX12_qPartTold_218 : decode cX12_qPartTold 218 = .ok (.bipush 40, 2) := by decide +kernel
theorem dX12_qPartTold_220 : decode cX12_qPartTold 220 = .ok (.iload_n 2, 1) := by decide +kernel
theorem dX12_qPartTold_221 : decode cX12_qPartTold 221 = .ok (.iadd, 1) := by decide +kernel
theorem dX12_qPartTold_222 : decode cX12_qPartTold 222 = .ok (.goto 15, 3) := by decide +kernel
theorem dX12_qPartTold_225 : decode cX12_qPartTold 225 = .ok (.sipush 1000, 3) := by decide +kernel
theorem dX12_qPartTold_228 : decode cX12_qPartTold 228 = .ok (.aload_n 0, 1) := by decide +kernel
theorem dX12_qPartTold_229 : decode cX12_qPartTold 229 = .ok (.iconst 0, 1) := by decide +kernel
theorem dX12_qPartTold_230 : decode cX12_qPartTold 230 = .ok (.sipush 9999, 3) := by decide +kernel
theorem dX12_qPartTold_233 : decode cX12_qPartTold 233 = .ok (.invokevirtual 304, 3) := by decide +kernel
theorem dX12_qPartTold_236 : decode cX12_qPartTold 236 = .ok (.iadd, 1) := by decide +kernel
theorem dX12_qPartTold_237 : decode cX12_qPartTold 237 = .ok (.invokevirtual 550, 3) := by decide +kernel
theorem dX12_qPartTold_240 : decode cX12_qPartTold 240 = .ok (.aload_n 0, 1) := by decide +kernel
theorem dX12_qPartTold_241 : decode cX12_qPartTold 241 = .ok (.invokevirtual 574, 3) := by decide +kernel
theorem dX12_qPartTold_244 : decode cX12_qPartTold 244 = .ok (.return_, 1) := by decide +kernel
theorem kc_RX12_565 : Cond.methodLink RX12 565 yX12_qWordOf ∈ ktG ∧ (Cond.instanceMethod yX12_qWordOf ∈ ktG ∧ Cond.selects yX12_qWordOf.cls yX12_qWordOf yX12_qWordOf ∈ ktG) ∧ Cond.initialized yX12_qWordOf.cls ∈ ktG ∧ Cond.code yX12_qWordOf cX12_qWordOf 4 (some .int) ∈ ktG := ⟨(kwm 1601 (by decide +kernel) (by decide +kernel)), ⟨(kwm 1603 (by decide +kernel) (by decide +kernel)), (kwm 58 (by decide +kernel) (by decide +kernel))⟩, (kwm 139 (by decide +kernel) (by decide +kernel)), kwm 1604 (by decide +kernel) (by decide +kernel)⟩
theorem kh_X12_qWordOf : yX12_qWordOf.cls ≠ "java/lang/invoke/MethodHandle" ∧ yX12_qWordOf.cls ≠ "java/lang/invoke/VarHandle" ∧ (parseMethodDescriptor yX12_qWordOf.desc).map (fun d => d.parameters.length) = some 2 := by decide +kernel
theorem kl_RX12_182 : KLk RX12 182 12 74 := ⟨RX12, TX12, 97, rfl, by decide, Or.inl (kwm 1271 (by decide +kernel) (by decide +kernel))⟩
theorem kc_RX12_346 : Cond.methodLink RX12 346 yX12_asksSign ∈ ktG ∧ (Cond.instanceMethod yX12_asksSign ∈ ktG ∧ Cond.selects yX12_asksSign.cls yX12_asksSign yX12_asksSign ∈ ktG) ∧ Cond.initialized yX12_asksSign.cls ∈ ktG ∧ Cond.code yX12_asksSign cX12_asksSign 2 none ∈ ktG := ⟨(kwm 1613 (by decide +kernel) (by decide +kernel)), ⟨(kwm 1615 (by decide +kernel) (by decide +kernel)), (kwm 61 (by decide +kernel) (by decide +kernel))⟩, (kwm 139 (by decide +kernel) (by decide +kernel)), kwm 1616 (by decide +kernel) (by decide +kernel)⟩
theorem kh_X12_asksSign : yX12_asksSign.cls ≠ "java/lang/invoke/MethodHandle" ∧ yX12_asksSign.cls ≠ "java/lang/invoke/VarHandle" ∧ (parseMethodDescriptor yX12_asksSign.desc).map (fun d => d.parameters.length) = some 1 := by decide +kernel
theorem kc_RX12_568 : Cond.methodLink RX12 568 yX12_qOpens ∈ ktG ∧ (Cond.instanceMethod yX12_qOpens ∈ ktG ∧ Cond.selects yX12_qOpens.cls yX12_qOpens yX12_qOpens ∈ ktG) ∧ Cond.initialized yX12_qOpens.cls ∈ ktG ∧ Cond.code yX12_qOpens cX12_qOpens 3 none ∈ ktG := ⟨(kwm 1581 (by decide +kernel) (by decide +kernel)), ⟨(kwm 1583 (by decide +kernel) (by decide +kernel)), (kwm 53 (by decide +kernel) (by decide +kernel))⟩, (kwm 139 (by decide +kernel) (by decide +kernel)), kwm 1584 (by decide +kernel) (by decide +kernel)⟩
theorem kh_X12_qOpens : yX12_qOpens.cls ≠ "java/lang/invoke/MethodHandle" ∧ yX12_qOpens.cls ≠ "java/lang/invoke/VarHandle" ∧ (parseMethodDescriptor yX12_qOpens.desc).map (fun d => d.parameters.length) = some 2 := by decide +kernel
theorem kl_RX12_185 : KLk RX12 185 12 75 := ⟨RX12, TX12, 97, rfl, by decide, Or.inl (kwm 1272 (by decide +kernel) (by decide +kernel))⟩
theorem kc_RX12_571 : Cond.methodLink RX12 571 yX12_qAsksWord ∈ ktG ∧ (Cond.instanceMethod yX12_qAsksWord ∈ ktG ∧ Cond.selects yX12_qAsksWord.cls yX12_qAsksWord yX12_qAsksWord ∈ ktG) ∧ Cond.initialized yX12_qAsksWord.cls ∈ ktG ∧ Cond.code yX12_qAsksWord cX12_qAsksWord 2 none ∈ ktG := ⟨(kwm 1621 (by decide +kernel) (by decide +kernel)), ⟨(kwm 1623 (by decide +kernel) (by decide +kernel)), (kwm 63 (by decide +kernel) (by decide +kernel))⟩, (kwm 139 (by decide +kernel) (by decide +kernel)), kwm 1624 (by decide +kernel) (by decide +kernel)⟩
theorem kh_X12_qAsksWord : yX12_qAsksWord.cls ≠ "java/lang/invoke/MethodHandle" ∧ yX12_qAsksWord.cls ≠ "java/lang/invoke/VarHandle" ∧ (parseMethodDescriptor yX12_qAsksWord.desc).map (fun d => d.parameters.length) = some 1 := by decide +kernel
theorem kc_RX12_574 : Cond.methodLink RX12 574 yX12_qEndsPart ∈ ktG ∧ (Cond.instanceMethod yX12_qEndsPart ∈ ktG ∧ Cond.selects yX12_qEndsPart.cls yX12_qEndsPart yX12_qEndsPart ∈ ktG) ∧ Cond.initialized yX12_qEndsPart.cls ∈ ktG ∧ Cond.code yX12_qEndsPart cX12_qEndsPart 1 none ∈ ktG := ⟨(kwm 1625 (by decide +kernel) (by decide +kernel)), ⟨(kwm 1627 (by decide +kernel) (by decide +kernel)), (kwm 64 (by decide +kernel) (by decide +kernel))⟩, (kwm 139 (by decide +kernel) (by decide +kernel)), kwm 1628 (by decide +kernel) (by decide +kernel)⟩
theorem kh_X12_qEndsPart : yX12_qEndsPart.cls ≠ "java/lang/invoke/MethodHandle" ∧ yX12_qEndsPart.cls ≠ "java/lang/invoke/VarHandle" ∧ (parseMethodDescriptor yX12_qEndsPart.desc).map (fun d => d.parameters.length) = some 0 := by decide +kernel
def E_X12_qPartTold_l2 (v0 : Nat) : KH → Nat → List (Nat × Value) → List Value → KH → Prop := fun (e : KH) pc ls st hh => pc = 186 ∧ ls = [(0, .ref v0)] ∧ st = [] ∧ e = hh
def B_X12_qPartTold_l2 (v0 : Nat) : ((Int32 × KH) ⊕ (KH)) → Nat → List (Nat × Value) → List Value → KH → Prop := Sum.elim (fun (s : Int32 × KH) pc ls st hh => pc = 2 ∧ ls = [(0, .ref v0), (1, .int s.1)] ∧ st = [] ∧ hh = s.2) (E_X12_qPartTold_l2 v0)
def f_X12_qPartTold_b183 (h : KH) (v0 : Nat) (v1 : Int32) : Option ((Int32 × KH) ⊕ (KH)) :=
  some (.inl (v1, h))
set_option maxHeartbeats 4000000 in
set_option maxRecDepth 100000 in
theorem s_X12_qPartTold_b183 {Z : Nat → (Nat → Nat) → State → Prop} (h : KH) (v0 : Nat) (v1 : Int32) {t : (Int32 × KH) ⊕ (KH)} (hn : h.1 = 243) (H : f_X12_qPartTold_b183 h v0 v1 = some t) : KX Z RX12 cX12_qPartTold 6 false 6 (B_X12_qPartTold_l2 v0 t) 183 [(0, .ref v0), (1, .int v1)] [] h := by
  unfold f_X12_qPartTold_b183 at H
  refine x_goto dX12_qPartTold_183 (q := 2) (by decide) ?_
  cases H
  refine x_sub (ls2 := [(0, .ref v0), (1, .int v1)]) [0, 1] rfl ?_
  exact x_end (x_cfg rfl)
def f_X12_qPartTold_b144 (h : KH) (v0 : Nat) (v1 : Int32) : Option ((Int32 × KH) ⊕ (KH)) :=
  if kkind v0 = 12 then kb (f_X12_asksSign h v0 (40 : Int32)) fun r2 =>
  f_X12_qPartTold_b183 r2 v0 v1 else none
set_option maxHeartbeats 4000000 in
set_option maxRecDepth 100000 in
theorem s_X12_qPartTold_b144 {Z : Nat → (Nat → Nat) → State → Prop} (h : KH) (v0 : Nat) (v1 : Int32) {t : (Int32 × KH) ⊕ (KH)} (hn : h.1 = 243) (H : f_X12_qPartTold_b144 h v0 v1 = some t) : KX Z RX12 cX12_qPartTold 6 false 6 (B_X12_qPartTold_l2 v0 t) 144 [(0, .ref v0), (1, .int v1)] [] h := by
  unfold f_X12_qPartTold_b144 at H
  refine x_aload_n (q := 145) dX12_qPartTold_144 rfl rfl ?_
  refine x_bipush (q := 147) (v := (40 : Int32)) dX12_qPartTold_145 rfl (by decide) ?_
  replace H := kif H; obtain ⟨g1, H⟩ := H
  replace H := kbe H; obtain ⟨r2, c3, H⟩ := H
  have m4 := s_X12_asksSign (Z := Z) h v0 (40 : Int32) hn c3
  refine x_callV (q := 150) (as := [.int (40 : Int32)]) (rest := []) dX12_qPartTold_147 rfl kc_RX12_346 kh_X12_asksSign (by decide) (Nat.le_of_ble_eq_true rfl) m4 (ci := 12) (by exact ⟨rfl, by decide⟩) (k243 g1 (by decide) hn) ?_
  have n5 : (r2).1 = 243 := m4.1.full hn
  refine x_goto dX12_qPartTold_150 (q := 183) (by decide) ?_
  refine x_sub (ls2 := [(0, .ref v0), (1, .int v1)]) [0, 1] rfl ?_
  exact s_X12_qPartTold_b183 r2 v0 v1 n5 H
def f_X12_qPartTold_b139 (h : KH) (v0 : Nat) (v1 : Int32) (v5 : Int32) (w0 : Nat) (w1 : Int32) : Option ((Int32 × KH) ⊕ (KH)) :=
  if kkind w0 = 12 then kb (f_X12_qOpens h w0 w1 v5) fun r2 =>
  f_X12_qPartTold_b144 r2 v0 v1 else none
set_option maxHeartbeats 4000000 in
set_option maxRecDepth 100000 in
theorem s_X12_qPartTold_b139 {Z : Nat → (Nat → Nat) → State → Prop} (h : KH) (v0 : Nat) (v1 : Int32) (v5 : Int32) (w0 : Nat) (w1 : Int32) {t : (Int32 × KH) ⊕ (KH)} (hn : h.1 = 243) (H : f_X12_qPartTold_b139 h v0 v1 v5 w0 w1 = some t) : KX Z RX12 cX12_qPartTold 6 false 6 (B_X12_qPartTold_l2 v0 t) 139 [(0, .ref v0), (1, .int v1), (5, .int v5)] [.int w1, .ref w0] h := by
  unfold f_X12_qPartTold_b139 at H
  refine x_iload (q := 141) dX12_qPartTold_139 rfl rfl ?_
  replace H := kif H; obtain ⟨g1, H⟩ := H
  replace H := kbe H; obtain ⟨r2, c3, H⟩ := H
  have m4 := s_X12_qOpens (Z := Z) h w0 w1 v5 hn c3
  refine x_callV (q := 144) (as := [.int w1, .int v5]) (rest := []) dX12_qPartTold_141 rfl kc_RX12_568 kh_X12_qOpens (by decide) (Nat.le_of_ble_eq_true rfl) m4 (ci := 12) (by exact ⟨rfl, by decide⟩) (k243 g1 (by decide) hn) ?_
  have n5 : (r2).1 = 243 := m4.1.full hn
  refine x_sub (ls2 := [(0, .ref v0), (1, .int v1)]) [0, 1] rfl ?_
  exact s_X12_qPartTold_b144 r2 v0 v1 n5 H
def f_X12_qPartTold_b118 (h : KH) (v0 : Nat) (v1 : Int32) (v4 : Int32) (w0 : Int32) : Option ((Int32 × KH) ⊕ (KH)) :=
  if w0 = (-1 : Int32) then
  f_X12_qPartTold_b144 h v0 v1
  else
  if v4 = 0 then
  f_X12_qPartTold_b139 h v0 v1 w0 v0 (22 : Int32)
  else
  f_X12_qPartTold_b139 h v0 v1 w0 v0 (21 : Int32)
set_option maxHeartbeats 4000000 in
set_option maxRecDepth 100000 in
theorem s_X12_qPartTold_b118 {Z : Nat → (Nat → Nat) → State → Prop} (h : KH) (v0 : Nat) (v1 : Int32) (v4 : Int32) (w0 : Int32) {t : (Int32 × KH) ⊕ (KH)} (hn : h.1 = 243) (H : f_X12_qPartTold_b118 h v0 v1 v4 w0 = some t) : KX Z RX12 cX12_qPartTold 6 false 6 (B_X12_qPartTold_l2 v0 t) 118 [(0, .ref v0), (1, .int v1), (4, .int v4)] [.int w0] h := by
  unfold f_X12_qPartTold_b118 at H
  refine x_istore (q := 120) (i := 5) (ls2 := [(5, .int w0), (0, .ref v0), (1, .int v1), (4, .int v4)]) dX12_qPartTold_118 rfl (by decide) rfl ?_
  refine x_iload (q := 122) dX12_qPartTold_120 rfl rfl ?_
  refine x_iconst (q := 123) (v := (-1 : Int32)) dX12_qPartTold_122 rfl (by decide) ?_
  replace H := kite H; rcases H with ⟨g1, H⟩ | ⟨g1, H⟩
  · refine x_icmp_eq_t dX12_qPartTold_123 (q := 144) (by decide) g1 ?_
    refine x_sub (ls2 := [(0, .ref v0), (1, .int v1)]) [1, 2] rfl ?_
    exact s_X12_qPartTold_b144 h v0 v1 hn H
  · refine x_icmp_eq_f (q := 126) dX12_qPartTold_123 (t := 144) (by decide) rfl g1 ?_
    refine x_aload_n (q := 127) dX12_qPartTold_126 rfl rfl ?_
    refine x_iload (q := 129) dX12_qPartTold_127 rfl rfl ?_
    replace H := kite H; rcases H with ⟨g2, H⟩ | ⟨g2, H⟩
    · refine x_if_eq_t dX12_qPartTold_129 (q := 137) (by decide) g2 ?_
      refine x_bipush (q := 139) (v := (22 : Int32)) dX12_qPartTold_137 rfl (by decide) ?_
      refine x_sub (ls2 := [(0, .ref v0), (1, .int v1), (5, .int w0)]) [1, 2, 0] rfl ?_
      exact s_X12_qPartTold_b139 h v0 v1 w0 v0 (22 : Int32) hn H
    · refine x_if_eq_f (q := 132) dX12_qPartTold_129 (t := 137) (by decide) rfl g2 ?_
      refine x_bipush (q := 134) (v := (21 : Int32)) dX12_qPartTold_132 rfl (by decide) ?_
      refine x_goto dX12_qPartTold_134 (q := 139) (by decide) ?_
      refine x_sub (ls2 := [(0, .ref v0), (1, .int v1), (5, .int w0)]) [1, 2, 0] rfl ?_
      exact s_X12_qPartTold_b139 h v0 v1 w0 v0 (21 : Int32) hn H
def f_X12_qPartTold_b101 (h : KH) (v0 : Nat) (v1 : Int32) (v4 : Int32) : Option ((Int32 × KH) ⊕ (KH)) :=
  if kkind v0 = 12 then kb (f_X12_look0 h v0) fun r2 =>
  if r2.1 = (40 : Int32) then
  f_X12_qPartTold_b118 r2.2 v0 v1 v4 (kI r2.2 v0 2)
  else
  f_X12_qPartTold_b118 r2.2 v0 v1 v4 (-1 : Int32) else none
set_option maxHeartbeats 4000000 in
set_option maxRecDepth 100000 in
theorem s_X12_qPartTold_b101 {Z : Nat → (Nat → Nat) → State → Prop} (h : KH) (v0 : Nat) (v1 : Int32) (v4 : Int32) {t : (Int32 × KH) ⊕ (KH)} (hn : h.1 = 243) (H : f_X12_qPartTold_b101 h v0 v1 v4 = some t) : KX Z RX12 cX12_qPartTold 6 false 6 (B_X12_qPartTold_l2 v0 t) 101 [(0, .ref v0), (1, .int v1), (4, .int v4)] [] h := by
  unfold f_X12_qPartTold_b101 at H
  refine x_aload_n (q := 102) dX12_qPartTold_101 rfl rfl ?_
  replace H := kif H; obtain ⟨g1, H⟩ := H
  replace H := kbe H; obtain ⟨r2, c3, H⟩ := H
  have m4 := s_X12_look0 (Z := Z) h v0 hn c3
  refine x_callV (q := 105) (as := []) (rest := []) dX12_qPartTold_102 rfl kc_RX12_242 kh_X12_look0 (by decide) (Nat.le_of_ble_eq_true rfl) m4 (ci := 12) (by exact ⟨rfl, by decide⟩) (k243 g1 (by decide) hn) ?_
  have n5 : (r2.2).1 = 243 := m4.1.full hn
  refine x_bipush (q := 107) (v := (40 : Int32)) dX12_qPartTold_105 rfl (by decide) ?_
  replace H := kite H; rcases H with ⟨g6, H⟩ | ⟨g6, H⟩
  · refine x_icmp_ne_f (q := 110) dX12_qPartTold_107 (t := 117) (by decide) rfl g6 ?_
    refine x_aload_n (q := 111) dX12_qPartTold_110 rfl rfl ?_
    refine x_getI (q := 114) dX12_qPartTold_111 rfl kl_RX12_236 (Or.inl rfl) (k243 g1 (by decide) n5) ?_
    refine x_goto dX12_qPartTold_114 (q := 118) (by decide) ?_
    refine x_sub (ls2 := [(0, .ref v0), (1, .int v1), (4, .int v4)]) [0, 1, 2] rfl ?_
    exact s_X12_qPartTold_b118 r2.2 v0 v1 v4 (kI r2.2 v0 2) n5 H
  · refine x_icmp_ne_t dX12_qPartTold_107 (q := 117) (by decide) g6 ?_
    refine x_iconst (q := 118) (v := (-1 : Int32)) dX12_qPartTold_117 rfl (by decide) ?_
    refine x_sub (ls2 := [(0, .ref v0), (1, .int v1), (4, .int v4)]) [0, 1, 2] rfl ?_
    exact s_X12_qPartTold_b118 r2.2 v0 v1 v4 (-1 : Int32) n5 H
def f_X12_qPartTold_b78 (h : KH) (v0 : Nat) (v1 : Int32) : Option ((Int32 × KH) ⊕ (KH)) :=
  if kkind v0 = 12 then if (kR h v0 74) < 999999 then kb (f_X12_takes h v0 (kR h v0 74)) fun r3 =>
  if r3.1 = 0 then
  if (kR r3.2 v0 75) < 999999 then kb (f_X12_asks r3.2 v0 (kR r3.2 v0 75)) fun r9 =>
  f_X12_qPartTold_b101 r9 v0 v1 r3.1 else none
  else
  f_X12_qPartTold_b101 r3.2 v0 v1 r3.1 else none else none
set_option maxHeartbeats 4000000 in
set_option maxRecDepth 100000 in
theorem s_X12_qPartTold_b78 {Z : Nat → (Nat → Nat) → State → Prop} (h : KH) (v0 : Nat) (v1 : Int32) {t : (Int32 × KH) ⊕ (KH)} (hn : h.1 = 243) (H : f_X12_qPartTold_b78 h v0 v1 = some t) : KX Z RX12 cX12_qPartTold 6 false 6 (B_X12_qPartTold_l2 v0 t) 78 [(0, .ref v0), (1, .int v1)] [] h := by
  unfold f_X12_qPartTold_b78 at H
  refine x_aload_n (q := 79) dX12_qPartTold_78 rfl rfl ?_
  refine x_aload_n (q := 80) dX12_qPartTold_79 rfl rfl ?_
  replace H := kif H; obtain ⟨g1, H⟩ := H
  replace H := kif H; obtain ⟨g2, H⟩ := H
  refine x_getR (q := 83) dX12_qPartTold_80 rfl kl_RX12_182 rfl (k243 g1 (by decide) hn) g2 ?_
  replace H := kbe H; obtain ⟨r3, c4, H⟩ := H
  have m5 := s_X12_takes (Z := Z) h v0 (kR h v0 74) hn c4
  refine x_callV (q := 86) (as := [.ref (kR h v0 74)]) (rest := []) dX12_qPartTold_83 rfl kc_RX12_257 kh_X12_takes (by decide) (Nat.le_of_ble_eq_true rfl) m5 (ci := 12) (by exact ⟨rfl, by decide⟩) (k243 g1 (by decide) hn) ?_
  have n6 : (r3.2).1 = 243 := m5.1.full hn
  refine x_istore (q := 88) (i := 4) (ls2 := [(4, .int r3.1), (0, .ref v0), (1, .int v1)]) dX12_qPartTold_86 rfl (by decide) rfl ?_
  refine x_iload (q := 90) dX12_qPartTold_88 rfl rfl ?_
  replace H := kite H; rcases H with ⟨g7, H⟩ | ⟨g7, H⟩
  · refine x_if_ne_f (q := 93) dX12_qPartTold_90 (t := 101) (by decide) rfl g7 ?_
    refine x_aload_n (q := 94) dX12_qPartTold_93 rfl rfl ?_
    refine x_aload_n (q := 95) dX12_qPartTold_94 rfl rfl ?_
    replace H := kif H; obtain ⟨g8, H⟩ := H
    refine x_getR (q := 98) dX12_qPartTold_95 rfl kl_RX12_185 rfl (k243 g1 (by decide) n6) g8 ?_
    replace H := kbe H; obtain ⟨r9, c10, H⟩ := H
    have m11 := s_X12_asks (Z := Z) r3.2 v0 (kR r3.2 v0 75) n6 c10
    refine x_callV (q := 101) (as := [.ref (kR r3.2 v0 75)]) (rest := []) dX12_qPartTold_98 rfl kc_RX12_300 kh_X12_asks (by decide) (Nat.le_of_ble_eq_true rfl) m11 (ci := 12) (by exact ⟨rfl, by decide⟩) (k243 g1 (by decide) n6) ?_
    have n12 : (r9).1 = 243 := m11.1.full n6
    refine x_sub (ls2 := [(0, .ref v0), (1, .int v1), (4, .int r3.1)]) [1, 2, 0] rfl ?_
    exact s_X12_qPartTold_b101 r9 v0 v1 r3.1 n12 H
  · refine x_if_ne_t dX12_qPartTold_90 (q := 101) (by decide) g7 ?_
    refine x_sub (ls2 := [(0, .ref v0), (1, .int v1), (4, .int r3.1)]) [1, 2, 0] rfl ?_
    exact s_X12_qPartTold_b101 r3.2 v0 v1 r3.1 n6 H
def f_X12_qPartTold_l2 (v0 : Nat) (s : Int32 × KH) : Option ((Int32 × KH) ⊕ (KH)) :=
  if s.1 = 0 then
  some (.inr s.2)
  else
  if kkind v0 = 12 then if (kI s.2 v0 5) = 0 then
  kb (f_X12_look0 s.2 v0) fun r4 =>
  kb (f_X12_qWordOf r4.2 v0 (8 : Int32) (9 : Int32)) fun r8 =>
  if r4.1 = (40 : Int32) then
  kb (f_X12_qOpens r8.2 v0 (20 : Int32) (kI r8.2 v0 2)) fun r34 =>
  kl (ksI r34 v0 2 ((kI r34 v0 2) + (1 : Int32))) fun h38 =>
  f_X12_qPartTold_b183 h38 v0 s.1
  else
  if (kR r8.2 v0 74) < 999999 then kb (f_X12_isHere r8.2 v0 (kR r8.2 v0 74)) fun r14 =>
  if r14.1 = 0 then
  if (kR r14.2 v0 75) < 999999 then kb (f_X12_isHere r14.2 v0 (kR r14.2 v0 75)) fun r20 =>
  if r20.1 = 0 then
  if r8.1 = (-1 : Int32) then
  f_X12_qPartTold_b183 r20.2 v0 (0 : Int32)
  else
  kb (f_X12_qOpens r20.2 v0 (((60 : Int32) + r8.1) - (8 : Int32)) (kI r20.2 v0 2)) fun r26 =>
  kb (f_X12_qAsksWord r26 v0 r8.1) fun r30 =>
  f_X12_qPartTold_b183 r30 v0 s.1
  else
  f_X12_qPartTold_b78 r20.2 v0 s.1 else none
  else
  f_X12_qPartTold_b78 r14.2 v0 s.1 else none
  else
  some (.inr s.2) else none
set_option maxHeartbeats 4000000 in
set_option maxRecDepth 100000 in
theorem s_X12_qPartTold_l2 {Z : Nat → (Nat → Nat) → State → Prop} (v0 : Nat) (s : Int32 × KH) (t : (Int32 × KH) ⊕ (KH)) (hn : (s.2).1 = 243) (H : f_X12_qPartTold_l2 v0 s = some t) : KX Z RX12 cX12_qPartTold 6 false 6 (B_X12_qPartTold_l2 v0 t) 2 [(0, .ref v0), (1, .int s.1)] [] s.2 := by
  unfold f_X12_qPartTold_l2 at H
  refine x_iload_n (q := 3) dX12_qPartTold_2 rfl rfl ?_
  replace H := kite H; rcases H with ⟨g1, H⟩ | ⟨g1, H⟩
  · refine x_if_eq_t dX12_qPartTold_3 (q := 186) (by decide) g1 ?_
    cases H
    refine x_sub (ls2 := [(0, .ref v0)]) [0] rfl ?_
    exact x_end (x_cfg rfl)
  · refine x_if_eq_f (q := 6) dX12_qPartTold_3 (t := 186) (by decide) rfl g1 ?_
    refine x_aload_n (q := 7) dX12_qPartTold_6 rfl rfl ?_
    replace H := kif H; obtain ⟨g2, H⟩ := H
    refine x_getI (q := 10) dX12_qPartTold_7 rfl kl_RX12_230 (Or.inl rfl) (k243 g2 (by decide) hn) ?_
    replace H := kite H; rcases H with ⟨g3, H⟩ | ⟨g3, H⟩
    · refine x_if_ne_f (q := 13) dX12_qPartTold_10 (t := 186) (by decide) rfl g3 ?_
      refine x_aload_n (q := 14) dX12_qPartTold_13 rfl rfl ?_
      replace H := kbe H; obtain ⟨r4, c5, H⟩ := H
      have m6 := s_X12_look0 (Z := Z) s.2 v0 hn c5
      refine x_callV (q := 17) (as := []) (rest := []) dX12_qPartTold_14 rfl kc_RX12_242 kh_X12_look0 (by decide) (Nat.le_of_ble_eq_true rfl) m6 (ci := 12) (by exact ⟨rfl, by decide⟩) (k243 g2 (by decide) hn) ?_
      have n7 : (r4.2).1 = 243 := m6.1.full hn
      refine x_istore_n (q := 18) (i := 2) (ls2 := [(2, .int r4.1), (0, .ref v0), (1, .int s.1)]) dX12_qPartTold_17 rfl rfl (by decide) rfl ?_
      refine x_aload_n (q := 19) dX12_qPartTold_18 rfl rfl ?_
      refine x_bipush (q := 21) (v := (8 : Int32)) dX12_qPartTold_19 rfl (by decide) ?_
      refine x_bipush (q := 23) (v := (9 : Int32)) dX12_qPartTold_21 rfl (by decide) ?_
      replace H := kbe H; obtain ⟨r8, c9, H⟩ := H
      have m10 := s_X12_qWordOf (Z := Z) r4.2 v0 (8 : Int32) (9 : Int32) n7 c9
      refine x_callV (q := 26) (as := [.int (8 : Int32), .int (9 : Int32)]) (rest := []) dX12_qPartTold_23 rfl kc_RX12_565 kh_X12_qWordOf (by decide) (Nat.le_of_ble_eq_true rfl) m10 (ci := 12) (by exact ⟨rfl, by decide⟩) (k243 g2 (by decide) n7) ?_
      have n11 : (r8.2).1 = 243 := m10.1.full n7
      refine x_istore_n (q := 27) (i := 3) (ls2 := [(3, .int r8.1), (2, .int r4.1), (0, .ref v0), (1, .int s.1)]) dX12_qPartTold_26 rfl rfl (by decide) rfl ?_
      refine x_iload_n (q := 28) dX12_qPartTold_27 rfl rfl ?_
      refine x_bipush (q := 30) (v := (40 : Int32)) dX12_qPartTold_28 rfl (by decide) ?_
      replace H := kite H; rcases H with ⟨g12, H⟩ | ⟨g12, H⟩
      · refine x_icmp_ne_f (q := 33) dX12_qPartTold_30 (t := 56) (by decide) rfl g12 ?_
        refine x_aload_n (q := 34) dX12_qPartTold_33 rfl rfl ?_
        refine x_bipush (q := 36) (v := (20 : Int32)) dX12_qPartTold_34 rfl (by decide) ?_
        refine x_aload_n (q := 37) dX12_qPartTold_36 rfl rfl ?_
        refine x_getI (q := 40) dX12_qPartTold_37 rfl kl_RX12_236 (Or.inl rfl) (k243 g2 (by decide) n11) ?_
        replace H := kbe H; obtain ⟨r34, c35, H⟩ := H
        have m36 := s_X12_qOpens (Z := Z) r8.2 v0 (20 : Int32) (kI r8.2 v0 2) n11 c35
        refine x_callV (q := 43) (as := [.int (20 : Int32), .int (kI r8.2 v0 2)]) (rest := []) dX12_qPartTold_40 rfl kc_RX12_568 kh_X12_qOpens (by decide) (Nat.le_of_ble_eq_true rfl) m36 (ci := 12) (by exact ⟨rfl, by decide⟩) (k243 g2 (by decide) n11) ?_
        have n37 : (r34).1 = 243 := m36.1.full n11
        refine x_aload_n (q := 44) dX12_qPartTold_43 rfl rfl ?_
        refine x_dup (q := 45) dX12_qPartTold_44 rfl rfl ?_
        refine x_getI (q := 48) dX12_qPartTold_45 rfl kl_RX12_236 (Or.inl rfl) (k243 g2 (by decide) n37) ?_
        refine x_iconst (q := 49) (v := (1 : Int32)) dX12_qPartTold_48 rfl (by decide) ?_
        refine x_iadd (q := 50) dX12_qPartTold_49 rfl ?_
        replace H := kle H; obtain ⟨h38, q39, H⟩ := H
        refine x_putI (q := 53) dX12_qPartTold_50 rfl kl_RX12_236 (Or.inl rfl) rfl (k243 g2 (by decide) n37) ?_
        refine x_nmH q39 ?_
        have n40 : h38.1 = 243 := by rw [q39]; exact n37
        refine x_goto dX12_qPartTold_53 (q := 183) (by decide) ?_
        refine x_sub (ls2 := [(0, .ref v0), (1, .int s.1)]) [2, 3] rfl ?_
        exact s_X12_qPartTold_b183 h38 v0 s.1 n40 H
      · refine x_icmp_ne_t dX12_qPartTold_30 (q := 56) (by decide) g12 ?_
        refine x_aload_n (q := 57) dX12_qPartTold_56 rfl rfl ?_
        refine x_aload_n (q := 58) dX12_qPartTold_57 rfl rfl ?_
        replace H := kif H; obtain ⟨g13, H⟩ := H
        refine x_getR (q := 61) dX12_qPartTold_58 rfl kl_RX12_182 rfl (k243 g2 (by decide) n11) g13 ?_
        replace H := kbe H; obtain ⟨r14, c15, H⟩ := H
        have m16 := s_X12_isHere (Z := Z) r8.2 v0 (kR r8.2 v0 74) n11 c15
        refine x_callV (q := 64) (as := [.ref (kR r8.2 v0 74)]) (rest := []) dX12_qPartTold_61 rfl kc_RX12_253 kh_X12_isHere (by decide) (Nat.le_of_ble_eq_true rfl) m16 (ci := 12) (by exact ⟨rfl, by decide⟩) (k243 g2 (by decide) n11) ?_
        have n17 : (r14.2).1 = 243 := m16.1.full n11
        replace H := kite H; rcases H with ⟨g18, H⟩ | ⟨g18, H⟩
        · refine x_if_ne_f (q := 67) dX12_qPartTold_64 (t := 78) (by decide) rfl g18 ?_
          refine x_aload_n (q := 68) dX12_qPartTold_67 rfl rfl ?_
          refine x_aload_n (q := 69) dX12_qPartTold_68 rfl rfl ?_
          replace H := kif H; obtain ⟨g19, H⟩ := H
          refine x_getR (q := 72) dX12_qPartTold_69 rfl kl_RX12_185 rfl (k243 g2 (by decide) n17) g19 ?_
          replace H := kbe H; obtain ⟨r20, c21, H⟩ := H
          have m22 := s_X12_isHere (Z := Z) r14.2 v0 (kR r14.2 v0 75) n17 c21
          refine x_callV (q := 75) (as := [.ref (kR r14.2 v0 75)]) (rest := []) dX12_qPartTold_72 rfl kc_RX12_253 kh_X12_isHere (by decide) (Nat.le_of_ble_eq_true rfl) m22 (ci := 12) (by exact ⟨rfl, by decide⟩) (k243 g2 (by decide) n17) ?_
          have n23 : (r20.2).1 = 243 := m22.1.full n17
          replace H := kite H; rcases H with ⟨g24, H⟩ | ⟨g24, H⟩
          · refine x_if_eq_t dX12_qPartTold_75 (q := 153) (by decide) g24 ?_
            refine x_iload_n (q := 154) dX12_qPartTold_153 rfl rfl ?_
            refine x_iconst (q := 155) (v := (-1 : Int32)) dX12_qPartTold_154 rfl (by decide) ?_
            replace H := kite H; rcases H with ⟨g25, H⟩ | ⟨g25, H⟩
            · refine x_icmp_eq_t dX12_qPartTold_155 (q := 181) (by decide) g25 ?_
              refine x_iconst (q := 182) (v := (0 : Int32)) dX12_qPartTold_181 rfl (by decide) ?_
              refine x_istore_n (q := 183) (i := 1) (ls2 := [(1, .int (0 : Int32)), (3, .int r8.1), (2, .int r4.1), (0, .ref v0)]) dX12_qPartTold_182 rfl rfl (by decide) rfl ?_
              refine x_sub (ls2 := [(0, .ref v0), (1, .int (0 : Int32))]) [3, 0] rfl ?_
              exact s_X12_qPartTold_b183 r20.2 v0 (0 : Int32) n23 H
            · refine x_icmp_eq_f (q := 158) dX12_qPartTold_155 (t := 181) (by decide) rfl g25 ?_
              refine x_aload_n (q := 159) dX12_qPartTold_158 rfl rfl ?_
              refine x_bipush (q := 161) (v := (60 : Int32)) dX12_qPartTold_159 rfl (by decide) ?_
              refine x_iload_n (q := 162) dX12_qPartTold_161 rfl rfl ?_
              refine x_iadd (q := 163) dX12_qPartTold_162 rfl ?_
              refine x_bipush (q := 165) (v := (8 : Int32)) dX12_qPartTold_163 rfl (by decide) ?_
              refine x_isub (q := 166) dX12_qPartTold_165 rfl ?_
              refine x_aload_n (q := 167) dX12_qPartTold_166 rfl rfl ?_
              refine x_getI (q := 170) dX12_qPartTold_167 rfl kl_RX12_236 (Or.inl rfl) (k243 g2 (by decide) n23) ?_
              replace H := kbe H; obtain ⟨r26, c27, H⟩ := H
              have m28 := s_X12_qOpens (Z := Z) r20.2 v0 (((60 : Int32) + r8.1) - (8 : Int32)) (kI r20.2 v0 2) n23 c27
              refine x_callV (q := 173) (as := [.int (((60 : Int32) + r8.1) - (8 : Int32)), .int (kI r20.2 v0 2)]) (rest := []) dX12_qPartTold_170 rfl kc_RX12_568 kh_X12_qOpens (by decide) (Nat.le_of_ble_eq_true rfl) m28 (ci := 12) (by exact ⟨rfl, by decide⟩) (k243 g2 (by decide) n23) ?_
              have n29 : (r26).1 = 243 := m28.1.full n23
              refine x_aload_n (q := 174) dX12_qPartTold_173 rfl rfl ?_
              refine x_iload_n (q := 175) dX12_qPartTold_174 rfl rfl ?_
              replace H := kbe H; obtain ⟨r30, c31, H⟩ := H
              have m32 := s_X12_qAsksWord (Z := Z) r26 v0 r8.1 n29 c31
              refine x_callV (q := 178) (as := [.int r8.1]) (rest := []) dX12_qPartTold_175 rfl kc_RX12_571 kh_X12_qAsksWord (by decide) (Nat.le_of_ble_eq_true rfl) m32 (ci := 12) (by exact ⟨rfl, by decide⟩) (k243 g2 (by decide) n29) ?_
              have n33 : (r30).1 = 243 := m32.1.full n29
              refine x_goto dX12_qPartTold_178 (q := 183) (by decide) ?_
              refine x_sub (ls2 := [(0, .ref v0), (1, .int s.1)]) [2, 3] rfl ?_
              exact s_X12_qPartTold_b183 r30 v0 s.1 n33 H
          · refine x_if_eq_f (q := 78) dX12_qPartTold_75 (t := 153) (by decide) rfl g24 ?_
            refine x_sub (ls2 := [(0, .ref v0), (1, .int s.1)]) [2, 3] rfl ?_
            exact s_X12_qPartTold_b78 r20.2 v0 s.1 n23 H
        · refine x_if_ne_t dX12_qPartTold_64 (q := 78) (by decide) g18 ?_
          refine x_sub (ls2 := [(0, .ref v0), (1, .int s.1)]) [2, 3] rfl ?_
          exact s_X12_qPartTold_b78 r14.2 v0 s.1 n17 H
    · refine x_if_ne_t dX12_qPartTold_10 (q := 186) (by decide) g3 ?_
      cases H
      refine x_sub (ls2 := [(0, .ref v0)]) [0] rfl ?_
      exact x_end (x_cfg rfl)
theorem sl_X12_qPartTold_l2 {Z : Nat → (Nat → Nat) → State → Prop} (v0 : Nat) (n : Nat) (s : Int32 × KH) (r : KH) (hn : (s.2).1 = 243) (H : kloop (f_X12_qPartTold_l2 v0) n s = some r) : KX Z RX12 cX12_qPartTold 6 false 6 (E_X12_qPartTold_l2 v0 r) 2 [(0, .ref v0), (1, .int s.1)] [] s.2 :=
  k_loop (ls := (fun (s : Int32 × KH) => ([(0, .ref v0), (1, .int s.1)] : List (Nat × Value)))) (hp := (fun (s : Int32 × KH) => (s.2 : KH))) (G := E_X12_qPartTold_l2 v0) (fun s t hn H => s_X12_qPartTold_l2 v0 s t hn H) n s r hn H
def f_X12_qPartTold_b237 (h : KH) (v0 : Nat) (w0 : Nat) (w1 : Int32) : Option (KH) :=
  if kkind w0 = 12 then kb (f_X12_qCode h w0 w1) fun r2 =>
  if kkind v0 = 12 then kb (f_X12_qEndsPart r2 v0) fun r7 =>
  some r7 else none else none
set_option maxHeartbeats 4000000 in
set_option maxRecDepth 100000 in
theorem s_X12_qPartTold_b237 {Z : Nat → (Nat → Nat) → State → Prop} (h : KH) (v0 : Nat) (w0 : Nat) (w1 : Int32) {t : KH} (hn : h.1 = 243) (H : f_X12_qPartTold_b237 h v0 w0 w1 = some t) : KX Z RX12 cX12_qPartTold 6 false 6 (KRv cX12_qPartTold t) 237 [(0, .ref v0)] [.int w1, .ref w0] h := by
  unfold f_X12_qPartTold_b237 at H
  replace H := kif H; obtain ⟨g1, H⟩ := H
  replace H := kbe H; obtain ⟨r2, c3, H⟩ := H
  have m4 := s_X12_qCode (Z := Z) h w0 w1 hn c3
  refine x_callV (q := 240) (as := [.int w1]) (rest := []) dX12_qPartTold_237 rfl kc_RX12_550 kh_X12_qCode (by decide) (Nat.le_of_ble_eq_true rfl) m4 (ci := 12) (by exact ⟨rfl, by decide⟩) (k243 g1 (by decide) hn) ?_
  have n5 : (r2).1 = 243 := m4.1.full hn
  refine x_aload_n (q := 241) dX12_qPartTold_240 rfl rfl ?_
  replace H := kif H; obtain ⟨g6, H⟩ := H
  replace H := kbe H; obtain ⟨r7, c8, H⟩ := H
  have m9 := s_X12_qEndsPart (Z := Z) r2 v0 n5 c8
  refine x_callV (q := 244) (as := []) (rest := []) dX12_qPartTold_241 rfl kc_RX12_574 kh_X12_qEndsPart (by decide) (Nat.le_of_ble_eq_true rfl) m9 (ci := 12) (by exact ⟨rfl, by decide⟩) (k243 g6 (by decide) n5) ?_
  have n10 : (r7).1 = 243 := m9.1.full n5
  cases H
  exact x_end ⟨dX12_qPartTold_244, rfl, rfl⟩
def f_X12_qPartTold_b212 (h : KH) (v0 : Nat) (v2 : Int32) : Option (KH) :=
  if v2 = (-1 : Int32) then
  if kkind v0 = 12 then kb (f_X12_number h v0 (0 : Int32) (9999 : Int32)) fun r3 =>
  f_X12_qPartTold_b237 r3.2 v0 v0 ((1000 : Int32) + r3.1) else none
  else
  f_X12_qPartTold_b237 h v0 v0 ((40 : Int32) + v2)
set_option maxHeartbeats 4000000 in
set_option maxRecDepth 100000 in
theorem s_X12_qPartTold_b212 {Z : Nat → (Nat → Nat) → State → Prop} (h : KH) (v0 : Nat) (v2 : Int32) {t : KH} (hn : h.1 = 243) (H : f_X12_qPartTold_b212 h v0 v2 = some t) : KX Z RX12 cX12_qPartTold 6 false 6 (KRv cX12_qPartTold t) 212 [(0, .ref v0), (2, .int v2)] [] h := by
  unfold f_X12_qPartTold_b212 at H
  refine x_aload_n (q := 213) dX12_qPartTold_212 rfl rfl ?_
  refine x_iload_n (q := 214) dX12_qPartTold_213 rfl rfl ?_
  refine x_iconst (q := 215) (v := (-1 : Int32)) dX12_qPartTold_214 rfl (by decide) ?_
  replace H := kite H; rcases H with ⟨g1, H⟩ | ⟨g1, H⟩
  · refine x_icmp_eq_t dX12_qPartTold_215 (q := 225) (by decide) g1 ?_
    refine x_sipush (q := 228) (v := (1000 : Int32)) dX12_qPartTold_225 rfl (by decide) ?_
    refine x_aload_n (q := 229) dX12_qPartTold_228 rfl rfl ?_
    refine x_iconst (q := 230) (v := (0 : Int32)) dX12_qPartTold_229 rfl (by decide) ?_
    refine x_sipush (q := 233) (v := (9999 : Int32)) dX12_qPartTold_230 rfl (by decide) ?_
    replace H := kif H; obtain ⟨g2, H⟩ := H
    replace H := kbe H; obtain ⟨r3, c4, H⟩ := H
    have m5 := s_X12_number (Z := Z) h v0 (0 : Int32) (9999 : Int32) hn c4
    refine x_callV (q := 236) (as := [.int (0 : Int32), .int (9999 : Int32)]) (rest := [.int (1000 : Int32), .ref v0]) dX12_qPartTold_233 rfl kc_RX12_304 kh_X12_number (by decide) (Nat.le_of_ble_eq_true rfl) m5 (ci := 12) (by exact ⟨rfl, by decide⟩) (k243 g2 (by decide) hn) ?_
    have n6 : (r3.2).1 = 243 := m5.1.full hn
    refine x_iadd (q := 237) dX12_qPartTold_236 rfl ?_
    refine x_sub (ls2 := [(0, .ref v0)]) [0] rfl ?_
    exact s_X12_qPartTold_b237 r3.2 v0 v0 ((1000 : Int32) + r3.1) n6 H
  · refine x_icmp_eq_f (q := 218) dX12_qPartTold_215 (t := 225) (by decide) rfl g1 ?_
    refine x_bipush (q := 220) (v := (40 : Int32)) dX12_qPartTold_218 rfl (by decide) ?_
    refine x_iload_n (q := 221) dX12_qPartTold_220 rfl rfl ?_
    refine x_iadd (q := 222) dX12_qPartTold_221 rfl ?_
    refine x_goto dX12_qPartTold_222 (q := 237) (by decide) ?_
    refine x_sub (ls2 := [(0, .ref v0)]) [0] rfl ?_
    exact s_X12_qPartTold_b237 h v0 v0 ((40 : Int32) + v2) hn H
def f_X12_qPartTold_b186 (h : KH) (v0 : Nat) : Option (KH) :=
  if kkind v0 = 12 then if (kI h v0 5) = 0 then
  kb (f_X12_qWordOf h v0 (0 : Int32) (8 : Int32)) fun r3 =>
  if r3.1 = (-1 : Int32) then
  f_X12_qPartTold_b212 r3.2 v0 r3.1
  else
  kb (f_X12_qAsksWord r3.2 v0 r3.1) fun r8 =>
  f_X12_qPartTold_b212 r8 v0 r3.1
  else
  some h else none
set_option maxHeartbeats 4000000 in
set_option maxRecDepth 100000 in
theorem s_X12_qPartTold_b186 {Z : Nat → (Nat → Nat) → State → Prop} (h : KH) (v0 : Nat) {t : KH} (hn : h.1 = 243) (H : f_X12_qPartTold_b186 h v0 = some t) : KX Z RX12 cX12_qPartTold 6 false 6 (KRv cX12_qPartTold t) 186 [(0, .ref v0)] [] h := by
  unfold f_X12_qPartTold_b186 at H
  refine x_aload_n (q := 187) dX12_qPartTold_186 rfl rfl ?_
  replace H := kif H; obtain ⟨g1, H⟩ := H
  refine x_getI (q := 190) dX12_qPartTold_187 rfl kl_RX12_230 (Or.inl rfl) (k243 g1 (by decide) hn) ?_
  replace H := kite H; rcases H with ⟨g2, H⟩ | ⟨g2, H⟩
  · refine x_if_eq_t dX12_qPartTold_190 (q := 194) (by decide) g2 ?_
    refine x_aload_n (q := 195) dX12_qPartTold_194 rfl rfl ?_
    refine x_iconst (q := 196) (v := (0 : Int32)) dX12_qPartTold_195 rfl (by decide) ?_
    refine x_bipush (q := 198) (v := (8 : Int32)) dX12_qPartTold_196 rfl (by decide) ?_
    replace H := kbe H; obtain ⟨r3, c4, H⟩ := H
    have m5 := s_X12_qWordOf (Z := Z) h v0 (0 : Int32) (8 : Int32) hn c4
    refine x_callV (q := 201) (as := [.int (0 : Int32), .int (8 : Int32)]) (rest := []) dX12_qPartTold_198 rfl kc_RX12_565 kh_X12_qWordOf (by decide) (Nat.le_of_ble_eq_true rfl) m5 (ci := 12) (by exact ⟨rfl, by decide⟩) (k243 g1 (by decide) hn) ?_
    have n6 : (r3.2).1 = 243 := m5.1.full hn
    refine x_istore_n (q := 202) (i := 2) (ls2 := [(2, .int r3.1), (0, .ref v0)]) dX12_qPartTold_201 rfl rfl (by decide) rfl ?_
    refine x_iload_n (q := 203) dX12_qPartTold_202 rfl rfl ?_
    refine x_iconst (q := 204) (v := (-1 : Int32)) dX12_qPartTold_203 rfl (by decide) ?_
    replace H := kite H; rcases H with ⟨g7, H⟩ | ⟨g7, H⟩
    · refine x_icmp_eq_t dX12_qPartTold_204 (q := 212) (by decide) g7 ?_
      refine x_sub (ls2 := [(0, .ref v0), (2, .int r3.1)]) [1, 0] rfl ?_
      exact s_X12_qPartTold_b212 r3.2 v0 r3.1 n6 H
    · refine x_icmp_eq_f (q := 207) dX12_qPartTold_204 (t := 212) (by decide) rfl g7 ?_
      refine x_aload_n (q := 208) dX12_qPartTold_207 rfl rfl ?_
      refine x_iload_n (q := 209) dX12_qPartTold_208 rfl rfl ?_
      replace H := kbe H; obtain ⟨r8, c9, H⟩ := H
      have m10 := s_X12_qAsksWord (Z := Z) r3.2 v0 r3.1 n6 c9
      refine x_callV (q := 212) (as := [.int r3.1]) (rest := []) dX12_qPartTold_209 rfl kc_RX12_571 kh_X12_qAsksWord (by decide) (Nat.le_of_ble_eq_true rfl) m10 (ci := 12) (by exact ⟨rfl, by decide⟩) (k243 g1 (by decide) n6) ?_
      have n11 : (r8).1 = 243 := m10.1.full n6
      refine x_sub (ls2 := [(0, .ref v0), (2, .int r3.1)]) [1, 0] rfl ?_
      exact s_X12_qPartTold_b212 r8 v0 r3.1 n11 H
  · refine x_if_eq_f (q := 193) dX12_qPartTold_190 (t := 194) (by decide) rfl g2 ?_
    cases H
    exact x_end ⟨dX12_qPartTold_193, rfl, rfl⟩
def f_X12_qPartTold (h : KH) (v0 : Nat) : Option (KH) :=
  kb (kloop (f_X12_qPartTold_l2 v0) KF ((1 : Int32), h)) fun e1 =>
  f_X12_qPartTold_b186 e1 v0
set_option maxHeartbeats 4000000 in
set_option maxRecDepth 100000 in
theorem s0_X12_qPartTold {Z : Nat → (Nat → Nat) → State → Prop} (h : KH) (v0 : Nat) {t : KH} (hn : h.1 = 243) (H : f_X12_qPartTold h v0 = some t) : KX Z RX12 cX12_qPartTold 6 false 6 (KRv cX12_qPartTold t) 0 [(0, .ref v0)] [] h := by
  unfold f_X12_qPartTold at H
  refine x_iconst (q := 1) (v := (1 : Int32)) dX12_qPartTold_0 rfl (by decide) ?_
  refine x_istore_n (q := 2) (i := 1) (ls2 := [(1, .int (1 : Int32)), (0, .ref v0)]) dX12_qPartTold_1 rfl rfl (by decide) rfl ?_
  refine x_sub (ls2 := [(0, .ref v0), (1, .int (1 : Int32))]) [1, 0] rfl ?_
  replace H := kbe H; obtain ⟨e1, c2, H⟩ := H
  refine x_app (sl_X12_qPartTold_l2 v0 KF ((1 : Int32), h) e1 hn c2) fun pc2 ls2 st2 h2 hg m3 => ?_
  obtain ⟨rfl, rfl, rfl, rfl⟩ := hg
  refine x_sub (ls2 := [(0, .ref v0)]) [0] rfl ?_
  exact s_X12_qPartTold_b186 e1 v0 (m3.full hn) H
theorem s_X12_qPartTold {Z : Nat → (Nat → Nat) → State → Prop} (h : KH) (v0 : Nat) {t : KH} (hn : h.1 = 243) (H : f_X12_qPartTold h v0 = some t) : KM Z yX12_qPartTold cX12_qPartTold 6 none 6 [.ref v0] h none t :=
  kx_v (own := RX12) (ini := false) (by decide +kernel) (by decide +kernel) rfl (Nat.le_of_ble_eq_true rfl) (s0_X12_qPartTold h v0 hn H)
theorem dX12_qIsBracket_0 : decode cX12_qIsBracket 0 = .ok (.iload_n 0, 1) := by decide +kernel
theorem dX12_qIsBracket_1 : decode cX12_qIsBracket 1 = .ok (.bipush 20, 2) := by decide +kernel
theorem dX12_qIsBracket_3 : decode cX12_qIsBracket 3 = .ok (.if_icmp .lt 13, 3) := by decide +kernel
theorem dX12_qIsBracket_6 : decode cX12_qIsBracket 6 = .ok (.iload_n 0, 1) := by decide +kernel
theorem dX12_qIsBracket_7 : decode cX12_qIsBracket 7 = .ok (.bipush 24, 2) := by decide +kernel
theorem dX12_qIsBracket_9 : decode cX12_qIsBracket 9 = .ok (.if_icmp .gt 7, 3) := by decide +kernel
theorem dX12_qIsBracket_12 : decode cX12_qIsBracket 12 = .ok (.iconst 1, 1) := by decide +kernel
theorem dX12_qIsBracket_13 : decode cX12_qIsBracket 13 = .ok (.goto 4, 3) := by decide +kernel
theorem dX12_qIsBracket_16 : decode cX12_qIsBracket 16 = .ok (.iconst 0, 1) := by decide +kernel
theorem dX12_qIsBracket_17 : decode cX12_qIsBracket 17 = .ok (.ireturn, 1) := by decide +kernel
def f_X12_qIsBracket (h : KH) (v0 : Int32) : Option (Int32) :=
  if v0 < (20 : Int32) then
  some (0 : Int32)
  else
  if (24 : Int32) < v0 then
  some (0 : Int32)
  else
  some (1 : Int32)
set_option maxHeartbeats 4000000 in
set_option maxRecDepth 100000 in
theorem s0_X12_qIsBracket {Z : Nat → (Nat → Nat) → State → Prop} (h : KH) (v0 : Int32) {t : Int32} (hn : h.1 = 243) (H : f_X12_qIsBracket h v0 = some t) : KX Z RX12 cX12_qIsBracket 1 false 1 (KRz cX12_qIsBracket t h) 0 [(0, .int v0)] [] h := by
  unfold f_X12_qIsBracket at H
  refine x_iload_n (q := 1) dX12_qIsBracket_0 rfl rfl ?_
  refine x_bipush (q := 3) (v := (20 : Int32)) dX12_qIsBracket_1 rfl (by decide) ?_
  replace H := kite H; rcases H with ⟨g1, H⟩ | ⟨g1, H⟩
  · refine x_icmp_lt_t dX12_qIsBracket_3 (q := 16) (by decide) g1 ?_
    refine x_iconst (q := 17) (v := (0 : Int32)) dX12_qIsBracket_16 rfl (by decide) ?_
    cases H
    exact x_end ⟨(Or.inl rfl), dX12_qIsBracket_17, rfl, rfl⟩
  · refine x_icmp_lt_f (q := 6) dX12_qIsBracket_3 (t := 16) (by decide) rfl g1 ?_
    refine x_iload_n (q := 7) dX12_qIsBracket_6 rfl rfl ?_
    refine x_bipush (q := 9) (v := (24 : Int32)) dX12_qIsBracket_7 rfl (by decide) ?_
    replace H := kite H; rcases H with ⟨g2, H⟩ | ⟨g2, H⟩
    · refine x_icmp_gt_t dX12_qIsBracket_9 (q := 16) (by decide) g2 ?_
      refine x_iconst (q := 17) (v := (0 : Int32)) dX12_qIsBracket_16 rfl (by decide) ?_
      cases H
      exact x_end ⟨(Or.inl rfl), dX12_qIsBracket_17, rfl, rfl⟩
    · refine x_icmp_gt_f (q := 12) dX12_qIsBracket_9 (t := 16) (by decide) rfl g2 ?_
      refine x_iconst (q := 13) (v := (1 : Int32)) dX12_qIsBracket_12 rfl (by decide) ?_
      refine x_goto dX12_qIsBracket_13 (q := 17) (by decide) ?_
      cases H
      exact x_end ⟨(Or.inr rfl), dX12_qIsBracket_17, rfl, rfl⟩
theorem s_X12_qIsBracket {Z : Nat → (Nat → Nat) → State → Prop} (h : KH) (v0 : Int32) {t : Int32} (hn : h.1 = 243) (H : f_X12_qIsBracket h v0 = some t) : KM Z yX12_qIsBracket cX12_qIsBracket 1 (some .boolean) 1 [.int v0] h (some (.int t)) h :=
  kx_z (own := RX12) (ini := false) (by decide +kernel) (by decide +kernel) rfl (Nat.le_of_ble_eq_true rfl) (s0_X12_qIsBracket h v0 hn H)
theorem dX12_qBracket_0 : decode cX12_qBracket 0 = .ok (.aload_n 0, 1) := by decide +kernel
theorem dX12_qBracket_1 : decode cX12_qBracket 1 = .ok (.getfield 315, 3) := by decide +kernel
theorem dX12_qBracket_4 : decode cX12_qBracket 4 = .ok (.iconst 1, 1) := by decide +kernel
theorem dX12_qBracket_5 : decode cX12_qBracket 5 = .ok (.isub, 1) := by decide +kernel
theorem dX12_qBracket_6 : decode cX12_qBracket 6 = .ok (.istore_n 1, 1) := by decide +kernel
theorem dX12_qBracket_7 : decode cX12_qBracket 7 = .ok (.iload_n 1, 1) := by decide +kernel
theorem dX12_qBracket_8 : decode cX12_qBracket 8 = .ok (.aload_n 0, 1) := by decide +kernel
theorem dX12_qBracket_9 : decode cX12_qBracket 9 = .ok (.getfield 321, 3) := by decide +kernel
theorem dX12_qBracket_12 : decode cX12_qBracket 12 = .ok (.if_icmp .lt 21, 3) := by decide +kernel
theorem dX12_qBracket_15 : decode cX12_qBracket 15 = .ok (.aload_n 0, 1) := by decide +kernel
theorem dX12_qBracket_16 : decode cX12_qBracket 16 = .ok (.getfield 218, 3) := by decide +kernel
theorem dX12_qBracket_19 : decode cX12_qBracket 19 = .ok (.iload_n 1, 1) := by decide +kernel
theorem dX12_qBracket_20 : decode cX12_qBracket 20 = .ok (.iaload, 1) := by decide +kernel
theorem dX12_qBracket_21 : decode cX12_qBracket 21 = .ok (.invokestatic 553, 3) := by decide +kernel
theorem dX12_qBracket_24 : decode cX12_qBracket 24 = .ok (.ifCond .ne 9, 3) := by decide +kernel
theorem dX12_qBracket_27 : decode cX12_qBracket 27 = .ok (.iinc 1 (-1), 3) := by decide +kernel
theorem dX12_qBracket_30 : decode cX12_qBracket 30 = .ok (.goto (-23), 3) := by decide +kernel
theorem dX12_qBracket_33 : decode cX12_qBracket 33 = .ok (.iload_n 1, 1) := by decide +kernel
theorem dX12_qBracket_34 : decode cX12_qBracket 34 = .ok (.aload_n 0, 1) := by decide +kernel
theorem dX12_qBracket_35 : decode cX12_qBracket 35 = .ok (.getfield 321, 3) := by decide +kernel
theorem dX12_qBracket_38 : decode cX12_qBracket 38 = .ok (.if_icmp .lt 12, 3) := by decide +kernel
theorem dX12_qBracket_41 : decode cX12_qBracket 41 = .ok (.aload_n 0, 1) := by decide +kernel
theorem dX12_qBracket_42 : decode cX12_qBracket 42 = .ok (.getfield 218, 3) := by decide +kernel
theorem dX12_qBracket_45 : decode cX12_qBracket 45 = .ok (.iload_n 1, 1) := by decide +kernel
theorem dX12_qBracket_46 : decode cX12_qBracket 46 = .ok (.iaload, 1) := by decide +kernel
theorem dX12_qBracket_47 : decode cX12_qBracket 47 = .ok (.goto 4, 3) := by decide +kernel
theorem dX12_qBracket_50 : decode cX12_qBracket 50 = .ok (.iconst (-1), 1) := by decide +kernel
theorem dX12_qBracket_51 : decode cX12_qBracket 51 = .ok (.ireturn, 1) := by decide +kernel
theorem kc_RX12_553 : Cond.methodLink RX12 553 yX12_qIsBracket ∈ ktG ∧ Cond.static yX12_qIsBracket ∈ ktG ∧ Cond.initialized yX12_qIsBracket.cls ∈ ktG ∧ Cond.code yX12_qIsBracket cX12_qIsBracket 1 (some .boolean) ∈ ktG := ⟨(kwm 1641 (by decide +kernel) (by decide +kernel)), (kwm 1642 (by decide +kernel) (by decide +kernel)), (kwm 139 (by decide +kernel) (by decide +kernel)), kwm 1643 (by decide +kernel) (by decide +kernel)⟩
theorem kh_X12_qIsBracket : yX12_qIsBracket.cls ≠ "java/lang/invoke/MethodHandle" ∧ yX12_qIsBracket.cls ≠ "java/lang/invoke/VarHandle" ∧ (parseMethodDescriptor yX12_qIsBracket.desc).map (fun d => d.parameters.length) = some 1 := by decide +kernel
def E_X12_qBracket_l7 (h : KH) (v0 : Nat) : Int32 → Nat → List (Nat × Value) → List Value → KH → Prop := fun (e : Int32) pc ls st hh => pc = 33 ∧ ls = [(0, .ref v0), (1, .int e)] ∧ st = [] ∧ h = hh
def B_X12_qBracket_l7 (h : KH) (v0 : Nat) : ((Int32) ⊕ (Int32)) → Nat → List (Nat × Value) → List Value → KH → Prop := Sum.elim (fun (s : Int32) pc ls st hh => pc = 7 ∧ ls = [(0, .ref v0), (1, .int s)] ∧ st = [] ∧ hh = h) (E_X12_qBracket_l7 h v0)
def f_X12_qBracket_l7 (h : KH) (v0 : Nat) (s : Int32) : Option ((Int32) ⊕ (Int32)) :=
  if kkind v0 = 12 then if s < (kI h v0 90) then
  some (.inr s)
  else
  if (kR h v0 87) < 999999 then if kkind (kR h v0 87) = 20 then if (s < 0 ∨ klen (kR h v0 87) ≤ (s).toNatClampNeg) then none else kb (f_X12_qIsBracket h (kI h (kR h v0 87) ((s).toNatClampNeg))) fun r6 =>
  if r6 = 0 then
  kl (s + (-1 : Int32)) fun x10 =>
  some (.inl x10)
  else
  some (.inr s) else none else none else none
set_option maxHeartbeats 4000000 in
set_option maxRecDepth 100000 in
theorem s_X12_qBracket_l7 {Z : Nat → (Nat → Nat) → State → Prop} (h : KH) (v0 : Nat) (s : Int32) (t : (Int32) ⊕ (Int32)) (hn : (h).1 = 243) (H : f_X12_qBracket_l7 h v0 s = some t) : KX Z RX12 cX12_qBracket 2 false 2 (B_X12_qBracket_l7 h v0 t) 7 [(0, .ref v0), (1, .int s)] [] h := by
  unfold f_X12_qBracket_l7 at H
  refine x_iload_n (q := 8) dX12_qBracket_7 rfl rfl ?_
  refine x_aload_n (q := 9) dX12_qBracket_8 rfl rfl ?_
  replace H := kif H; obtain ⟨g1, H⟩ := H
  refine x_getI (q := 12) dX12_qBracket_9 rfl kl_RX12_321 (Or.inl rfl) (k243 g1 (by decide) hn) ?_
  replace H := kite H; rcases H with ⟨g2, H⟩ | ⟨g2, H⟩
  · refine x_icmp_lt_t dX12_qBracket_12 (q := 33) (by decide) g2 ?_
    cases H
    refine x_sub (ls2 := [(0, .ref v0), (1, .int s)]) [0, 1] rfl ?_
    exact x_end (x_cfg rfl)
  · refine x_icmp_lt_f (q := 15) dX12_qBracket_12 (t := 33) (by decide) rfl g2 ?_
    refine x_aload_n (q := 16) dX12_qBracket_15 rfl rfl ?_
    replace H := kif H; obtain ⟨g3, H⟩ := H
    refine x_getR (q := 19) dX12_qBracket_16 rfl kl_RX12_218 rfl (k243 g1 (by decide) hn) g3 ?_
    refine x_iload_n (q := 20) dX12_qBracket_19 rfl rfl ?_
    replace H := kif H; obtain ⟨g4, H⟩ := H
    replace H := kifn H; obtain ⟨g5, H⟩ := H
    refine x_iald (q := 21) dX12_qBracket_20 rfl (k243 g4 (by decide) hn) g5 ?_
    replace H := kbe H; obtain ⟨r6, c7, H⟩ := H
    have m8 := s_X12_qIsBracket (Z := Z) h (kI h (kR h v0 87) ((s).toNatClampNeg)) hn c7
    refine x_callS (q := 24) (as := [.int (kI h (kR h v0 87) ((s).toNatClampNeg))]) (rest := []) dX12_qBracket_21 rfl kc_RX12_553 kh_X12_qIsBracket (by decide) (Nat.le_of_ble_eq_true rfl) m8 ?_
    replace H := kite H; rcases H with ⟨g9, H⟩ | ⟨g9, H⟩
    · refine x_if_ne_f (q := 27) dX12_qBracket_24 (t := 33) (by decide) rfl g9 ?_
      replace H := kle H; obtain ⟨x10, q11, H⟩ := H
      refine x_iinc (q := 30) (i := 1) (ls2 := [(1, .int x10), (0, .ref v0)]) dX12_qBracket_27 rfl rfl (by decide) (by rw [q11]; rfl) ?_
      refine x_goto dX12_qBracket_30 (q := 7) (by decide) ?_
      cases H
      refine x_sub (ls2 := [(0, .ref v0), (1, .int x10)]) [1, 0] rfl ?_
      exact x_end (x_cfg rfl)
    · refine x_if_ne_t dX12_qBracket_24 (q := 33) (by decide) g9 ?_
      cases H
      refine x_sub (ls2 := [(0, .ref v0), (1, .int s)]) [0, 1] rfl ?_
      exact x_end (x_cfg rfl)
theorem sl_X12_qBracket_l7 {Z : Nat → (Nat → Nat) → State → Prop} (h : KH) (v0 : Nat) (n : Nat) (s : Int32) (r : Int32) (hn : (h).1 = 243) (H : kloop (f_X12_qBracket_l7 h v0) n s = some r) : KX Z RX12 cX12_qBracket 2 false 2 (E_X12_qBracket_l7 h v0 r) 7 [(0, .ref v0), (1, .int s)] [] h :=
  k_loop (ls := (fun (s : Int32) => ([(0, .ref v0), (1, .int s)] : List (Nat × Value)))) (hp := (fun (s : Int32) => (h : KH))) (G := E_X12_qBracket_l7 h v0) (fun s t hn H => s_X12_qBracket_l7 h v0 s t hn H) n s r hn H
def f_X12_qBracket_b33 (h : KH) (v0 : Nat) (v1 : Int32) : Option (Int32) :=
  if kkind v0 = 12 then if v1 < (kI h v0 90) then
  some (-1 : Int32)
  else
  if (kR h v0 87) < 999999 then if kkind (kR h v0 87) = 20 then if (v1 < 0 ∨ klen (kR h v0 87) ≤ (v1).toNatClampNeg) then none else some (kI h (kR h v0 87) ((v1).toNatClampNeg)) else none else none else none
set_option maxHeartbeats 4000000 in
set_option maxRecDepth 100000 in
theorem s_X12_qBracket_b33 {Z : Nat → (Nat → Nat) → State → Prop} (h : KH) (v0 : Nat) (v1 : Int32) {t : Int32} (hn : h.1 = 243) (H : f_X12_qBracket_b33 h v0 v1 = some t) : KX Z RX12 cX12_qBracket 2 false 2 (KRi cX12_qBracket t h) 33 [(0, .ref v0), (1, .int v1)] [] h := by
  unfold f_X12_qBracket_b33 at H
  refine x_iload_n (q := 34) dX12_qBracket_33 rfl rfl ?_
  refine x_aload_n (q := 35) dX12_qBracket_34 rfl rfl ?_
  replace H := kif H; obtain ⟨g1, H⟩ := H
  refine x_getI (q := 38) dX12_qBracket_35 rfl kl_RX12_321 (Or.inl rfl) (k243 g1 (by decide) hn) ?_
  replace H := kite H; rcases H with ⟨g2, H⟩ | ⟨g2, H⟩
  · refine x_icmp_lt_t dX12_qBracket_38 (q := 50) (by decide) g2 ?_
    refine x_iconst (q := 51) (v := (-1 : Int32)) dX12_qBracket_50 rfl (by decide) ?_
    cases H
    exact x_end ⟨dX12_qBracket_51, rfl, rfl⟩
  · refine x_icmp_lt_f (q := 41) dX12_qBracket_38 (t := 50) (by decide) rfl g2 ?_
    refine x_aload_n (q := 42) dX12_qBracket_41 rfl rfl ?_
    replace H := kif H; obtain ⟨g3, H⟩ := H
    refine x_getR (q := 45) dX12_qBracket_42 rfl kl_RX12_218 rfl (k243 g1 (by decide) hn) g3 ?_
    refine x_iload_n (q := 46) dX12_qBracket_45 rfl rfl ?_
    replace H := kif H; obtain ⟨g4, H⟩ := H
    replace H := kifn H; obtain ⟨g5, H⟩ := H
    refine x_iald (q := 47) dX12_qBracket_46 rfl (k243 g4 (by decide) hn) g5 ?_
    refine x_goto dX12_qBracket_47 (q := 51) (by decide) ?_
    cases H
    exact x_end ⟨dX12_qBracket_51, rfl, rfl⟩
def f_X12_qBracket (h : KH) (v0 : Nat) : Option (Int32) :=
  if kkind v0 = 12 then kl ((kI h v0 88) - (1 : Int32)) fun x2 =>
  kb (kloop (f_X12_qBracket_l7 h v0) KF x2) fun e4 =>
  f_X12_qBracket_b33 h v0 e4 else none
set_option maxHeartbeats 4000000 in
set_option maxRecDepth 100000 in
theorem s0_X12_qBracket {Z : Nat → (Nat → Nat) → State → Prop} (h : KH) (v0 : Nat) {t : Int32} (hn : h.1 = 243) (H : f_X12_qBracket h v0 = some t) : KX Z RX12 cX12_qBracket 2 false 2 (KRi cX12_qBracket t h) 0 [(0, .ref v0)] [] h := by
  unfold f_X12_qBracket at H
  refine x_aload_n (q := 1) dX12_qBracket_0 rfl rfl ?_
  replace H := kif H; obtain ⟨g1, H⟩ := H
  refine x_getI (q := 4) dX12_qBracket_1 rfl kl_RX12_315 (Or.inl rfl) (k243 g1 (by decide) hn) ?_
  refine x_iconst (q := 5) (v := (1 : Int32)) dX12_qBracket_4 rfl (by decide) ?_
  refine x_isub (q := 6) dX12_qBracket_5 rfl ?_
  replace H := kle H; obtain ⟨x2, q3, H⟩ := H
  refine x_nmI q3 ?_
  refine x_istore_n (q := 7) (i := 1) (ls2 := [(1, .int x2), (0, .ref v0)]) dX12_qBracket_6 rfl rfl (by decide) rfl ?_
  refine x_sub (ls2 := [(0, .ref v0), (1, .int x2)]) [1, 0] rfl ?_
  replace H := kbe H; obtain ⟨e4, c5, H⟩ := H
  refine x_app (sl_X12_qBracket_l7 h v0 KF x2 e4 hn c5) fun pc2 ls2 st2 h2 hg m6 => ?_
  obtain ⟨rfl, rfl, rfl, rfl⟩ := hg
  refine x_sub (ls2 := [(0, .ref v0), (1, .int e4)]) [0, 1] rfl ?_
  exact s_X12_qBracket_b33 h v0 e4 hn H
theorem s_X12_qBracket {Z : Nat → (Nat → Nat) → State → Prop} (h : KH) (v0 : Nat) {t : Int32} (hn : h.1 = 243) (H : f_X12_qBracket h v0 = some t) : KM Z yX12_qBracket cX12_qBracket 2 (some .int) 2 [.ref v0] h (some (.int t)) h :=
  kx_i (own := RX12) (ini := false) (by decide +kernel) (by decide +kernel) rfl (Nat.le_of_ble_eq_true rfl) (s0_X12_qBracket h v0 hn H)
theorem dX12_qDropsToBracket_0 : decode cX12_qDropsToBracket 0 = .ok (.aload_n 0, 1) := by decide +kernel
theorem dX12_qDropsToBracket_1 : decode cX12_qDropsToBracket 1 = .ok (.getfield 315, 3) := by decide +kernel
theorem dX12_qDropsToBracket_4 : decode cX12_qDropsToBracket 4 = .ok (.aload_n 0, 1) := by decide +kernel
theorem dX12_qDropsToBracket_5 : decode cX12_qDropsToBracket 5 = .ok (.getfield 321, 3) := by decide +kernel
theorem dX12_qDropsToBracket_8 : decode cX12_qDropsToBracket 8 = .ok (.if_icmp .le 27, 3) := by decide +kernel
theorem dX12_qDropsToBracket_11 : decode cX12_qDropsToBracket 11 = .ok (.aload_n 0, 1) := by decide +kernel
theorem dX12_qDropsToBracket_12 : decode cX12_qDropsToBracket 12 = .ok (.getfield 218, 3) := by decide +kernel
theorem dX12_qDropsToBracket_15 : decode cX12_qDropsToBracket 15 = .ok (.aload_n 0, 1) := by decide +kernel
theorem dX12_qDropsToBracket_16 : decode cX12_qDropsToBracket 16 = .ok (.getfield 315, 3) := by decide +kernel
theorem dX12_qDropsToBracket_19 : decode cX12_qDropsToBracket 19 = .ok (.iconst 1, 1) := by decide +kernel
theorem dX12_qDropsToBracket_20 : decode cX12_qDropsToBracket 20 = .ok (.isub, 1) := by decide +kernel
theorem dX12_qDropsToBracket_21 : decode cX12_qDropsToBracket 21 = .ok (.iaload, 1) := by decide +kernel
theorem dX12_qDropsToBracket_22 : decode cX12_qDropsToBracket 22 = .ok (.invokestatic 553, 3) := by decide +kernel
theorem dX12_qDropsToBracket_25 : decode cX12_qDropsToBracket 25 = .ok (.ifCond .ne 10, 3) := by decide +kernel
theorem dX12_qDropsToBracket_28 : decode cX12_qDropsToBracket 28 = .ok (.aload_n 0, 1) := by decide +kernel
theorem dX12_qDropsToBracket_29 : decode cX12_qDropsToBracket 29 = .ok (.invokevirtual 556, 3) := by decide +kernel
theorem dX12_qDropsToBracket_32 : decode cX12_qDropsToBracket 32 = .ok (.goto (-32), 3) := by decide +kernel
theorem dX12_qDropsToBracket_35 : decode cX12_qDropsToBracket 35 = .ok (.return_, 1) := by decide +kernel
def E_X12_qDropsToBracket_l0 (v0 : Nat) : KH → Nat → List (Nat × Value) → List Value → KH → Prop := fun (e : KH) pc ls st hh => pc = 35 ∧ ls = [] ∧ st = [] ∧ e = hh
def B_X12_qDropsToBracket_l0 (v0 : Nat) : ((KH) ⊕ (KH)) → Nat → List (Nat × Value) → List Value → KH → Prop := Sum.elim (fun (s : KH) pc ls st hh => pc = 0 ∧ ls = [(0, .ref v0)] ∧ st = [] ∧ hh = s) (E_X12_qDropsToBracket_l0 v0)
def f_X12_qDropsToBracket_l0 (v0 : Nat) (s : KH) : Option ((KH) ⊕ (KH)) :=
  if kkind v0 = 12 then if (kI s v0 88) ≤ (kI s v0 90) then
  some (.inr s)
  else
  if (kR s v0 87) < 999999 then if kkind (kR s v0 87) = 20 then if (((kI s v0 88) - (1 : Int32)) < 0 ∨ klen (kR s v0 87) ≤ (((kI s v0 88) - (1 : Int32))).toNatClampNeg) then none else kb (f_X12_qIsBracket s (kI s (kR s v0 87) ((((kI s v0 88) - (1 : Int32))).toNatClampNeg))) fun r6 =>
  if r6 = 0 then
  kb (f_X12_qDrops s v0) fun r10 =>
  some (.inl r10)
  else
  some (.inr s) else none else none else none
set_option maxHeartbeats 4000000 in
set_option maxRecDepth 100000 in
theorem s_X12_qDropsToBracket_l0 {Z : Nat → (Nat → Nat) → State → Prop} (v0 : Nat) (s : KH) (t : (KH) ⊕ (KH)) (hn : (s).1 = 243) (H : f_X12_qDropsToBracket_l0 v0 s = some t) : KX Z RX12 cX12_qDropsToBracket 1 false 3 (B_X12_qDropsToBracket_l0 v0 t) 0 [(0, .ref v0)] [] s := by
  unfold f_X12_qDropsToBracket_l0 at H
  refine x_aload_n (q := 1) dX12_qDropsToBracket_0 rfl rfl ?_
  replace H := kif H; obtain ⟨g1, H⟩ := H
  refine x_getI (q := 4) dX12_qDropsToBracket_1 rfl kl_RX12_315 (Or.inl rfl) (k243 g1 (by decide) hn) ?_
  refine x_aload_n (q := 5) dX12_qDropsToBracket_4 rfl rfl ?_
  refine x_getI (q := 8) dX12_qDropsToBracket_5 rfl kl_RX12_321 (Or.inl rfl) (k243 g1 (by decide) hn) ?_
  replace H := kite H; rcases H with ⟨g2, H⟩ | ⟨g2, H⟩
  · refine x_icmp_le_t dX12_qDropsToBracket_8 (q := 35) (by decide) g2 ?_
    cases H
    refine x_sub (ls2 := []) [] rfl ?_
    exact x_end (x_cfg rfl)
  · refine x_icmp_le_f (q := 11) dX12_qDropsToBracket_8 (t := 35) (by decide) rfl g2 ?_
    refine x_aload_n (q := 12) dX12_qDropsToBracket_11 rfl rfl ?_
    replace H := kif H; obtain ⟨g3, H⟩ := H
    refine x_getR (q := 15) dX12_qDropsToBracket_12 rfl kl_RX12_218 rfl (k243 g1 (by decide) hn) g3 ?_
    refine x_aload_n (q := 16) dX12_qDropsToBracket_15 rfl rfl ?_
    refine x_getI (q := 19) dX12_qDropsToBracket_16 rfl kl_RX12_315 (Or.inl rfl) (k243 g1 (by decide) hn) ?_
    refine x_iconst (q := 20) (v := (1 : Int32)) dX12_qDropsToBracket_19 rfl (by decide) ?_
    refine x_isub (q := 21) dX12_qDropsToBracket_20 rfl ?_
    replace H := kif H; obtain ⟨g4, H⟩ := H
    replace H := kifn H; obtain ⟨g5, H⟩ := H
    refine x_iald (q := 22) dX12_qDropsToBracket_21 rfl (k243 g4 (by decide) hn) g5 ?_
    replace H := kbe H; obtain ⟨r6, c7, H⟩ := H
    have m8 := s_X12_qIsBracket (Z := Z) s (kI s (kR s v0 87) ((((kI s v0 88) - (1 : Int32))).toNatClampNeg)) hn c7
    refine x_callS (q := 25) (as := [.int (kI s (kR s v0 87) ((((kI s v0 88) - (1 : Int32))).toNatClampNeg))]) (rest := []) dX12_qDropsToBracket_22 rfl kc_RX12_553 kh_X12_qIsBracket (by decide) (Nat.le_of_ble_eq_true rfl) m8 ?_
    replace H := kite H; rcases H with ⟨g9, H⟩ | ⟨g9, H⟩
    · refine x_if_ne_f (q := 28) dX12_qDropsToBracket_25 (t := 35) (by decide) rfl g9 ?_
      refine x_aload_n (q := 29) dX12_qDropsToBracket_28 rfl rfl ?_
      replace H := kbe H; obtain ⟨r10, c11, H⟩ := H
      have m12 := s_X12_qDrops (Z := Z) s v0 hn c11
      refine x_callV (q := 32) (as := []) (rest := []) dX12_qDropsToBracket_29 rfl kc_RX12_556 kh_X12_qDrops (by decide) (Nat.le_of_ble_eq_true rfl) m12 (ci := 12) (by exact ⟨rfl, by decide⟩) (k243 g1 (by decide) hn) ?_
      have n13 : (r10).1 = 243 := m12.1.full hn
      refine x_goto dX12_qDropsToBracket_32 (q := 0) (by decide) ?_
      cases H
      refine x_sub (ls2 := [(0, .ref v0)]) [0] rfl ?_
      exact x_end (x_cfg rfl)
    · refine x_if_ne_t dX12_qDropsToBracket_25 (q := 35) (by decide) g9 ?_
      cases H
      refine x_sub (ls2 := []) [] rfl ?_
      exact x_end (x_cfg rfl)
theorem sl_X12_qDropsToBracket_l0 {Z : Nat → (Nat → Nat) → State → Prop} (v0 : Nat) (n : Nat) (s : KH) (r : KH) (hn : (s).1 = 243) (H : kloop (f_X12_qDropsToBracket_l0 v0) n s = some r) : KX Z RX12 cX12_qDropsToBracket 1 false 3 (E_X12_qDropsToBracket_l0 v0 r) 0 [(0, .ref v0)] [] s :=
  k_loop (ls := (fun (s : KH) => ([(0, .ref v0)] : List (Nat × Value)))) (hp := (fun (s : KH) => (s : KH))) (G := E_X12_qDropsToBracket_l0 v0) (fun s t hn H => s_X12_qDropsToBracket_l0 v0 s t hn H) n s r hn H
def f_X12_qDropsToBracket (h : KH) (v0 : Nat) : Option (KH) :=
  kb (kloop (f_X12_qDropsToBracket_l0 v0) KF h) fun e1 =>
  some e1
set_option maxHeartbeats 4000000 in
set_option maxRecDepth 100000 in
theorem s0_X12_qDropsToBracket {Z : Nat → (Nat → Nat) → State → Prop} (h : KH) (v0 : Nat) {t : KH} (hn : h.1 = 243) (H : f_X12_qDropsToBracket h v0 = some t) : KX Z RX12 cX12_qDropsToBracket 1 false 3 (KRv cX12_qDropsToBracket t) 0 [(0, .ref v0)] [] h := by
  unfold f_X12_qDropsToBracket at H
  refine x_sub (ls2 := [(0, .ref v0)]) [0] rfl ?_
  replace H := kbe H; obtain ⟨e1, c2, H⟩ := H
  refine x_app (sl_X12_qDropsToBracket_l0 v0 KF h e1 hn c2) fun pc2 ls2 st2 h2 hg m3 => ?_
  obtain ⟨rfl, rfl, rfl, rfl⟩ := hg
  cases H
  exact x_end ⟨dX12_qDropsToBracket_35, rfl, rfl⟩
theorem s_X12_qDropsToBracket {Z : Nat → (Nat → Nat) → State → Prop} (h : KH) (v0 : Nat) {t : KH} (hn : h.1 = 243) (H : f_X12_qDropsToBracket h v0 = some t) : KM Z yX12_qDropsToBracket cX12_qDropsToBracket 1 none 3 [.ref v0] h none t :=
  kx_v (own := RX12) (ini := false) (by decide +kernel) (by decide +kernel) rfl (Nat.le_of_ble_eq_true rfl) (s0_X12_qDropsToBracket h v0 hn H)
theorem dX12_qIsOn_0 : decode cX12_qIsOn 0 = .ok (.aload_n 0, 1) := by decide +kernel
theorem dX12_qIsOn_1 : decode cX12_qIsOn 1 = .ok (.getfield 315, 3) := by decide +kernel
theorem dX12_qIsOn_4 : decode cX12_qIsOn 4 = .ok (.ifCond .le 22, 3) := by decide +kernel
theorem dX12_qIsOn_7 : decode cX12_qIsOn 7 = .ok (.aload_n 0, 1) := by decide +kernel
theorem dX12_qIsOn_8 : decode cX12_qIsOn 8 = .ok (.getfield 218, 3) := by decide +kernel
theorem dX12_qIsOn_11 : decode cX12_qIsOn 11 = .ok (.aload_n 0, 1) := by decide +kernel
theorem dX12_qIsOn_12 : decode cX12_qIsOn 12 = .ok (.getfield 315, 3) := by decide +kernel
theorem dX12_qIsOn_15 : decode cX12_qIsOn 15 = .ok (.iconst 1, 1) := by decide +kernel
theorem dX12_qIsOn_16 : decode cX12_qIsOn 16 = .ok (.isub, 1) := by decide +kernel
theorem dX12_qIsOn_17 : decode cX12_qIsOn 17 = .ok (.iaload, 1) := by decide +kernel
theorem dX12_qIsOn_18 : decode cX12_qIsOn 18 = .ok (.iload_n 1, 1) := by decide +kernel
theorem dX12_qIsOn_19 : decode cX12_qIsOn 19 = .ok (.if_icmp .ne 7, 3) := by decide +kernel
theorem dX12_qIsOn_22 : decode cX12_qIsOn 22 = .ok (.iconst 1, 1) := by decide +kernel
theorem dX12_qIsOn_23 : decode cX12_qIsOn 23 = .ok (.goto 4, 3) := by decide +kernel
theorem dX12_qIsOn_26 : decode cX12_qIsOn 26 = .ok (.iconst 0, 1) := by decide +kernel
theorem dX12_qIsOn_27 : decode cX12_qIsOn 27 = .ok (.ireturn, 1) := by decide +kernel
def f_X12_qIsOn (h : KH) (v0 : Nat) (v1 : Int32) : Option (Int32) :=
  if kkind v0 = 12 then if (kI h v0 88) ≤ 0 then
  some (0 : Int32)
  else
  if (kR h v0 87) < 999999 then if kkind (kR h v0 87) = 20 then if (((kI h v0 88) - (1 : Int32)) < 0 ∨ klen (kR h v0 87) ≤ (((kI h v0 88) - (1 : Int32))).toNatClampNeg) then none else if (kI h (kR h v0 87) ((((kI h v0 88) - (1 : Int32))).toNatClampNeg)) = v1 then
  some (1 : Int32)
  else
  some (0 : Int32) else none else none else none
set_option maxHeartbeats 4000000 in
set_option maxRecDepth 100000 in
theorem s0_X12_qIsOn {Z : Nat → (Nat → Nat) → State → Prop} (h : KH) (v0 : Nat) (v1 : Int32) {t : Int32} (hn : h.1 = 243) (H : f_X12_qIsOn h v0 v1 = some t) : KX Z RX12 cX12_qIsOn 2 false 1 (KRz cX12_qIsOn t h) 0 [(0, .ref v0), (1, .int v1)] [] h := by
  unfold f_X12_qIsOn at H
  refine x_aload_n (q := 1) dX12_qIsOn_0 rfl rfl ?_
  replace H := kif H; obtain ⟨g1, H⟩ := H
  refine x_getI (q := 4) dX12_qIsOn_1 rfl kl_RX12_315 (Or.inl rfl) (k243 g1 (by decide) hn) ?_
  replace H := kite H; rcases H with ⟨g2, H⟩ | ⟨g2, H⟩
  · refine x_if_le_t dX12_qIsOn_4 (q := 26) (by decide) g2 ?_
    refine x_iconst (q := 27) (v := (0 : Int32)) dX12_qIsOn_26 rfl (by decide) ?_
    cases H
    exact x_end ⟨(Or.inl rfl), dX12_qIsOn_27, rfl, rfl⟩
  · refine x_if_le_f (q := 7) dX12_qIsOn_4 (t := 26) (by decide) rfl g2 ?_
    refine x_aload_n (q := 8) dX12_qIsOn_7 rfl rfl ?_
    replace H := kif H; obtain ⟨g3, H⟩ := H
    refine x_getR (q := 11) dX12_qIsOn_8 rfl kl_RX12_218 rfl (k243 g1 (by decide) hn) g3 ?_
    refine x_aload_n (q := 12) dX12_qIsOn_11 rfl rfl ?_
    refine x_getI (q := 15) dX12_qIsOn_12 rfl kl_RX12_315 (Or.inl rfl) (k243 g1 (by decide) hn) ?_
    refine x_iconst (q := 16) (v := (1 : Int32)) dX12_qIsOn_15 rfl (by decide) ?_
    refine x_isub (q := 17) dX12_qIsOn_16 rfl ?_
    replace H := kif H; obtain ⟨g4, H⟩ := H
    replace H := kifn H; obtain ⟨g5, H⟩ := H
    refine x_iald (q := 18) dX12_qIsOn_17 rfl (k243 g4 (by decide) hn) g5 ?_
    refine x_iload_n (q := 19) dX12_qIsOn_18 rfl rfl ?_
    replace H := kite H; rcases H with ⟨g6, H⟩ | ⟨g6, H⟩
    · refine x_icmp_ne_f (q := 22) dX12_qIsOn_19 (t := 26) (by decide) rfl g6 ?_
      refine x_iconst (q := 23) (v := (1 : Int32)) dX12_qIsOn_22 rfl (by decide) ?_
      refine x_goto dX12_qIsOn_23 (q := 27) (by decide) ?_
      cases H
      exact x_end ⟨(Or.inr rfl), dX12_qIsOn_27, rfl, rfl⟩
    · refine x_icmp_ne_t dX12_qIsOn_19 (q := 26) (by decide) g6 ?_
      refine x_iconst (q := 27) (v := (0 : Int32)) dX12_qIsOn_26 rfl (by decide) ?_
      cases H
      exact x_end ⟨(Or.inl rfl), dX12_qIsOn_27, rfl, rfl⟩
theorem s_X12_qIsOn {Z : Nat → (Nat → Nat) → State → Prop} (h : KH) (v0 : Nat) (v1 : Int32) {t : Int32} (hn : h.1 = 243) (H : f_X12_qIsOn h v0 v1 = some t) : KM Z yX12_qIsOn cX12_qIsOn 2 (some .boolean) 1 [.ref v0, .int v1] h (some (.int t)) h :=
  kx_z (own := RX12) (ini := false) (by decide +kernel) (by decide +kernel) rfl (Nat.le_of_ble_eq_true rfl) (s0_X12_qIsOn h v0 v1 hn H)
theorem dX12_qGoesOn_0 : decode cX12_qGoesOn 0 = .ok (.aload_n 0, 1) := by decide +kernel
theorem dX12_qGoesOn_1 : decode cX12_qGoesOn 1 = .ok (.getfield 230, 3) := by decide +kernel
theorem dX12_qGoesOn_4 : decode cX12_qGoesOn 4 = .ok (.ifCond .ne 118, 3) := by decide +kernel
theorem dX12_qGoesOn_7 : decode cX12_qGoesOn 7 = .ok (.aload_n 0, 1) := by decide +kernel
theorem dX12_qGoesOn_8 : decode cX12_qGoesOn 8 = .ok (.invokevirtual 242, 3) := by decide +kernel
theorem dX12_qGoesOn_11 : decode cX12_qGoesOn 11 = .ok (.bipush 41, 2) := by decide +kernel
theorem dX12_qGoesOn_13 : decode cX12_qGoesOn 13 = .ok (.if_icmp .ne 109, 3) := by decide +kernel
theorem dX12_qGoesOn_16 : decode cX12_qGoesOn 16 = .ok (.aload_n 0, 1) := by decide +kernel
theorem dX12_qGoesOn_17 : decode cX12_qGoesOn 17 = .ok (.invokevirtual 577, 3) := by decide +kernel
theorem dX12_qGoesOn_20 : decode cX12_qGoesOn 20 = .ok (.bipush 20, 2) := by decide +kernel
theorem dX12_qGoesOn_22 : decode cX12_qGoesOn 22 = .ok (.if_icmp .eq 21, 3) := by decide +kernel
theorem dX12_qGoesOn_25 : decode cX12_qGoesOn 25 = .ok (.aload_n 0, 1) := by decide +kernel
theorem dX12_qGoesOn_26 : decode cX12_qGoesOn 26 = .ok (.invokevirtual 577, 3) := by decide +kernel
theorem dX12_qGoesOn_29 : decode cX12_qGoesOn 29 = .ok (.bipush 23, 2) := by decide +kernel
theorem dX12_qGoesOn_31 : decode cX12_qGoesOn 31 = .ok (.if_icmp .eq 12, 3) := by decide +kernel
theorem dX12_qGoesOn_34 : decode cX12_qGoesOn 34 = .ok (.aload_n 0, 1) := by decide +kernel
theorem dX12_qGoesOn_35 : decode cX12_qGoesOn 35 = .ok (.invokevirtual 577, 3) := by decide +kernel
theorem dX12_qGoesOn_38 : decode cX12_qGoesOn 38 = .ok (.bipush 24, 2) := by decide +kernel
theorem dX12_qGoesOn_40 : decode cX12_qGoesOn 40 = .ok (.if_icmp .ne 82, 3) := by decide +kernel
theorem dX12_qGoesOn_43 : decode cX12_qGoesOn 43 = .ok (.aload_n 0, 1) := by decide +kernel
theorem dX12_qGoesOn_44 : decode cX12_qGoesOn 44 = .ok (.dup, 1) := by decide +kernel
theorem dX12_qGoesOn_45 : decode cX12_qGoesOn 45 = .ok (.getfield 236, 3) := by decide +kernel
theorem dX12_qGoesOn_48 : decode cX12_qGoesOn 48 = .ok (.iconst 1, 1) := by decide +kernel
theorem dX12_qGoesOn_49 : decode cX12_qGoesOn 49 = .ok (.iadd, 1) := by decide +kernel
theorem dX12_qGoesOn_50 : decode cX12_qGoesOn 50 = .ok (.putfield 236, 3) := by decide +kernel
theorem dX12_qGoesOn_53 : decode cX12_qGoesOn 53 = .ok (.aload_n 0, 1) := by decide +kernel
theorem dX12_qGoesOn_54 : decode cX12_qGoesOn 54 = .ok (.invokevirtual 580, 3) := by decide +kernel
theorem dX12_qGoesOn_57 : decode cX12_qGoesOn 57 = .ok (.aload_n 0, 1) := by decide +kernel
theorem dX12_qGoesOn_58 : decode cX12_qGoesOn 58 = .ok (.dup, 1) := by decide +kernel
theorem dX12_qGoesOn_59 : decode cX12_qGoesOn 59 = .ok (.getfield 315, 3) := by decide +kernel
theorem dX12_qGoesOn_62 : decode cX12_qGoesOn 62 = .ok (.iconst 1, 1) := by decide +kernel
theorem dX12_qGoesOn_63 : decode cX12_qGoesOn 63 = .ok (.isub, 1) := by decide +kernel
theorem dX12_qGoesOn_64 : decode cX12_qGoesOn 64 = .ok (.putfield 315, 3) := by decide +kernel
theorem dX12_qGoesOn_67 : decode cX12_qGoesOn 67 = .ok (.aload_n 0, 1) := by decide +kernel
theorem dX12_qGoesOn_68 : decode cX12_qGoesOn 68 = .ok (.dup, 1) := by decide +kernel
theorem dX12_qGoesOn_69 : decode cX12_qGoesOn 69 = .ok (.getfield 318, 3) := by decide +kernel
theorem dX12_qGoesOn_72 : decode cX12_qGoesOn 72 = .ok (.iconst 1, 1) := by decide +kernel
theorem dX12_qGoesOn_73 : decode cX12_qGoesOn 73 = .ok (.isub, 1) := by decide +kernel
theorem dX12_qGoesOn_74 : decode cX12_qGoesOn 74 = .ok (.putfield 318, 3) := by decide +kernel
theorem dX12_qGoesOn_77 : decode cX12_qGoesOn 77 = .ok (.aload_n 0, 1) := by decide +kernel
theorem dX12_qGoesOn_78 : decode cX12_qGoesOn 78 = .ok (.getfield 218, 3) := by decide +kernel
theorem dX12_qGoesOn_81 : decode cX12_qGoesOn 81 = .ok (.aload_n 0, 1) := by decide +kernel
theorem dX12_qGoesOn_82 : decode cX12_qGoesOn 82 = .ok (.getfield 315, 3) := by decide +kernel
theorem dX12_qGoesOn_85 : decode cX12_qGoesOn 85 = .ok (.iaload, 1) := by decide +kernel
theorem dX12_qGoesOn_86 : decode cX12_qGoesOn 86 = .ok (.bipush 20, 2) := by decide +kernel
theorem dX12_qGoesOn_88 : decode cX12_qGoesOn 88 = .ok (.if_icmp .eq 27, 3) := by decide +kernel
theorem dX12_qGoesOn_91 : decode cX12_qGoesOn 91 = .ok (.aload_n 0, 1) := by decide +kernel
theorem dX12_qGoesOn_92 : decode cX12_qGoesOn 92 = .ok (.aload_n 0, 1) := by decide +kernel
theorem dX12_qGoesOn_93 : decode cX12_qGoesOn 93 = .ok (.getfield 218, 3) := by decide +kernel
theorem dX12_qGoesOn_96 : decode cX12_qGoesOn 96 = .ok (.aload_n 0, 1) := by decide +kernel
theorem dX12_qGoesOn_97 : decode cX12_qGoesOn 97 = .ok (.getfield 315, 3) := by decide +kernel
theorem dX12_qGoesOn_100 : decode cX12_qGoesOn 100 = .ok (.iaload, 1) := by decide +kernel
theorem dX12_qGoesOn_101 : decode cX12_qGoesOn 101 = .ok (.bipush 23, 2) := by decide +kernel
theorem dX12_qGoesOn_103 : decode cX12_qGoesOn 103 = .ok (.if_icmp .ne 7, 3) := by decide +kernel
theorem dX12_qGoesOn_106 : decode cX12_qGoesOn 106 = .ok (.iconst 5, 1) := by decide +kernel
theorem dX12_qGoesOn_107 : decode cX12_qGoesOn 107 = .ok (.goto 5, 3) := by decide +kernel
theorem dX12_qGoesOn_110 : decode cX12_qGoesOn 110 = .ok (.bipush 6, 2) := by decide +kernel
theorem dX12_qGoesOn_112 : decode cX12_qGoesOn 112 = .ok (.invokevirtual 550, 3) := by decide +kernel
theorem dX12_qGoesOn_115 : decode cX12_qGoesOn 115 = .ok (.aload_n 0, 1) := by decide +kernel
theorem dX12_qGoesOn_116 : decode cX12_qGoesOn 116 = .ok (.invokevirtual 574, 3) := by decide +kernel
theorem dX12_qGoesOn_119 : decode cX12_qGoesOn 119 = .ok (.goto (-119), 3) := by decide +kernel
theorem dX12_qGoesOn_122 : decode cX12_qGoesOn 122 = .ok (.aload_n 0, 1) := by decide +kernel
theorem dX12_qGoesOn_123 : decode cX12_qGoesOn 123 = .ok (.bipush 42, 2) := by decide +kernel
theorem dX12_qGoesOn_125 : decode cX12_qGoesOn 125 = .ok (.invokevirtual 264, 3) := by decide +kernel
theorem dX12_qGoesOn_128 : decode cX12_qGoesOn 128 = .ok (.ifCond .ne 12, 3) := by decide +kernel
theorem dX12_qGoesOn_131 : decode cX12_qGoesOn 131 = .ok (.aload_n 0, 1) := by decide +kernel
theorem dX12_qGoesOn_132 : decode cX12_qGoesOn 132 = .ok (.bipush 47, 2) := by decide +kernel
theorem dX12_qGoesOn_134 : decode cX12_qGoesOn 134 = .ok (.invokevirtual 264, 3) := by decide +kernel
theorem dX12_qGoesOn_137 : decode cX12_qGoesOn 137 = .ok (.ifCond .eq 70, 3) := by decide +kernel
theorem dX12_qGoesOn_140 : decode cX12_qGoesOn 140 = .ok (.aload_n 0, 1) := by decide +kernel
theorem dX12_qGoesOn_141 : decode cX12_qGoesOn 141 = .ok (.getfield 7, 3) := by decide +kernel
theorem dX12_qGoesOn_144 : decode cX12_qGoesOn 144 = .ok (.aload_n 0, 1) := by decide +kernel
theorem dX12_qGoesOn_145 : decode cX12_qGoesOn 145 = .ok (.getfield 236, 3) := by decide +kernel
theorem dX12_qGoesOn_148 : decode cX12_qGoesOn 148 = .ok (.iconst 1, 1) := by decide +kernel
theorem dX12_qGoesOn_149 : decode cX12_qGoesOn 149 = .ok (.isub, 1) := by decide +kernel
theorem dX12_qGoesOn_150 : decode cX12_qGoesOn 150 = .ok (.iaload, 1) := by decide +kernel
theorem dX12_qGoesOn_151 : decode cX12_qGoesOn 151 = .ok (.bipush 42, 2) := by decide +kernel
theorem dX12_qGoesOn_153 : decode cX12_qGoesOn 153 = .ok (.if_icmp .ne 7, 3) := by decide +kernel
theorem dX12_qGoesOn_156 : decode cX12_qGoesOn 156 = .ok (.iconst 3, 1) := by decide +kernel
theorem dX12_qGoesOn_157 : decode cX12_qGoesOn 157 = .ok (.goto 4, 3) := by decide +kernel
theorem dX12_qGoesOn_160 : decode cX12_qGoesOn 160 = .ok (.iconst 4, 1) := by decide +kernel
theorem dX12_qGoesOn_161 : decode cX12_qGoesOn 161 = .ok (.istore_n 1, 1) := by decide +kernel
theorem dX12_qGoesOn_162 : decode cX12_qGoesOn 162 = .ok (.aload_n 0, 1) := by decide +kernel
theorem dX12_qGoesOn_163 : decode cX12_qGoesOn 163 = .ok (.iconst 3, 1) := by decide +kernel
theorem dX12_qGoesOn_164 : decode cX12_qGoesOn 164 = .ok (.invokevirtual 583, 3) := by decide +kernel
theorem dX12_qGoesOn_167 : decode cX12_qGoesOn 167 = .ok (.ifCond .ne 11, 3) := by decide +kernel
theorem dX12_qGoesOn_170 : decode cX12_qGoesOn 170 = .ok (.aload_n 0, 1) := by decide +kernel
theorem dX12_qGoesOn_171 : decode cX12_qGoesOn 171 = .ok (.iconst 4, 1) := by decide +kernel
theorem dX12_qGoesOn_172 : decode cX12_qGoesOn 172 = .ok (.invokevirtual 583, 3) := by decide +kernel
theorem dX12_qGoesOn_175 : decode cX12_qGoesOn 175 = .ok (.ifCond .eq 10, 3) := by decide +kernel
theorem dX12_qGoesOn_178 : decode cX12_qGoesOn 178 = .ok (.aload_n 0, 1) := by decide +kernel
theorem dX12_qGoesOn_179 : decode cX12_qGoesOn 179 = .ok (.invokevirtual 556, 3) := by decide +kernel
theorem dX12_qGoesOn_182 : decode cX12_qGoesOn 182 = .ok (.goto (-20), 3) := by decide +kernel
theorem dX12_qGoesOn_185 : decode cX12_qGoesOn 185 = .ok (.aload_n 0, 1) := by decide +kernel
theorem dX12_qGoesOn_186 : decode cX12_qGoesOn 186 = .ok (.getfield 218, 3) := by decide +kernel
theorem dX12_qGoesOn_189 : decode cX12_qGoesOn 189 = .ok (.aload_n 0, 1) := by decide +kernel
theorem dX12_qGoesOn_190 : decode cX12_qGoesOn 190 = .ok (.getfield 315, 3) := by decide +kernel
theorem dX12_qGoesOn_193 : decode cX12_qGoesOn 193 = .ok (.iload_n 1, 1) := by decide +kernel
theorem dX12_qGoesOn_194 : decode cX12_qGoesOn 194 = .ok (.iastore, 1) := by decide +kernel
theorem dX12_qGoesOn_195 : decode cX12_qGoesOn 195 = .ok (.aload_n 0, 1) := by decide +kernel
theorem dX12_qGoesOn_196 : decode cX12_qGoesOn 196 = .ok (.dup, 1) := by decide +kernel
theorem dX12_qGoesOn_197 : decode cX12_qGoesOn 197 = .ok (.getfield 315, 3) := by decide +kernel
theorem dX12_qGoesOn_200 : decode cX12_qGoesOn 200 = .ok (.iconst 1, 1) := by decide +kernel
theorem dX12_qGoesOn_201 : decode cX12_qGoesOn 201 = .ok (.iadd, 1) := by decide +kernel
theorem dX12_qGoesOn_202 : decode cX12_qGoesOn 202 = .ok (.putfield 315, 3) := by decide +kernel
theorem dX12_qGoesOn_205 : decode cX12_qGoesOn 205 = .ok (.iconst 1, 1) := by decide +kernel
theorem dX12_qGoesOn_206 : decode cX12_qGoesOn 206 = .ok (.ireturn, 1) := by decide +kernel
theorem dX12_qGoesOn_207 : decode cX12_qGoesOn 207 = .ok (.aload_n 0, 1) := by decide +kernel
theorem dX12_qGoesOn_208 : decode cX12_qGoesOn 208 = .ok (.bipush 43, 2) := by decide +kernel
theorem dX12_qGoesOn_210 : decode cX12_qGoesOn 210 = .ok (.invokevirtual 264, 3) := by decide +kernel
theorem dX12_qGoesOn_213 : decode cX12_qGoesOn 213 = .ok (.ifCond .ne 12, 3) := by decide +kernel
theorem dX12_qGoesOn_216 : decode cX12_qGoesOn 216 = .ok (.aload_n 0, 1) := by decide +kernel
theorem dX12_qGoesOn_217 : decode cX12_qGoesOn 217 = .ok (.bipush 45, 2) := by decide +kernel
theorem dX12_qGoesOn_219 : decode cX12_qGoesOn 219 = .ok (.invokevirtual 264, 3) := by decide +kernel
theorem dX12_qGoesOn_222 : decode cX12_qGoesOn 222 = .ok (.ifCond .eq 86, 3) := by decide +kernel
theorem dX12_qGoesOn_225 : decode cX12_qGoesOn 225 = .ok (.aload_n 0, 1) := by decide +kernel
theorem dX12_qGoesOn_226 : decode cX12_qGoesOn 226 = .ok (.getfield 7, 3) := by decide +kernel
theorem dX12_qGoesOn_229 : decode cX12_qGoesOn 229 = .ok (.aload_n 0, 1) := by decide +kernel
theorem dX12_qGoesOn_230 : decode cX12_qGoesOn 230 = .ok (.getfield 236, 3) := by decide +kernel
theorem dX12_qGoesOn_233 : decode cX12_qGoesOn 233 = .ok (.iconst 1, 1) := by decide +kernel
theorem dX12_qGoesOn_234 : decode cX12_qGoesOn 234 = .ok (.isub, 1) := by decide +kernel
theorem dX12_qGoesOn_235 : decode cX12_qGoesOn 235 = .ok (.iaload, 1) := by decide +kernel
theorem dX12_qGoesOn_236 : decode cX12_qGoesOn 236 = .ok (.bipush 43, 2) := by decide +kernel
theorem dX12_qGoesOn_238 : decode cX12_qGoesOn 238 = .ok (.if_icmp .ne 7, 3) := by decide +kernel
theorem dX12_qGoesOn_241 : decode cX12_qGoesOn 241 = .ok (.iconst 1, 1) := by decide +kernel
theorem dX12_qGoesOn_242 : decode cX12_qGoesOn 242 = .ok (.goto 4, 3) := by decide +kernel
theorem dX12_qGoesOn_245 : decode cX12_qGoesOn 245 = .ok (.iconst 2, 1) := by decide +kernel
theorem dX12_qGoesOn_246 : decode cX12_qGoesOn 246 = .ok (.istore_n 1, 1) := by decide +kernel
theorem dX12_qGoesOn_247 : decode cX12_qGoesOn 247 = .ok (.aload_n 0, 1) := by decide +kernel
theorem dX12_qGoesOn_248 : decode cX12_qGoesOn 248 = .ok (.iconst 3, 1) := by decide +kernel
theorem dX12_qGoesOn_249 : decode cX12_qGoesOn 249 = .ok (.invokevirtual 583, 3) := by decide +kernel
theorem dX12_qGoesOn_252 : decode cX12_qGoesOn 252 = .ok (.ifCond .ne 27, 3) := by decide +kernel
theorem dX12_qGoesOn_255 : decode cX12_qGoesOn 255 = .ok (.aload_n 0, 1) := by decide +kernel
theorem dX12_qGoesOn_256 : decode cX12_qGoesOn 256 = .ok (.iconst 4, 1) := by decide +kernel
theorem dX12_qGoesOn_257 : decode cX12_qGoesOn 257 = .ok (.invokevirtual 583, 3) := by decide +kernel
theorem dX12_qGoesOn_260 : decode cX12_qGoesOn 260 = .ok (.ifCond .ne 19, 3) := by decide +kernel
theorem dX12_qGoesOn_263 : decode cX12_qGoesOn 263 = .ok (.aload_n 0, 1) := by decide +kernel
theorem dX12_qGoesOn_264 : decode cX12_qGoesOn 264 = .ok (.iconst 1, 1) := by decide +kernel
theorem dX12_qGoesOn_265 : decode cX12_qGoesOn 265 = .ok (.invokevirtual 583, 3) := by decide +kernel
theorem dX12_qGoesOn_268 : decode cX12_qGoesOn 268 = .ok (.ifCond .ne 11, 3) := by decide +kernel
theorem dX12_qGoesOn_271 : decode cX12_qGoesOn 271 = .ok (.aload_n 0, 1) := by decide +kernel
theorem dX12_qGoesOn_272 : decode cX12_qGoesOn 272 = .ok (.iconst 2, 1) := by decide +kernel
theorem dX12_qGoesOn_273 : decode cX12_qGoesOn 273 = .ok (.invokevirtual 583, 3) := by decide +kernel
theorem dX12_qGoesOn_276 : decode cX12_qGoesOn 276 = .ok (.ifCond .eq 10, 3) := by decide +kernel
theorem dX12_qGoesOn_279 : decode cX12_qGoesOn 279 = .ok (.aload_n 0, 1) := by decide +kernel
theorem dX12_qGoesOn_280 : decode cX12_qGoesOn 280 = .ok (.invokevirtual 556, 3) := by decide +kernel
theorem dX12_qGoesOn_283 : decode cX12_qGoesOn 283 = .ok (.goto (-36), 3) := by decide +kernel
theorem dX12_qGoesOn_286 : decode cX12_qGoesOn 286 = .ok (.aload_n 0, 1) := by decide +kernel
theorem dX12_qGoesOn_287 : decode cX12_qGoesOn 287 = .ok (.getfield 218, 3) := by decide +kernel
theorem dX12_qGoesOn_290 : decode cX12_qGoesOn 290 = .ok (.aload_n 0, 1) := by decide +kernel
theorem dX12_qGoesOn_291 : decode cX12_qGoesOn 291 = .ok (.getfield 315, 3) := by decide +kernel
theorem dX12_qGoesOn_294 : decode cX12_qGoesOn 294 = .ok (.iload_n 1, 1) := by decide +kernel
theorem dX12_qGoesOn_295 : decode cX12_qGoesOn 295 = .ok (.iastore, 1) := by decide +kernel
theorem dX12_qGoesOn_296 : decode cX12_qGoesOn 296 = .ok (.aload_n 0, 1) := by decide +kernel
theorem dX12_qGoesOn_297 : decode cX12_qGoesOn 297 = .ok (.dup, 1) := by decide +kernel
theorem dX12_qGoesOn_298 : decode cX12_qGoesOn 298 = .ok (.getfield 315, 3) := by decide +kernel
theorem dX12_qGoesOn_301 : decode cX12_qGoesOn 301 = .ok (.iconst 1, 1) := by decide +kernel
theorem dX12_qGoesOn_302 : decode cX12_qGoesOn 302 = .ok (.iadd, 1) := by decide +kernel
theorem dX12_qGoesOn_303 : decode cX12_qGoesOn 303 = .ok (.putfield 315, 3) := by decide +kernel
theorem dX12_qGoesOn_306 : decode cX12_qGoesOn 306 = .ok (.iconst 1, 1) := by decide +kernel
theorem dX12_qGoesOn_307 : decode cX12_qGoesOn 307 = .ok (.ireturn, 1) := by decide +kernel
theorem dX12_qGoesOn_308 : decode cX12_qGoesOn 308 = .ok (.aload_n 0, 1) := by decide +kernel
theorem dX12_qGoesOn_309 : decode cX12_qGoesOn 309 = .ok (.invokevirtual 577, 3) := by decide +kernel
theorem dX12_qGoesOn_312 : decode cX12_qGoesOn 312 = .ok (.bipush 21, 2) := by decide +kernel
theorem dX12_qGoesOn_314 : decode cX12_qGoesOn 314 = .ok (.if_icmp .eq 12, 3) := by decide +kernel
theorem dX12_qGoesOn_317 : decode cX12_qGoesOn 317 = .ok (.aload_n 0, 1) := by decide +kernel
theorem dX12_qGoesOn_318 : decode cX12_qGoesOn 318 = .ok (.invokevirtual 577, 3) := by decide +kernel
theorem dX12_qGoesOn_321 : decode cX12_qGoesOn 321 = .ok (.bipush 22, 2) := by decide +kernel
theorem dX12_qGoesOn_323 : decode cX12_qGoesOn 323 = .ok (.if_icmp .ne 39, 3) := by decide +kernel
theorem dX12_qGoesOn_326 : decode cX12_qGoesOn 326 = .ok (.aload_n 0, 1) := by decide +kernel
theorem dX12_qGoesOn_327 : decode cX12_qGoesOn 327 = .ok (.bipush 44, 2) := by decide +kernel
theorem dX12_qGoesOn_329 : decode cX12_qGoesOn 329 = .ok (.invokevirtual 346, 3) := by decide +kernel
theorem dX12_qGoesOn_332 : decode cX12_qGoesOn 332 = .ok (.aload_n 0, 1) := by decide +kernel
theorem dX12_qGoesOn_333 : decode cX12_qGoesOn 333 = .ok (.getfield 230, 3) := by decide +kernel
theorem dX12_qGoesOn_336 : decode cX12_qGoesOn 336 = .ok (.ifCond .eq 5, 3) := by decide +kernel
theorem dX12_qGoesOn_339 : decode cX12_qGoesOn 339 = .ok (.iconst 0, 1) := by decide +kernel
theorem dX12_qGoesOn_340 : decode cX12_qGoesOn 340 = .ok (.ireturn, 1) := by decide +kernel
theorem dX12_qGoesOn_341 : decode cX12_qGoesOn 341 = .ok (.aload_n 0, 1) := by decide +kernel
theorem dX12_qGoesOn_342 : decode cX12_qGoesOn 342 = .ok (.invokevirtual 580, 3) := by decide +kernel
theorem dX12_qGoesOn_345 : decode cX12_qGoesOn 345 = .ok (.aload_n 0, 1) := by decide +kernel
theorem dX12_qGoesOn_346 : decode cX12_qGoesOn 346 = .ok (.getfield 218, 3) := by decide +kernel
theorem dX12_qGoesOn_349 : decode cX12_qGoesOn 349 = .ok (.aload_n 0, 1) := by decide +kernel
theorem dX12_qGoesOn_350 : decode cX12_qGoesOn 350 = .ok (.getfield 315, 3) := by decide +kernel
theorem dX12_qGoesOn_353 : decode cX12_qGoesOn 353 = .ok (.iconst 1, 1) := by decide +kernel
theorem dX12_qGoesOn_354 : decode cX12_qGoesOn 354 = .ok (.isub, 1) := by decide +kernel
theorem dX12_qGoesOn_355 : decode cX12_qGoesOn 355 = .ok (.dup2, 1) := by decide +kernel
theorem dX12_qGoesOn_356 : decode cX12_qGoesOn 356 = .ok (.iaload, 1) := by decide +kernel
theorem dX12_qGoesOn_357 : decode cX12_qGoesOn 357 = .ok (.iconst 2, 1) := by decide +kernel
theorem dX12_qGoesOn_358 : decode cX12_qGoesOn 358 = .ok (.iadd, 1) := by decide +kernel
theorem dX12_qGoesOn_359 : decode cX12_qGoesOn 359 = .ok (.iastore, 1) := by decide +kernel
theorem dX12_qGoesOn_360 : decode cX12_qGoesOn 360 = .ok (.iconst 1, 1) := by decide +kernel
theorem dX12_qGoesOn_361 : decode cX12_qGoesOn 361 = .ok (.ireturn, 1) := by decide +kernel
theorem dX12_qGoesOn_362 : decode cX12_qGoesOn 362 = .ok (.aload_n 0, 1) := by decide +kernel
theorem dX12_qGoesOn_363 : decode cX12_qGoesOn 363 = .ok (.invokevirtual 577, 3) := by decide +kernel
theorem dX12_qGoesOn_366 : decode cX12_qGoesOn 366 = .ok (.iconst (-1), 1) := by decide +kernel
theorem dX12_qGoesOn_367 : decode cX12_qGoesOn 367 = .ok (.if_icmp .eq 19, 3) := by decide +kernel
theorem dX12_qGoesOn_370 : decode cX12_qGoesOn 370 = .ok (.aload_n 0, 1) := by decide +kernel
theorem dX12_qGoesOn_371 : decode cX12_qGoesOn 371 = .ok (.getfield 230, 3) := by decide +kernel
theorem dX12_qGoesOn_374 : decode cX12_qGoesOn 374 = .ok (.ifCond .ne 12, 3) := by decide +kernel
theorem dX12_qGoesOn_377 : decode cX12_qGoesOn 377 = .ok (.aload_n 0, 1) := by decide +kernel
theorem dX12_qGoesOn_378 : decode cX12_qGoesOn 378 = .ok (.iconst 1, 1) := by decide +kernel
theorem dX12_qGoesOn_379 : decode cX12_qGoesOn 379 = .ok (.aload_n 0, 1) := by decide +kernel
theorem dX12_qGoesOn_380 : decode cX12_qGoesOn 380 = .ok (.getfield 236, 3) := by decide +kernel
theorem dX12_qGoesOn_383 : decode cX12_qGoesOn 383 = .ok (.invokevirtual 260, 3) := by decide +kernel
theorem dX12_qGoesOn_386 : decode cX12_qGoesOn 386 = .ok (.iconst 0, 1) := by decide +kernel
theorem dX12_qGoesOn_387 : decode cX12_qGoesOn 387 = .ok (.ireturn, 1) := by decide +kernel
theorem kc_RX12_577 : Cond.methodLink RX12 577 yX12_qBracket ∈ ktG ∧ (Cond.instanceMethod yX12_qBracket ∈ ktG ∧ Cond.selects yX12_qBracket.cls yX12_qBracket yX12_qBracket ∈ ktG) ∧ Cond.initialized yX12_qBracket.cls ∈ ktG ∧ Cond.code yX12_qBracket cX12_qBracket 2 (some .int) ∈ ktG := ⟨(kwm 1637 (by decide +kernel) (by decide +kernel)), ⟨(kwm 1639 (by decide +kernel) (by decide +kernel)), (kwm 67 (by decide +kernel) (by decide +kernel))⟩, (kwm 139 (by decide +kernel) (by decide +kernel)), kwm 1640 (by decide +kernel) (by decide +kernel)⟩
theorem kh_X12_qBracket : yX12_qBracket.cls ≠ "java/lang/invoke/MethodHandle" ∧ yX12_qBracket.cls ≠ "java/lang/invoke/VarHandle" ∧ (parseMethodDescriptor yX12_qBracket.desc).map (fun d => d.parameters.length) = some 0 := by decide +kernel
theorem kc_RX12_580 : Cond.methodLink RX12 580 yX12_qDropsToBracket ∈ ktG ∧ (Cond.instanceMethod yX12_qDropsToBracket ∈ ktG ∧ Cond.selects yX12_qDropsToBracket.cls yX12_qDropsToBracket yX12_qDropsToBracket ∈ ktG) ∧ Cond.initialized yX12_qDropsToBracket.cls ∈ ktG ∧ Cond.code yX12_qDropsToBracket cX12_qDropsToBracket 1 none ∈ ktG := ⟨(kwm 1644 (by decide +kernel) (by decide +kernel)), ⟨(kwm 1646 (by decide +kernel) (by decide +kernel)), (kwm 68 (by decide +kernel) (by decide +kernel))⟩, (kwm 139 (by decide +kernel) (by decide +kernel)), kwm 1647 (by decide +kernel) (by decide +kernel)⟩
theorem kh_X12_qDropsToBracket : yX12_qDropsToBracket.cls ≠ "java/lang/invoke/MethodHandle" ∧ yX12_qDropsToBracket.cls ≠ "java/lang/invoke/VarHandle" ∧ (parseMethodDescriptor yX12_qDropsToBracket.desc).map (fun d => d.parameters.length) = some 0 := by decide +kernel
theorem kc_RX12_583 : Cond.methodLink RX12 583 yX12_qIsOn ∈ ktG ∧ (Cond.instanceMethod yX12_qIsOn ∈ ktG ∧ Cond.selects yX12_qIsOn.cls yX12_qIsOn yX12_qIsOn ∈ ktG) ∧ Cond.initialized yX12_qIsOn.cls ∈ ktG ∧ Cond.code yX12_qIsOn cX12_qIsOn 2 (some .boolean) ∈ ktG := ⟨(kwm 1648 (by decide +kernel) (by decide +kernel)), ⟨(kwm 1650 (by decide +kernel) (by decide +kernel)), (kwm 69 (by decide +kernel) (by decide +kernel))⟩, (kwm 139 (by decide +kernel) (by decide +kernel)), kwm 1651 (by decide +kernel) (by decide +kernel)⟩
theorem kh_X12_qIsOn : yX12_qIsOn.cls ≠ "java/lang/invoke/MethodHandle" ∧ yX12_qIsOn.cls ≠ "java/lang/invoke/VarHandle" ∧ (parseMethodDescriptor yX12_qIsOn.desc).map (fun d => d.parameters.length) = some 1 := by decide +kernel
def E_X12_qGoesOn_l0 (v0 : Nat) : KH → Nat → List (Nat × Value) → List Value → KH → Prop := fun (e : KH) pc ls st hh => pc = 122 ∧ ls = [(0, .ref v0)] ∧ st = [] ∧ e = hh
def B_X12_qGoesOn_l0 (v0 : Nat) : ((KH) ⊕ (KH)) → Nat → List (Nat × Value) → List Value → KH → Prop := Sum.elim (fun (s : KH) pc ls st hh => pc = 0 ∧ ls = [(0, .ref v0)] ∧ st = [] ∧ hh = s) (E_X12_qGoesOn_l0 v0)
def f_X12_qGoesOn_b115 (h : KH) (v0 : Nat) : Option ((KH) ⊕ (KH)) :=
  if kkind v0 = 12 then kb (f_X12_qEndsPart h v0) fun r2 =>
  some (.inl r2) else none
set_option maxHeartbeats 4000000 in
set_option maxRecDepth 100000 in
theorem s_X12_qGoesOn_b115 {Z : Nat → (Nat → Nat) → State → Prop} (h : KH) (v0 : Nat) {t : (KH) ⊕ (KH)} (hn : h.1 = 243) (H : f_X12_qGoesOn_b115 h v0 = some t) : KX Z RX12 cX12_qGoesOn 2 false 4 (B_X12_qGoesOn_l0 v0 t) 115 [(0, .ref v0)] [] h := by
  unfold f_X12_qGoesOn_b115 at H
  refine x_aload_n (q := 116) dX12_qGoesOn_115 rfl rfl ?_
  replace H := kif H; obtain ⟨g1, H⟩ := H
  replace H := kbe H; obtain ⟨r2, c3, H⟩ := H
  have m4 := s_X12_qEndsPart (Z := Z) h v0 hn c3
  refine x_callV (q := 119) (as := []) (rest := []) dX12_qGoesOn_116 rfl kc_RX12_574 kh_X12_qEndsPart (by decide) (Nat.le_of_ble_eq_true rfl) m4 (ci := 12) (by exact ⟨rfl, by decide⟩) (k243 g1 (by decide) hn) ?_
  have n5 : (r2).1 = 243 := m4.1.full hn
  refine x_goto dX12_qGoesOn_119 (q := 0) (by decide) ?_
  cases H
  refine x_sub (ls2 := [(0, .ref v0)]) [0] rfl ?_
  exact x_end (x_cfg rfl)
def f_X12_qGoesOn_b112 (h : KH) (v0 : Nat) (w0 : Nat) (w1 : Int32) : Option ((KH) ⊕ (KH)) :=
  if kkind w0 = 12 then kb (f_X12_qCode h w0 w1) fun r2 =>
  f_X12_qGoesOn_b115 r2 v0 else none
set_option maxHeartbeats 4000000 in
set_option maxRecDepth 100000 in
theorem s_X12_qGoesOn_b112 {Z : Nat → (Nat → Nat) → State → Prop} (h : KH) (v0 : Nat) (w0 : Nat) (w1 : Int32) {t : (KH) ⊕ (KH)} (hn : h.1 = 243) (H : f_X12_qGoesOn_b112 h v0 w0 w1 = some t) : KX Z RX12 cX12_qGoesOn 2 false 4 (B_X12_qGoesOn_l0 v0 t) 112 [(0, .ref v0)] [.int w1, .ref w0] h := by
  unfold f_X12_qGoesOn_b112 at H
  replace H := kif H; obtain ⟨g1, H⟩ := H
  replace H := kbe H; obtain ⟨r2, c3, H⟩ := H
  have m4 := s_X12_qCode (Z := Z) h w0 w1 hn c3
  refine x_callV (q := 115) (as := [.int w1]) (rest := []) dX12_qGoesOn_112 rfl kc_RX12_550 kh_X12_qCode (by decide) (Nat.le_of_ble_eq_true rfl) m4 (ci := 12) (by exact ⟨rfl, by decide⟩) (k243 g1 (by decide) hn) ?_
  have n5 : (r2).1 = 243 := m4.1.full hn
  refine x_sub (ls2 := [(0, .ref v0)]) [0] rfl ?_
  exact s_X12_qGoesOn_b115 r2 v0 n5 H
def f_X12_qGoesOn_b43 (h : KH) (v0 : Nat) : Option ((KH) ⊕ (KH)) :=
  if kkind v0 = 12 then kl (ksI h v0 2 ((kI h v0 2) + (1 : Int32))) fun h2 =>
  kb (f_X12_qDropsToBracket h2 v0) fun r5 =>
  kl (ksI r5 v0 88 ((kI r5 v0 88) - (1 : Int32))) fun h9 =>
  kl (ksI h9 v0 89 ((kI h9 v0 89) - (1 : Int32))) fun h12 =>
  if (kR h12 v0 87) < 999999 then if kkind (kR h12 v0 87) = 20 then if ((kI h12 v0 88) < 0 ∨ klen (kR h12 v0 87) ≤ ((kI h12 v0 88)).toNatClampNeg) then none else if (kI h12 (kR h12 v0 87) (((kI h12 v0 88)).toNatClampNeg)) = (20 : Int32) then
  f_X12_qGoesOn_b115 h12 v0
  else
  if (kI h12 (kR h12 v0 87) (((kI h12 v0 88)).toNatClampNeg)) = (23 : Int32) then
  f_X12_qGoesOn_b112 h12 v0 v0 (5 : Int32)
  else
  f_X12_qGoesOn_b112 h12 v0 v0 (6 : Int32) else none else none else none
set_option maxHeartbeats 4000000 in
set_option maxRecDepth 100000 in
theorem s_X12_qGoesOn_b43 {Z : Nat → (Nat → Nat) → State → Prop} (h : KH) (v0 : Nat) {t : (KH) ⊕ (KH)} (hn : h.1 = 243) (H : f_X12_qGoesOn_b43 h v0 = some t) : KX Z RX12 cX12_qGoesOn 2 false 4 (B_X12_qGoesOn_l0 v0 t) 43 [(0, .ref v0)] [] h := by
  unfold f_X12_qGoesOn_b43 at H
  refine x_aload_n (q := 44) dX12_qGoesOn_43 rfl rfl ?_
  refine x_dup (q := 45) dX12_qGoesOn_44 rfl rfl ?_
  replace H := kif H; obtain ⟨g1, H⟩ := H
  refine x_getI (q := 48) dX12_qGoesOn_45 rfl kl_RX12_236 (Or.inl rfl) (k243 g1 (by decide) hn) ?_
  refine x_iconst (q := 49) (v := (1 : Int32)) dX12_qGoesOn_48 rfl (by decide) ?_
  refine x_iadd (q := 50) dX12_qGoesOn_49 rfl ?_
  replace H := kle H; obtain ⟨h2, q3, H⟩ := H
  refine x_putI (q := 53) dX12_qGoesOn_50 rfl kl_RX12_236 (Or.inl rfl) rfl (k243 g1 (by decide) hn) ?_
  refine x_nmH q3 ?_
  have n4 : h2.1 = 243 := by rw [q3]; exact hn
  refine x_aload_n (q := 54) dX12_qGoesOn_53 rfl rfl ?_
  replace H := kbe H; obtain ⟨r5, c6, H⟩ := H
  have m7 := s_X12_qDropsToBracket (Z := Z) h2 v0 n4 c6
  refine x_callV (q := 57) (as := []) (rest := []) dX12_qGoesOn_54 rfl kc_RX12_580 kh_X12_qDropsToBracket (by decide) (Nat.le_of_ble_eq_true rfl) m7 (ci := 12) (by exact ⟨rfl, by decide⟩) (k243 g1 (by decide) n4) ?_
  have n8 : (r5).1 = 243 := m7.1.full n4
  refine x_aload_n (q := 58) dX12_qGoesOn_57 rfl rfl ?_
  refine x_dup (q := 59) dX12_qGoesOn_58 rfl rfl ?_
  refine x_getI (q := 62) dX12_qGoesOn_59 rfl kl_RX12_315 (Or.inl rfl) (k243 g1 (by decide) n8) ?_
  refine x_iconst (q := 63) (v := (1 : Int32)) dX12_qGoesOn_62 rfl (by decide) ?_
  refine x_isub (q := 64) dX12_qGoesOn_63 rfl ?_
  replace H := kle H; obtain ⟨h9, q10, H⟩ := H
  refine x_putI (q := 67) dX12_qGoesOn_64 rfl kl_RX12_315 (Or.inl rfl) rfl (k243 g1 (by decide) n8) ?_
  refine x_nmH q10 ?_
  have n11 : h9.1 = 243 := by rw [q10]; exact n8
  refine x_aload_n (q := 68) dX12_qGoesOn_67 rfl rfl ?_
  refine x_dup (q := 69) dX12_qGoesOn_68 rfl rfl ?_
  refine x_getI (q := 72) dX12_qGoesOn_69 rfl kl_RX12_318 (Or.inl rfl) (k243 g1 (by decide) n11) ?_
  refine x_iconst (q := 73) (v := (1 : Int32)) dX12_qGoesOn_72 rfl (by decide) ?_
  refine x_isub (q := 74) dX12_qGoesOn_73 rfl ?_
  replace H := kle H; obtain ⟨h12, q13, H⟩ := H
  refine x_putI (q := 77) dX12_qGoesOn_74 rfl kl_RX12_318 (Or.inl rfl) rfl (k243 g1 (by decide) n11) ?_
  refine x_nmH q13 ?_
  have n14 : h12.1 = 243 := by rw [q13]; exact n11
  refine x_aload_n (q := 78) dX12_qGoesOn_77 rfl rfl ?_
  replace H := kif H; obtain ⟨g15, H⟩ := H
  refine x_getR (q := 81) dX12_qGoesOn_78 rfl kl_RX12_218 rfl (k243 g1 (by decide) n14) g15 ?_
  refine x_aload_n (q := 82) dX12_qGoesOn_81 rfl rfl ?_
  refine x_getI (q := 85) dX12_qGoesOn_82 rfl kl_RX12_315 (Or.inl rfl) (k243 g1 (by decide) n14) ?_
  replace H := kif H; obtain ⟨g16, H⟩ := H
  replace H := kifn H; obtain ⟨g17, H⟩ := H
  refine x_iald (q := 86) dX12_qGoesOn_85 rfl (k243 g16 (by decide) n14) g17 ?_
  refine x_bipush (q := 88) (v := (20 : Int32)) dX12_qGoesOn_86 rfl (by decide) ?_
  replace H := kite H; rcases H with ⟨g18, H⟩ | ⟨g18, H⟩
  · refine x_icmp_eq_t dX12_qGoesOn_88 (q := 115) (by decide) g18 ?_
    refine x_sub (ls2 := [(0, .ref v0)]) [0] rfl ?_
    exact s_X12_qGoesOn_b115 h12 v0 n14 H
  · refine x_icmp_eq_f (q := 91) dX12_qGoesOn_88 (t := 115) (by decide) rfl g18 ?_
    refine x_aload_n (q := 92) dX12_qGoesOn_91 rfl rfl ?_
    refine x_aload_n (q := 93) dX12_qGoesOn_92 rfl rfl ?_
    refine x_getR (q := 96) dX12_qGoesOn_93 rfl kl_RX12_218 rfl (k243 g1 (by decide) n14) g15 ?_
    refine x_aload_n (q := 97) dX12_qGoesOn_96 rfl rfl ?_
    refine x_getI (q := 100) dX12_qGoesOn_97 rfl kl_RX12_315 (Or.inl rfl) (k243 g1 (by decide) n14) ?_
    refine x_iald (q := 101) dX12_qGoesOn_100 rfl (k243 g16 (by decide) n14) g17 ?_
    refine x_bipush (q := 103) (v := (23 : Int32)) dX12_qGoesOn_101 rfl (by decide) ?_
    replace H := kite H; rcases H with ⟨g19, H⟩ | ⟨g19, H⟩
    · refine x_icmp_ne_f (q := 106) dX12_qGoesOn_103 (t := 110) (by decide) rfl g19 ?_
      refine x_iconst (q := 107) (v := (5 : Int32)) dX12_qGoesOn_106 rfl (by decide) ?_
      refine x_goto dX12_qGoesOn_107 (q := 112) (by decide) ?_
      refine x_sub (ls2 := [(0, .ref v0)]) [0] rfl ?_
      exact s_X12_qGoesOn_b112 h12 v0 v0 (5 : Int32) n14 H
    · refine x_icmp_ne_t dX12_qGoesOn_103 (q := 110) (by decide) g19 ?_
      refine x_bipush (q := 112) (v := (6 : Int32)) dX12_qGoesOn_110 rfl (by decide) ?_
      refine x_sub (ls2 := [(0, .ref v0)]) [0] rfl ?_
      exact s_X12_qGoesOn_b112 h12 v0 v0 (6 : Int32) n14 H
def f_X12_qGoesOn_l0 (v0 : Nat) (s : KH) : Option ((KH) ⊕ (KH)) :=
  if kkind v0 = 12 then if (kI s v0 5) = 0 then
  kb (f_X12_look0 s v0) fun r3 =>
  if r3.1 = (41 : Int32) then
  kb (f_X12_qBracket r3.2 v0) fun r8 =>
  if r8 = (20 : Int32) then
  f_X12_qGoesOn_b43 r3.2 v0
  else
  kb (f_X12_qBracket r3.2 v0) fun r12 =>
  if r12 = (23 : Int32) then
  f_X12_qGoesOn_b43 r3.2 v0
  else
  kb (f_X12_qBracket r3.2 v0) fun r16 =>
  if r16 = (24 : Int32) then
  f_X12_qGoesOn_b43 r3.2 v0
  else
  some (.inr r3.2)
  else
  some (.inr r3.2)
  else
  some (.inr s) else none
set_option maxHeartbeats 4000000 in
set_option maxRecDepth 100000 in
theorem s_X12_qGoesOn_l0 {Z : Nat → (Nat → Nat) → State → Prop} (v0 : Nat) (s : KH) (t : (KH) ⊕ (KH)) (hn : (s).1 = 243) (H : f_X12_qGoesOn_l0 v0 s = some t) : KX Z RX12 cX12_qGoesOn 2 false 4 (B_X12_qGoesOn_l0 v0 t) 0 [(0, .ref v0)] [] s := by
  unfold f_X12_qGoesOn_l0 at H
  refine x_aload_n (q := 1) dX12_qGoesOn_0 rfl rfl ?_
  replace H := kif H; obtain ⟨g1, H⟩ := H
  refine x_getI (q := 4) dX12_qGoesOn_1 rfl kl_RX12_230 (Or.inl rfl) (k243 g1 (by decide) hn) ?_
  replace H := kite H; rcases H with ⟨g2, H⟩ | ⟨g2, H⟩
  · refine x_if_ne_f (q := 7) dX12_qGoesOn_4 (t := 122) (by decide) rfl g2 ?_
    refine x_aload_n (q := 8) dX12_qGoesOn_7 rfl rfl ?_
    replace H := kbe H; obtain ⟨r3, c4, H⟩ := H
    have m5 := s_X12_look0 (Z := Z) s v0 hn c4
    refine x_callV (q := 11) (as := []) (rest := []) dX12_qGoesOn_8 rfl kc_RX12_242 kh_X12_look0 (by decide) (Nat.le_of_ble_eq_true rfl) m5 (ci := 12) (by exact ⟨rfl, by decide⟩) (k243 g1 (by decide) hn) ?_
    have n6 : (r3.2).1 = 243 := m5.1.full hn
    refine x_bipush (q := 13) (v := (41 : Int32)) dX12_qGoesOn_11 rfl (by decide) ?_
    replace H := kite H; rcases H with ⟨g7, H⟩ | ⟨g7, H⟩
    · refine x_icmp_ne_f (q := 16) dX12_qGoesOn_13 (t := 122) (by decide) rfl g7 ?_
      refine x_aload_n (q := 17) dX12_qGoesOn_16 rfl rfl ?_
      replace H := kbe H; obtain ⟨r8, c9, H⟩ := H
      have m10 := s_X12_qBracket (Z := Z) r3.2 v0 n6 c9
      refine x_callV (q := 20) (as := []) (rest := []) dX12_qGoesOn_17 rfl kc_RX12_577 kh_X12_qBracket (by decide) (Nat.le_of_ble_eq_true rfl) m10 (ci := 12) (by exact ⟨rfl, by decide⟩) (k243 g1 (by decide) n6) ?_
      refine x_bipush (q := 22) (v := (20 : Int32)) dX12_qGoesOn_20 rfl (by decide) ?_
      replace H := kite H; rcases H with ⟨g11, H⟩ | ⟨g11, H⟩
      · refine x_icmp_eq_t dX12_qGoesOn_22 (q := 43) (by decide) g11 ?_
        refine x_sub (ls2 := [(0, .ref v0)]) [0] rfl ?_
        exact s_X12_qGoesOn_b43 r3.2 v0 n6 H
      · refine x_icmp_eq_f (q := 25) dX12_qGoesOn_22 (t := 43) (by decide) rfl g11 ?_
        refine x_aload_n (q := 26) dX12_qGoesOn_25 rfl rfl ?_
        replace H := kbe H; obtain ⟨r12, c13, H⟩ := H
        have m14 := s_X12_qBracket (Z := Z) r3.2 v0 n6 c13
        refine x_callV (q := 29) (as := []) (rest := []) dX12_qGoesOn_26 rfl kc_RX12_577 kh_X12_qBracket (by decide) (Nat.le_of_ble_eq_true rfl) m14 (ci := 12) (by exact ⟨rfl, by decide⟩) (k243 g1 (by decide) n6) ?_
        refine x_bipush (q := 31) (v := (23 : Int32)) dX12_qGoesOn_29 rfl (by decide) ?_
        replace H := kite H; rcases H with ⟨g15, H⟩ | ⟨g15, H⟩
        · refine x_icmp_eq_t dX12_qGoesOn_31 (q := 43) (by decide) g15 ?_
          refine x_sub (ls2 := [(0, .ref v0)]) [0] rfl ?_
          exact s_X12_qGoesOn_b43 r3.2 v0 n6 H
        · refine x_icmp_eq_f (q := 34) dX12_qGoesOn_31 (t := 43) (by decide) rfl g15 ?_
          refine x_aload_n (q := 35) dX12_qGoesOn_34 rfl rfl ?_
          replace H := kbe H; obtain ⟨r16, c17, H⟩ := H
          have m18 := s_X12_qBracket (Z := Z) r3.2 v0 n6 c17
          refine x_callV (q := 38) (as := []) (rest := []) dX12_qGoesOn_35 rfl kc_RX12_577 kh_X12_qBracket (by decide) (Nat.le_of_ble_eq_true rfl) m18 (ci := 12) (by exact ⟨rfl, by decide⟩) (k243 g1 (by decide) n6) ?_
          refine x_bipush (q := 40) (v := (24 : Int32)) dX12_qGoesOn_38 rfl (by decide) ?_
          replace H := kite H; rcases H with ⟨g19, H⟩ | ⟨g19, H⟩
          · refine x_icmp_ne_f (q := 43) dX12_qGoesOn_40 (t := 122) (by decide) rfl g19 ?_
            refine x_sub (ls2 := [(0, .ref v0)]) [0] rfl ?_
            exact s_X12_qGoesOn_b43 r3.2 v0 n6 H
          · refine x_icmp_ne_t dX12_qGoesOn_40 (q := 122) (by decide) g19 ?_
            cases H
            refine x_sub (ls2 := [(0, .ref v0)]) [0] rfl ?_
            exact x_end (x_cfg rfl)
    · refine x_icmp_ne_t dX12_qGoesOn_13 (q := 122) (by decide) g7 ?_
      cases H
      refine x_sub (ls2 := [(0, .ref v0)]) [0] rfl ?_
      exact x_end (x_cfg rfl)
  · refine x_if_ne_t dX12_qGoesOn_4 (q := 122) (by decide) g2 ?_
    cases H
    refine x_sub (ls2 := [(0, .ref v0)]) [0] rfl ?_
    exact x_end (x_cfg rfl)
theorem sl_X12_qGoesOn_l0 {Z : Nat → (Nat → Nat) → State → Prop} (v0 : Nat) (n : Nat) (s : KH) (r : KH) (hn : (s).1 = 243) (H : kloop (f_X12_qGoesOn_l0 v0) n s = some r) : KX Z RX12 cX12_qGoesOn 2 false 4 (E_X12_qGoesOn_l0 v0 r) 0 [(0, .ref v0)] [] s :=
  k_loop (ls := (fun (s : KH) => ([(0, .ref v0)] : List (Nat × Value)))) (hp := (fun (s : KH) => (s : KH))) (G := E_X12_qGoesOn_l0 v0) (fun s t hn H => s_X12_qGoesOn_l0 v0 s t hn H) n s r hn H
def E_X12_qGoesOn_l162 (v0 : Nat) (v1 : Int32) : KH → Nat → List (Nat × Value) → List Value → KH → Prop := fun (e : KH) pc ls st hh => pc = 185 ∧ ls = [(0, .ref v0), (1, .int v1)] ∧ st = [] ∧ e = hh
def B_X12_qGoesOn_l162 (v0 : Nat) (v1 : Int32) : ((KH) ⊕ (KH)) → Nat → List (Nat × Value) → List Value → KH → Prop := Sum.elim (fun (s : KH) pc ls st hh => pc = 162 ∧ ls = [(0, .ref v0), (1, .int v1)] ∧ st = [] ∧ hh = s) (E_X12_qGoesOn_l162 v0 v1)
def f_X12_qGoesOn_b178 (h : KH) (v0 : Nat) (v1 : Int32) : Option ((KH) ⊕ (KH)) :=
  if kkind v0 = 12 then kb (f_X12_qDrops h v0) fun r2 =>
  some (.inl r2) else none
set_option maxHeartbeats 4000000 in
set_option maxRecDepth 100000 in
theorem s_X12_qGoesOn_b178 {Z : Nat → (Nat → Nat) → State → Prop} (h : KH) (v0 : Nat) (v1 : Int32) {t : (KH) ⊕ (KH)} (hn : h.1 = 243) (H : f_X12_qGoesOn_b178 h v0 v1 = some t) : KX Z RX12 cX12_qGoesOn 2 false 4 (B_X12_qGoesOn_l162 v0 v1 t) 178 [(0, .ref v0), (1, .int v1)] [] h := by
  unfold f_X12_qGoesOn_b178 at H
  refine x_aload_n (q := 179) dX12_qGoesOn_178 rfl rfl ?_
  replace H := kif H; obtain ⟨g1, H⟩ := H
  replace H := kbe H; obtain ⟨r2, c3, H⟩ := H
  have m4 := s_X12_qDrops (Z := Z) h v0 hn c3
  refine x_callV (q := 182) (as := []) (rest := []) dX12_qGoesOn_179 rfl kc_RX12_556 kh_X12_qDrops (by decide) (Nat.le_of_ble_eq_true rfl) m4 (ci := 12) (by exact ⟨rfl, by decide⟩) (k243 g1 (by decide) hn) ?_
  have n5 : (r2).1 = 243 := m4.1.full hn
  refine x_goto dX12_qGoesOn_182 (q := 162) (by decide) ?_
  cases H
  refine x_sub (ls2 := [(0, .ref v0), (1, .int v1)]) [0, 1] rfl ?_
  exact x_end (x_cfg rfl)
def f_X12_qGoesOn_l162 (v0 : Nat) (v1 : Int32) (s : KH) : Option ((KH) ⊕ (KH)) :=
  if kkind v0 = 12 then kb (f_X12_qIsOn s v0 (3 : Int32)) fun r2 =>
  if r2 = 0 then
  kb (f_X12_qIsOn s v0 (4 : Int32)) fun r6 =>
  if r6 = 0 then
  some (.inr s)
  else
  f_X12_qGoesOn_b178 s v0 v1
  else
  f_X12_qGoesOn_b178 s v0 v1 else none
set_option maxHeartbeats 4000000 in
set_option maxRecDepth 100000 in
theorem s_X12_qGoesOn_l162 {Z : Nat → (Nat → Nat) → State → Prop} (v0 : Nat) (v1 : Int32) (s : KH) (t : (KH) ⊕ (KH)) (hn : (s).1 = 243) (H : f_X12_qGoesOn_l162 v0 v1 s = some t) : KX Z RX12 cX12_qGoesOn 2 false 4 (B_X12_qGoesOn_l162 v0 v1 t) 162 [(0, .ref v0), (1, .int v1)] [] s := by
  unfold f_X12_qGoesOn_l162 at H
  refine x_aload_n (q := 163) dX12_qGoesOn_162 rfl rfl ?_
  refine x_iconst (q := 164) (v := (3 : Int32)) dX12_qGoesOn_163 rfl (by decide) ?_
  replace H := kif H; obtain ⟨g1, H⟩ := H
  replace H := kbe H; obtain ⟨r2, c3, H⟩ := H
  have m4 := s_X12_qIsOn (Z := Z) s v0 (3 : Int32) hn c3
  refine x_callV (q := 167) (as := [.int (3 : Int32)]) (rest := []) dX12_qGoesOn_164 rfl kc_RX12_583 kh_X12_qIsOn (by decide) (Nat.le_of_ble_eq_true rfl) m4 (ci := 12) (by exact ⟨rfl, by decide⟩) (k243 g1 (by decide) hn) ?_
  replace H := kite H; rcases H with ⟨g5, H⟩ | ⟨g5, H⟩
  · refine x_if_ne_f (q := 170) dX12_qGoesOn_167 (t := 178) (by decide) rfl g5 ?_
    refine x_aload_n (q := 171) dX12_qGoesOn_170 rfl rfl ?_
    refine x_iconst (q := 172) (v := (4 : Int32)) dX12_qGoesOn_171 rfl (by decide) ?_
    replace H := kbe H; obtain ⟨r6, c7, H⟩ := H
    have m8 := s_X12_qIsOn (Z := Z) s v0 (4 : Int32) hn c7
    refine x_callV (q := 175) (as := [.int (4 : Int32)]) (rest := []) dX12_qGoesOn_172 rfl kc_RX12_583 kh_X12_qIsOn (by decide) (Nat.le_of_ble_eq_true rfl) m8 (ci := 12) (by exact ⟨rfl, by decide⟩) (k243 g1 (by decide) hn) ?_
    replace H := kite H; rcases H with ⟨g9, H⟩ | ⟨g9, H⟩
    · refine x_if_eq_t dX12_qGoesOn_175 (q := 185) (by decide) g9 ?_
      cases H
      refine x_sub (ls2 := [(0, .ref v0), (1, .int v1)]) [0, 1] rfl ?_
      exact x_end (x_cfg rfl)
    · refine x_if_eq_f (q := 178) dX12_qGoesOn_175 (t := 185) (by decide) rfl g9 ?_
      refine x_sub (ls2 := [(0, .ref v0), (1, .int v1)]) [0, 1] rfl ?_
      exact s_X12_qGoesOn_b178 s v0 v1 hn H
  · refine x_if_ne_t dX12_qGoesOn_167 (q := 178) (by decide) g5 ?_
    refine x_sub (ls2 := [(0, .ref v0), (1, .int v1)]) [0, 1] rfl ?_
    exact s_X12_qGoesOn_b178 s v0 v1 hn H
theorem sl_X12_qGoesOn_l162 {Z : Nat → (Nat → Nat) → State → Prop} (v0 : Nat) (v1 : Int32) (n : Nat) (s : KH) (r : KH) (hn : (s).1 = 243) (H : kloop (f_X12_qGoesOn_l162 v0 v1) n s = some r) : KX Z RX12 cX12_qGoesOn 2 false 4 (E_X12_qGoesOn_l162 v0 v1 r) 162 [(0, .ref v0), (1, .int v1)] [] s :=
  k_loop (ls := (fun (s : KH) => ([(0, .ref v0), (1, .int v1)] : List (Nat × Value)))) (hp := (fun (s : KH) => (s : KH))) (G := E_X12_qGoesOn_l162 v0 v1) (fun s t hn H => s_X12_qGoesOn_l162 v0 v1 s t hn H) n s r hn H
def f_X12_qGoesOn_b161 (h : KH) (v0 : Nat) (w0 : Int32) : Option (Int32 × KH) :=
  kb (kloop (f_X12_qGoesOn_l162 v0 w0) KF h) fun e1 =>
  if kkind v0 = 12 then if (kR e1 v0 87) < 999999 then if kkind (kR e1 v0 87) = 20 then if ((kI e1 v0 88) < 0 ∨ klen (kR e1 v0 87) ≤ ((kI e1 v0 88)).toNatClampNeg) then none else kl (ksI e1 (kR e1 v0 87) (((kI e1 v0 88)).toNatClampNeg) w0) fun h8 =>
  kl (ksI h8 v0 88 ((kI h8 v0 88) + (1 : Int32))) fun h11 =>
  some ((1 : Int32), h11) else none else none else none
set_option maxHeartbeats 4000000 in
set_option maxRecDepth 100000 in
theorem s_X12_qGoesOn_b161 {Z : Nat → (Nat → Nat) → State → Prop} (h : KH) (v0 : Nat) (w0 : Int32) {t : Int32 × KH} (hn : h.1 = 243) (H : f_X12_qGoesOn_b161 h v0 w0 = some t) : KX Z RX12 cX12_qGoesOn 2 false 4 (KRz cX12_qGoesOn t.1 t.2) 161 [(0, .ref v0)] [.int w0] h := by
  unfold f_X12_qGoesOn_b161 at H
  refine x_istore_n (q := 162) (i := 1) (ls2 := [(1, .int w0), (0, .ref v0)]) dX12_qGoesOn_161 rfl rfl (by decide) rfl ?_
  refine x_sub (ls2 := [(0, .ref v0), (1, .int w0)]) [1, 0] rfl ?_
  replace H := kbe H; obtain ⟨e1, c2, H⟩ := H
  refine x_app (sl_X12_qGoesOn_l162 v0 w0 KF h e1 hn c2) fun pc2 ls2 st2 h2 hg m3 => ?_
  obtain ⟨rfl, rfl, rfl, rfl⟩ := hg
  refine x_aload_n (q := 186) dX12_qGoesOn_185 rfl rfl ?_
  replace H := kif H; obtain ⟨g4, H⟩ := H
  replace H := kif H; obtain ⟨g5, H⟩ := H
  refine x_getR (q := 189) dX12_qGoesOn_186 rfl kl_RX12_218 rfl (k243 g4 (by decide) (m3.full hn)) g5 ?_
  refine x_aload_n (q := 190) dX12_qGoesOn_189 rfl rfl ?_
  refine x_getI (q := 193) dX12_qGoesOn_190 rfl kl_RX12_315 (Or.inl rfl) (k243 g4 (by decide) (m3.full hn)) ?_
  refine x_iload_n (q := 194) dX12_qGoesOn_193 rfl rfl ?_
  replace H := kif H; obtain ⟨g6, H⟩ := H
  replace H := kifn H; obtain ⟨g7, H⟩ := H
  replace H := kle H; obtain ⟨h8, q9, H⟩ := H
  refine x_iast (q := 195) dX12_qGoesOn_194 rfl (k243 g6 (by decide) (m3.full hn)) g7 ?_
  refine x_nmH q9 ?_
  have n10 : h8.1 = 243 := by rw [q9]; exact (m3.full hn)
  refine x_aload_n (q := 196) dX12_qGoesOn_195 rfl rfl ?_
  refine x_dup (q := 197) dX12_qGoesOn_196 rfl rfl ?_
  refine x_getI (q := 200) dX12_qGoesOn_197 rfl kl_RX12_315 (Or.inl rfl) (k243 g4 (by decide) n10) ?_
  refine x_iconst (q := 201) (v := (1 : Int32)) dX12_qGoesOn_200 rfl (by decide) ?_
  refine x_iadd (q := 202) dX12_qGoesOn_201 rfl ?_
  replace H := kle H; obtain ⟨h11, q12, H⟩ := H
  refine x_putI (q := 205) dX12_qGoesOn_202 rfl kl_RX12_315 (Or.inl rfl) rfl (k243 g4 (by decide) n10) ?_
  refine x_nmH q12 ?_
  have n13 : h11.1 = 243 := by rw [q12]; exact n10
  refine x_iconst (q := 206) (v := (1 : Int32)) dX12_qGoesOn_205 rfl (by decide) ?_
  cases H
  exact x_end ⟨(Or.inr rfl), dX12_qGoesOn_206, rfl, rfl⟩
def f_X12_qGoesOn_b140 (h : KH) (v0 : Nat) : Option (Int32 × KH) :=
  if kkind v0 = 12 then if (kR h v0 0) < 999999 then if kkind (kR h v0 0) = 20 then if (((kI h v0 2) - (1 : Int32)) < 0 ∨ klen (kR h v0 0) ≤ (((kI h v0 2) - (1 : Int32))).toNatClampNeg) then none else if (kI h (kR h v0 0) ((((kI h v0 2) - (1 : Int32))).toNatClampNeg)) = (42 : Int32) then
  f_X12_qGoesOn_b161 h v0 (3 : Int32)
  else
  f_X12_qGoesOn_b161 h v0 (4 : Int32) else none else none else none
set_option maxHeartbeats 4000000 in
set_option maxRecDepth 100000 in
theorem s_X12_qGoesOn_b140 {Z : Nat → (Nat → Nat) → State → Prop} (h : KH) (v0 : Nat) {t : Int32 × KH} (hn : h.1 = 243) (H : f_X12_qGoesOn_b140 h v0 = some t) : KX Z RX12 cX12_qGoesOn 2 false 4 (KRz cX12_qGoesOn t.1 t.2) 140 [(0, .ref v0)] [] h := by
  unfold f_X12_qGoesOn_b140 at H
  refine x_aload_n (q := 141) dX12_qGoesOn_140 rfl rfl ?_
  replace H := kif H; obtain ⟨g1, H⟩ := H
  replace H := kif H; obtain ⟨g2, H⟩ := H
  refine x_getR (q := 144) dX12_qGoesOn_141 rfl kl_RX12_7 rfl (k243 g1 (by decide) hn) g2 ?_
  refine x_aload_n (q := 145) dX12_qGoesOn_144 rfl rfl ?_
  refine x_getI (q := 148) dX12_qGoesOn_145 rfl kl_RX12_236 (Or.inl rfl) (k243 g1 (by decide) hn) ?_
  refine x_iconst (q := 149) (v := (1 : Int32)) dX12_qGoesOn_148 rfl (by decide) ?_
  refine x_isub (q := 150) dX12_qGoesOn_149 rfl ?_
  replace H := kif H; obtain ⟨g3, H⟩ := H
  replace H := kifn H; obtain ⟨g4, H⟩ := H
  refine x_iald (q := 151) dX12_qGoesOn_150 rfl (k243 g3 (by decide) hn) g4 ?_
  refine x_bipush (q := 153) (v := (42 : Int32)) dX12_qGoesOn_151 rfl (by decide) ?_
  replace H := kite H; rcases H with ⟨g5, H⟩ | ⟨g5, H⟩
  · refine x_icmp_ne_f (q := 156) dX12_qGoesOn_153 (t := 160) (by decide) rfl g5 ?_
    refine x_iconst (q := 157) (v := (3 : Int32)) dX12_qGoesOn_156 rfl (by decide) ?_
    refine x_goto dX12_qGoesOn_157 (q := 161) (by decide) ?_
    refine x_sub (ls2 := [(0, .ref v0)]) [0] rfl ?_
    exact s_X12_qGoesOn_b161 h v0 (3 : Int32) hn H
  · refine x_icmp_ne_t dX12_qGoesOn_153 (q := 160) (by decide) g5 ?_
    refine x_iconst (q := 161) (v := (4 : Int32)) dX12_qGoesOn_160 rfl (by decide) ?_
    refine x_sub (ls2 := [(0, .ref v0)]) [0] rfl ?_
    exact s_X12_qGoesOn_b161 h v0 (4 : Int32) hn H
def E_X12_qGoesOn_l247 (v0 : Nat) (v1 : Int32) : KH → Nat → List (Nat × Value) → List Value → KH → Prop := fun (e : KH) pc ls st hh => pc = 286 ∧ ls = [(0, .ref v0), (1, .int v1)] ∧ st = [] ∧ e = hh
def B_X12_qGoesOn_l247 (v0 : Nat) (v1 : Int32) : ((KH) ⊕ (KH)) → Nat → List (Nat × Value) → List Value → KH → Prop := Sum.elim (fun (s : KH) pc ls st hh => pc = 247 ∧ ls = [(0, .ref v0), (1, .int v1)] ∧ st = [] ∧ hh = s) (E_X12_qGoesOn_l247 v0 v1)
def f_X12_qGoesOn_b279 (h : KH) (v0 : Nat) (v1 : Int32) : Option ((KH) ⊕ (KH)) :=
  if kkind v0 = 12 then kb (f_X12_qDrops h v0) fun r2 =>
  some (.inl r2) else none
set_option maxHeartbeats 4000000 in
set_option maxRecDepth 100000 in
theorem s_X12_qGoesOn_b279 {Z : Nat → (Nat → Nat) → State → Prop} (h : KH) (v0 : Nat) (v1 : Int32) {t : (KH) ⊕ (KH)} (hn : h.1 = 243) (H : f_X12_qGoesOn_b279 h v0 v1 = some t) : KX Z RX12 cX12_qGoesOn 2 false 4 (B_X12_qGoesOn_l247 v0 v1 t) 279 [(0, .ref v0), (1, .int v1)] [] h := by
  unfold f_X12_qGoesOn_b279 at H
  refine x_aload_n (q := 280) dX12_qGoesOn_279 rfl rfl ?_
  replace H := kif H; obtain ⟨g1, H⟩ := H
  replace H := kbe H; obtain ⟨r2, c3, H⟩ := H
  have m4 := s_X12_qDrops (Z := Z) h v0 hn c3
  refine x_callV (q := 283) (as := []) (rest := []) dX12_qGoesOn_280 rfl kc_RX12_556 kh_X12_qDrops (by decide) (Nat.le_of_ble_eq_true rfl) m4 (ci := 12) (by exact ⟨rfl, by decide⟩) (k243 g1 (by decide) hn) ?_
  have n5 : (r2).1 = 243 := m4.1.full hn
  refine x_goto dX12_qGoesOn_283 (q := 247) (by decide) ?_
  cases H
  refine x_sub (ls2 := [(0, .ref v0), (1, .int v1)]) [0, 1] rfl ?_
  exact x_end (x_cfg rfl)
def f_X12_qGoesOn_l247 (v0 : Nat) (v1 : Int32) (s : KH) : Option ((KH) ⊕ (KH)) :=
  if kkind v0 = 12 then kb (f_X12_qIsOn s v0 (3 : Int32)) fun r2 =>
  if r2 = 0 then
  kb (f_X12_qIsOn s v0 (4 : Int32)) fun r6 =>
  if r6 = 0 then
  kb (f_X12_qIsOn s v0 (1 : Int32)) fun r10 =>
  if r10 = 0 then
  kb (f_X12_qIsOn s v0 (2 : Int32)) fun r14 =>
  if r14 = 0 then
  some (.inr s)
  else
  f_X12_qGoesOn_b279 s v0 v1
  else
  f_X12_qGoesOn_b279 s v0 v1
  else
  f_X12_qGoesOn_b279 s v0 v1
  else
  f_X12_qGoesOn_b279 s v0 v1 else none
set_option maxHeartbeats 4000000 in
set_option maxRecDepth 100000 in
theorem s_X12_qGoesOn_l247 {Z : Nat → (Nat → Nat) → State → Prop} (v0 : Nat) (v1 : Int32) (s : KH) (t : (KH) ⊕ (KH)) (hn : (s).1 = 243) (H : f_X12_qGoesOn_l247 v0 v1 s = some t) : KX Z RX12 cX12_qGoesOn 2 false 4 (B_X12_qGoesOn_l247 v0 v1 t) 247 [(0, .ref v0), (1, .int v1)] [] s := by
  unfold f_X12_qGoesOn_l247 at H
  refine x_aload_n (q := 248) dX12_qGoesOn_247 rfl rfl ?_
  refine x_iconst (q := 249) (v := (3 : Int32)) dX12_qGoesOn_248 rfl (by decide) ?_
  replace H := kif H; obtain ⟨g1, H⟩ := H
  replace H := kbe H; obtain ⟨r2, c3, H⟩ := H
  have m4 := s_X12_qIsOn (Z := Z) s v0 (3 : Int32) hn c3
  refine x_callV (q := 252) (as := [.int (3 : Int32)]) (rest := []) dX12_qGoesOn_249 rfl kc_RX12_583 kh_X12_qIsOn (by decide) (Nat.le_of_ble_eq_true rfl) m4 (ci := 12) (by exact ⟨rfl, by decide⟩) (k243 g1 (by decide) hn) ?_
  replace H := kite H; rcases H with ⟨g5, H⟩ | ⟨g5, H⟩
  · refine x_if_ne_f (q := 255) dX12_qGoesOn_252 (t := 279) (by decide) rfl g5 ?_
    refine x_aload_n (q := 256) dX12_qGoesOn_255 rfl rfl ?_
    refine x_iconst (q := 257) (v := (4 : Int32)) dX12_qGoesOn_256 rfl (by decide) ?_
    replace H := kbe H; obtain ⟨r6, c7, H⟩ := H
    have m8 := s_X12_qIsOn (Z := Z) s v0 (4 : Int32) hn c7
    refine x_callV (q := 260) (as := [.int (4 : Int32)]) (rest := []) dX12_qGoesOn_257 rfl kc_RX12_583 kh_X12_qIsOn (by decide) (Nat.le_of_ble_eq_true rfl) m8 (ci := 12) (by exact ⟨rfl, by decide⟩) (k243 g1 (by decide) hn) ?_
    replace H := kite H; rcases H with ⟨g9, H⟩ | ⟨g9, H⟩
    · refine x_if_ne_f (q := 263) dX12_qGoesOn_260 (t := 279) (by decide) rfl g9 ?_
      refine x_aload_n (q := 264) dX12_qGoesOn_263 rfl rfl ?_
      refine x_iconst (q := 265) (v := (1 : Int32)) dX12_qGoesOn_264 rfl (by decide) ?_
      replace H := kbe H; obtain ⟨r10, c11, H⟩ := H
      have m12 := s_X12_qIsOn (Z := Z) s v0 (1 : Int32) hn c11
      refine x_callV (q := 268) (as := [.int (1 : Int32)]) (rest := []) dX12_qGoesOn_265 rfl kc_RX12_583 kh_X12_qIsOn (by decide) (Nat.le_of_ble_eq_true rfl) m12 (ci := 12) (by exact ⟨rfl, by decide⟩) (k243 g1 (by decide) hn) ?_
      replace H := kite H; rcases H with ⟨g13, H⟩ | ⟨g13, H⟩
      · refine x_if_ne_f (q := 271) dX12_qGoesOn_268 (t := 279) (by decide) rfl g13 ?_
        refine x_aload_n (q := 272) dX12_qGoesOn_271 rfl rfl ?_
        refine x_iconst (q := 273) (v := (2 : Int32)) dX12_qGoesOn_272 rfl (by decide) ?_
        replace H := kbe H; obtain ⟨r14, c15, H⟩ := H
        have m16 := s_X12_qIsOn (Z := Z) s v0 (2 : Int32) hn c15
        refine x_callV (q := 276) (as := [.int (2 : Int32)]) (rest := []) dX12_qGoesOn_273 rfl kc_RX12_583 kh_X12_qIsOn (by decide) (Nat.le_of_ble_eq_true rfl) m16 (ci := 12) (by exact ⟨rfl, by decide⟩) (k243 g1 (by decide) hn) ?_
        replace H := kite H; rcases H with ⟨g17, H⟩ | ⟨g17, H⟩
        · refine x_if_eq_t dX12_qGoesOn_276 (q := 286) (by decide) g17 ?_
          cases H
          refine x_sub (ls2 := [(0, .ref v0), (1, .int v1)]) [0, 1] rfl ?_
          exact x_end (x_cfg rfl)
        · refine x_if_eq_f (q := 279) dX12_qGoesOn_276 (t := 286) (by decide) rfl g17 ?_
          refine x_sub (ls2 := [(0, .ref v0), (1, .int v1)]) [0, 1] rfl ?_
          exact s_X12_qGoesOn_b279 s v0 v1 hn H
      · refine x_if_ne_t dX12_qGoesOn_268 (q := 279) (by decide) g13 ?_
        refine x_sub (ls2 := [(0, .ref v0), (1, .int v1)]) [0, 1] rfl ?_
        exact s_X12_qGoesOn_b279 s v0 v1 hn H
    · refine x_if_ne_t dX12_qGoesOn_260 (q := 279) (by decide) g9 ?_
      refine x_sub (ls2 := [(0, .ref v0), (1, .int v1)]) [0, 1] rfl ?_
      exact s_X12_qGoesOn_b279 s v0 v1 hn H
  · refine x_if_ne_t dX12_qGoesOn_252 (q := 279) (by decide) g5 ?_
    refine x_sub (ls2 := [(0, .ref v0), (1, .int v1)]) [0, 1] rfl ?_
    exact s_X12_qGoesOn_b279 s v0 v1 hn H
theorem sl_X12_qGoesOn_l247 {Z : Nat → (Nat → Nat) → State → Prop} (v0 : Nat) (v1 : Int32) (n : Nat) (s : KH) (r : KH) (hn : (s).1 = 243) (H : kloop (f_X12_qGoesOn_l247 v0 v1) n s = some r) : KX Z RX12 cX12_qGoesOn 2 false 4 (E_X12_qGoesOn_l247 v0 v1 r) 247 [(0, .ref v0), (1, .int v1)] [] s :=
  k_loop (ls := (fun (s : KH) => ([(0, .ref v0), (1, .int v1)] : List (Nat × Value)))) (hp := (fun (s : KH) => (s : KH))) (G := E_X12_qGoesOn_l247 v0 v1) (fun s t hn H => s_X12_qGoesOn_l247 v0 v1 s t hn H) n s r hn H
def f_X12_qGoesOn_b246 (h : KH) (v0 : Nat) (w0 : Int32) : Option (Int32 × KH) :=
  kb (kloop (f_X12_qGoesOn_l247 v0 w0) KF h) fun e1 =>
  if kkind v0 = 12 then if (kR e1 v0 87) < 999999 then if kkind (kR e1 v0 87) = 20 then if ((kI e1 v0 88) < 0 ∨ klen (kR e1 v0 87) ≤ ((kI e1 v0 88)).toNatClampNeg) then none else kl (ksI e1 (kR e1 v0 87) (((kI e1 v0 88)).toNatClampNeg) w0) fun h8 =>
  kl (ksI h8 v0 88 ((kI h8 v0 88) + (1 : Int32))) fun h11 =>
  some ((1 : Int32), h11) else none else none else none
set_option maxHeartbeats 4000000 in
set_option maxRecDepth 100000 in
theorem s_X12_qGoesOn_b246 {Z : Nat → (Nat → Nat) → State → Prop} (h : KH) (v0 : Nat) (w0 : Int32) {t : Int32 × KH} (hn : h.1 = 243) (H : f_X12_qGoesOn_b246 h v0 w0 = some t) : KX Z RX12 cX12_qGoesOn 2 false 4 (KRz cX12_qGoesOn t.1 t.2) 246 [(0, .ref v0)] [.int w0] h := by
  unfold f_X12_qGoesOn_b246 at H
  refine x_istore_n (q := 247) (i := 1) (ls2 := [(1, .int w0), (0, .ref v0)]) dX12_qGoesOn_246 rfl rfl (by decide) rfl ?_
  refine x_sub (ls2 := [(0, .ref v0), (1, .int w0)]) [1, 0] rfl ?_
  replace H := kbe H; obtain ⟨e1, c2, H⟩ := H
  refine x_app (sl_X12_qGoesOn_l247 v0 w0 KF h e1 hn c2) fun pc2 ls2 st2 h2 hg m3 => ?_
  obtain ⟨rfl, rfl, rfl, rfl⟩ := hg
  refine x_aload_n (q := 287) dX12_qGoesOn_286 rfl rfl ?_
  replace H := kif H; obtain ⟨g4, H⟩ := H
  replace H := kif H; obtain ⟨g5, H⟩ := H
  refine x_getR (q := 290) dX12_qGoesOn_287 rfl kl_RX12_218 rfl (k243 g4 (by decide) (m3.full hn)) g5 ?_
  refine x_aload_n (q := 291) dX12_qGoesOn_290 rfl rfl ?_
  refine x_getI (q := 294) dX12_qGoesOn_291 rfl kl_RX12_315 (Or.inl rfl) (k243 g4 (by decide) (m3.full hn)) ?_
  refine x_iload_n (q := 295) dX12_qGoesOn_294 rfl rfl ?_
  replace H := kif H; obtain ⟨g6, H⟩ := H
  replace H := kifn H; obtain ⟨g7, H⟩ := H
  replace H := kle H; obtain ⟨h8, q9, H⟩ := H
  refine x_iast (q := 296) dX12_qGoesOn_295 rfl (k243 g6 (by decide) (m3.full hn)) g7 ?_
  refine x_nmH q9 ?_
  have n10 : h8.1 = 243 := by rw [q9]; exact (m3.full hn)
  refine x_aload_n (q := 297) dX12_qGoesOn_296 rfl rfl ?_
  refine x_dup (q := 298) dX12_qGoesOn_297 rfl rfl ?_
  refine x_getI (q := 301) dX12_qGoesOn_298 rfl kl_RX12_315 (Or.inl rfl) (k243 g4 (by decide) n10) ?_
  refine x_iconst (q := 302) (v := (1 : Int32)) dX12_qGoesOn_301 rfl (by decide) ?_
  refine x_iadd (q := 303) dX12_qGoesOn_302 rfl ?_
  replace H := kle H; obtain ⟨h11, q12, H⟩ := H
  refine x_putI (q := 306) dX12_qGoesOn_303 rfl kl_RX12_315 (Or.inl rfl) rfl (k243 g4 (by decide) n10) ?_
  refine x_nmH q12 ?_
  have n13 : h11.1 = 243 := by rw [q12]; exact n10
  refine x_iconst (q := 307) (v := (1 : Int32)) dX12_qGoesOn_306 rfl (by decide) ?_
  cases H
  exact x_end ⟨(Or.inr rfl), dX12_qGoesOn_307, rfl, rfl⟩
def f_X12_qGoesOn_b225 (h : KH) (v0 : Nat) : Option (Int32 × KH) :=
  if kkind v0 = 12 then if (kR h v0 0) < 999999 then if kkind (kR h v0 0) = 20 then if (((kI h v0 2) - (1 : Int32)) < 0 ∨ klen (kR h v0 0) ≤ (((kI h v0 2) - (1 : Int32))).toNatClampNeg) then none else if (kI h (kR h v0 0) ((((kI h v0 2) - (1 : Int32))).toNatClampNeg)) = (43 : Int32) then
  f_X12_qGoesOn_b246 h v0 (1 : Int32)
  else
  f_X12_qGoesOn_b246 h v0 (2 : Int32) else none else none else none
set_option maxHeartbeats 4000000 in
set_option maxRecDepth 100000 in
theorem s_X12_qGoesOn_b225 {Z : Nat → (Nat → Nat) → State → Prop} (h : KH) (v0 : Nat) {t : Int32 × KH} (hn : h.1 = 243) (H : f_X12_qGoesOn_b225 h v0 = some t) : KX Z RX12 cX12_qGoesOn 2 false 4 (KRz cX12_qGoesOn t.1 t.2) 225 [(0, .ref v0)] [] h := by
  unfold f_X12_qGoesOn_b225 at H
  refine x_aload_n (q := 226) dX12_qGoesOn_225 rfl rfl ?_
  replace H := kif H; obtain ⟨g1, H⟩ := H
  replace H := kif H; obtain ⟨g2, H⟩ := H
  refine x_getR (q := 229) dX12_qGoesOn_226 rfl kl_RX12_7 rfl (k243 g1 (by decide) hn) g2 ?_
  refine x_aload_n (q := 230) dX12_qGoesOn_229 rfl rfl ?_
  refine x_getI (q := 233) dX12_qGoesOn_230 rfl kl_RX12_236 (Or.inl rfl) (k243 g1 (by decide) hn) ?_
  refine x_iconst (q := 234) (v := (1 : Int32)) dX12_qGoesOn_233 rfl (by decide) ?_
  refine x_isub (q := 235) dX12_qGoesOn_234 rfl ?_
  replace H := kif H; obtain ⟨g3, H⟩ := H
  replace H := kifn H; obtain ⟨g4, H⟩ := H
  refine x_iald (q := 236) dX12_qGoesOn_235 rfl (k243 g3 (by decide) hn) g4 ?_
  refine x_bipush (q := 238) (v := (43 : Int32)) dX12_qGoesOn_236 rfl (by decide) ?_
  replace H := kite H; rcases H with ⟨g5, H⟩ | ⟨g5, H⟩
  · refine x_icmp_ne_f (q := 241) dX12_qGoesOn_238 (t := 245) (by decide) rfl g5 ?_
    refine x_iconst (q := 242) (v := (1 : Int32)) dX12_qGoesOn_241 rfl (by decide) ?_
    refine x_goto dX12_qGoesOn_242 (q := 246) (by decide) ?_
    refine x_sub (ls2 := [(0, .ref v0)]) [0] rfl ?_
    exact s_X12_qGoesOn_b246 h v0 (1 : Int32) hn H
  · refine x_icmp_ne_t dX12_qGoesOn_238 (q := 245) (by decide) g5 ?_
    refine x_iconst (q := 246) (v := (2 : Int32)) dX12_qGoesOn_245 rfl (by decide) ?_
    refine x_sub (ls2 := [(0, .ref v0)]) [0] rfl ?_
    exact s_X12_qGoesOn_b246 h v0 (2 : Int32) hn H
def f_X12_qGoesOn_b326 (h : KH) (v0 : Nat) : Option (Int32 × KH) :=
  if kkind v0 = 12 then kb (f_X12_asksSign h v0 (44 : Int32)) fun r2 =>
  if (kI r2 v0 5) = 0 then
  kb (f_X12_qDropsToBracket r2 v0) fun r7 =>
  if (kR r7 v0 87) < 999999 then if kkind (kR r7 v0 87) = 20 then if (((kI r7 v0 88) - (1 : Int32)) < 0 ∨ klen (kR r7 v0 87) ≤ (((kI r7 v0 88) - (1 : Int32))).toNatClampNeg) then none else kl (ksI r7 (kR r7 v0 87) ((((kI r7 v0 88) - (1 : Int32))).toNatClampNeg) ((kI r7 (kR r7 v0 87) ((((kI r7 v0 88) - (1 : Int32))).toNatClampNeg)) + (2 : Int32))) fun h14 =>
  some ((1 : Int32), h14) else none else none
  else
  some ((0 : Int32), r2) else none
set_option maxHeartbeats 4000000 in
set_option maxRecDepth 100000 in
theorem s_X12_qGoesOn_b326 {Z : Nat → (Nat → Nat) → State → Prop} (h : KH) (v0 : Nat) {t : Int32 × KH} (hn : h.1 = 243) (H : f_X12_qGoesOn_b326 h v0 = some t) : KX Z RX12 cX12_qGoesOn 2 false 4 (KRz cX12_qGoesOn t.1 t.2) 326 [(0, .ref v0)] [] h := by
  unfold f_X12_qGoesOn_b326 at H
  refine x_aload_n (q := 327) dX12_qGoesOn_326 rfl rfl ?_
  refine x_bipush (q := 329) (v := (44 : Int32)) dX12_qGoesOn_327 rfl (by decide) ?_
  replace H := kif H; obtain ⟨g1, H⟩ := H
  replace H := kbe H; obtain ⟨r2, c3, H⟩ := H
  have m4 := s_X12_asksSign (Z := Z) h v0 (44 : Int32) hn c3
  refine x_callV (q := 332) (as := [.int (44 : Int32)]) (rest := []) dX12_qGoesOn_329 rfl kc_RX12_346 kh_X12_asksSign (by decide) (Nat.le_of_ble_eq_true rfl) m4 (ci := 12) (by exact ⟨rfl, by decide⟩) (k243 g1 (by decide) hn) ?_
  have n5 : (r2).1 = 243 := m4.1.full hn
  refine x_aload_n (q := 333) dX12_qGoesOn_332 rfl rfl ?_
  refine x_getI (q := 336) dX12_qGoesOn_333 rfl kl_RX12_230 (Or.inl rfl) (k243 g1 (by decide) n5) ?_
  replace H := kite H; rcases H with ⟨g6, H⟩ | ⟨g6, H⟩
  · refine x_if_eq_t dX12_qGoesOn_336 (q := 341) (by decide) g6 ?_
    refine x_aload_n (q := 342) dX12_qGoesOn_341 rfl rfl ?_
    replace H := kbe H; obtain ⟨r7, c8, H⟩ := H
    have m9 := s_X12_qDropsToBracket (Z := Z) r2 v0 n5 c8
    refine x_callV (q := 345) (as := []) (rest := []) dX12_qGoesOn_342 rfl kc_RX12_580 kh_X12_qDropsToBracket (by decide) (Nat.le_of_ble_eq_true rfl) m9 (ci := 12) (by exact ⟨rfl, by decide⟩) (k243 g1 (by decide) n5) ?_
    have n10 : (r7).1 = 243 := m9.1.full n5
    refine x_aload_n (q := 346) dX12_qGoesOn_345 rfl rfl ?_
    replace H := kif H; obtain ⟨g11, H⟩ := H
    refine x_getR (q := 349) dX12_qGoesOn_346 rfl kl_RX12_218 rfl (k243 g1 (by decide) n10) g11 ?_
    refine x_aload_n (q := 350) dX12_qGoesOn_349 rfl rfl ?_
    refine x_getI (q := 353) dX12_qGoesOn_350 rfl kl_RX12_315 (Or.inl rfl) (k243 g1 (by decide) n10) ?_
    refine x_iconst (q := 354) (v := (1 : Int32)) dX12_qGoesOn_353 rfl (by decide) ?_
    refine x_isub (q := 355) dX12_qGoesOn_354 rfl ?_
    refine x_dup2 (q := 356) dX12_qGoesOn_355 rfl ⟨rfl, rfl⟩ ?_
    replace H := kif H; obtain ⟨g12, H⟩ := H
    replace H := kifn H; obtain ⟨g13, H⟩ := H
    refine x_iald (q := 357) dX12_qGoesOn_356 rfl (k243 g12 (by decide) n10) g13 ?_
    refine x_iconst (q := 358) (v := (2 : Int32)) dX12_qGoesOn_357 rfl (by decide) ?_
    refine x_iadd (q := 359) dX12_qGoesOn_358 rfl ?_
    replace H := kle H; obtain ⟨h14, q15, H⟩ := H
    refine x_iast (q := 360) dX12_qGoesOn_359 rfl (k243 g12 (by decide) n10) g13 ?_
    refine x_nmH q15 ?_
    have n16 : h14.1 = 243 := by rw [q15]; exact n10
    refine x_iconst (q := 361) (v := (1 : Int32)) dX12_qGoesOn_360 rfl (by decide) ?_
    cases H
    exact x_end ⟨(Or.inr rfl), dX12_qGoesOn_361, rfl, rfl⟩
  · refine x_if_eq_f (q := 339) dX12_qGoesOn_336 (t := 341) (by decide) rfl g6 ?_
    refine x_iconst (q := 340) (v := (0 : Int32)) dX12_qGoesOn_339 rfl (by decide) ?_
    cases H
    exact x_end ⟨(Or.inl rfl), dX12_qGoesOn_340, rfl, rfl⟩
def f_X12_qGoesOn_b122 (h : KH) (v0 : Nat) : Option (Int32 × KH) :=
  if kkind v0 = 12 then kb (f_X12_takesSign h v0 (42 : Int32)) fun r2 =>
  if r2.1 = 0 then
  kb (f_X12_takesSign r2.2 v0 (47 : Int32)) fun r7 =>
  if r7.1 = 0 then
  kb (f_X12_takesSign r7.2 v0 (43 : Int32)) fun r12 =>
  if r12.1 = 0 then
  kb (f_X12_takesSign r12.2 v0 (45 : Int32)) fun r17 =>
  if r17.1 = 0 then
  kb (f_X12_qBracket r17.2 v0) fun r22 =>
  if r22 = (21 : Int32) then
  f_X12_qGoesOn_b326 r17.2 v0
  else
  kb (f_X12_qBracket r17.2 v0) fun r26 =>
  if r26 = (22 : Int32) then
  f_X12_qGoesOn_b326 r17.2 v0
  else
  kb (f_X12_qBracket r17.2 v0) fun r30 =>
  if r30 = (-1 : Int32) then
  some ((0 : Int32), r17.2)
  else
  if (kI r17.2 v0 5) = 0 then
  kb (f_X12_fail r17.2 v0 (1 : Int32) (kI r17.2 v0 2)) fun r35 =>
  some ((0 : Int32), r35)
  else
  some ((0 : Int32), r17.2)
  else
  f_X12_qGoesOn_b225 r17.2 v0
  else
  f_X12_qGoesOn_b225 r12.2 v0
  else
  f_X12_qGoesOn_b140 r7.2 v0
  else
  f_X12_qGoesOn_b140 r2.2 v0 else none
set_option maxHeartbeats 4000000 in
set_option maxRecDepth 100000 in
theorem s_X12_qGoesOn_b122 {Z : Nat → (Nat → Nat) → State → Prop} (h : KH) (v0 : Nat) {t : Int32 × KH} (hn : h.1 = 243) (H : f_X12_qGoesOn_b122 h v0 = some t) : KX Z RX12 cX12_qGoesOn 2 false 4 (KRz cX12_qGoesOn t.1 t.2) 122 [(0, .ref v0)] [] h := by
  unfold f_X12_qGoesOn_b122 at H
  refine x_aload_n (q := 123) dX12_qGoesOn_122 rfl rfl ?_
  refine x_bipush (q := 125) (v := (42 : Int32)) dX12_qGoesOn_123 rfl (by decide) ?_
  replace H := kif H; obtain ⟨g1, H⟩ := H
  replace H := kbe H; obtain ⟨r2, c3, H⟩ := H
  have m4 := s_X12_takesSign (Z := Z) h v0 (42 : Int32) hn c3
  refine x_callV (q := 128) (as := [.int (42 : Int32)]) (rest := []) dX12_qGoesOn_125 rfl kc_RX12_264 kh_X12_takesSign (by decide) (Nat.le_of_ble_eq_true rfl) m4 (ci := 12) (by exact ⟨rfl, by decide⟩) (k243 g1 (by decide) hn) ?_
  have n5 : (r2.2).1 = 243 := m4.1.full hn
  replace H := kite H; rcases H with ⟨g6, H⟩ | ⟨g6, H⟩
  · refine x_if_ne_f (q := 131) dX12_qGoesOn_128 (t := 140) (by decide) rfl g6 ?_
    refine x_aload_n (q := 132) dX12_qGoesOn_131 rfl rfl ?_
    refine x_bipush (q := 134) (v := (47 : Int32)) dX12_qGoesOn_132 rfl (by decide) ?_
    replace H := kbe H; obtain ⟨r7, c8, H⟩ := H
    have m9 := s_X12_takesSign (Z := Z) r2.2 v0 (47 : Int32) n5 c8
    refine x_callV (q := 137) (as := [.int (47 : Int32)]) (rest := []) dX12_qGoesOn_134 rfl kc_RX12_264 kh_X12_takesSign (by decide) (Nat.le_of_ble_eq_true rfl) m9 (ci := 12) (by exact ⟨rfl, by decide⟩) (k243 g1 (by decide) n5) ?_
    have n10 : (r7.2).1 = 243 := m9.1.full n5
    replace H := kite H; rcases H with ⟨g11, H⟩ | ⟨g11, H⟩
    · refine x_if_eq_t dX12_qGoesOn_137 (q := 207) (by decide) g11 ?_
      refine x_aload_n (q := 208) dX12_qGoesOn_207 rfl rfl ?_
      refine x_bipush (q := 210) (v := (43 : Int32)) dX12_qGoesOn_208 rfl (by decide) ?_
      replace H := kbe H; obtain ⟨r12, c13, H⟩ := H
      have m14 := s_X12_takesSign (Z := Z) r7.2 v0 (43 : Int32) n10 c13
      refine x_callV (q := 213) (as := [.int (43 : Int32)]) (rest := []) dX12_qGoesOn_210 rfl kc_RX12_264 kh_X12_takesSign (by decide) (Nat.le_of_ble_eq_true rfl) m14 (ci := 12) (by exact ⟨rfl, by decide⟩) (k243 g1 (by decide) n10) ?_
      have n15 : (r12.2).1 = 243 := m14.1.full n10
      replace H := kite H; rcases H with ⟨g16, H⟩ | ⟨g16, H⟩
      · refine x_if_ne_f (q := 216) dX12_qGoesOn_213 (t := 225) (by decide) rfl g16 ?_
        refine x_aload_n (q := 217) dX12_qGoesOn_216 rfl rfl ?_
        refine x_bipush (q := 219) (v := (45 : Int32)) dX12_qGoesOn_217 rfl (by decide) ?_
        replace H := kbe H; obtain ⟨r17, c18, H⟩ := H
        have m19 := s_X12_takesSign (Z := Z) r12.2 v0 (45 : Int32) n15 c18
        refine x_callV (q := 222) (as := [.int (45 : Int32)]) (rest := []) dX12_qGoesOn_219 rfl kc_RX12_264 kh_X12_takesSign (by decide) (Nat.le_of_ble_eq_true rfl) m19 (ci := 12) (by exact ⟨rfl, by decide⟩) (k243 g1 (by decide) n15) ?_
        have n20 : (r17.2).1 = 243 := m19.1.full n15
        replace H := kite H; rcases H with ⟨g21, H⟩ | ⟨g21, H⟩
        · refine x_if_eq_t dX12_qGoesOn_222 (q := 308) (by decide) g21 ?_
          refine x_aload_n (q := 309) dX12_qGoesOn_308 rfl rfl ?_
          replace H := kbe H; obtain ⟨r22, c23, H⟩ := H
          have m24 := s_X12_qBracket (Z := Z) r17.2 v0 n20 c23
          refine x_callV (q := 312) (as := []) (rest := []) dX12_qGoesOn_309 rfl kc_RX12_577 kh_X12_qBracket (by decide) (Nat.le_of_ble_eq_true rfl) m24 (ci := 12) (by exact ⟨rfl, by decide⟩) (k243 g1 (by decide) n20) ?_
          refine x_bipush (q := 314) (v := (21 : Int32)) dX12_qGoesOn_312 rfl (by decide) ?_
          replace H := kite H; rcases H with ⟨g25, H⟩ | ⟨g25, H⟩
          · refine x_icmp_eq_t dX12_qGoesOn_314 (q := 326) (by decide) g25 ?_
            refine x_sub (ls2 := [(0, .ref v0)]) [0] rfl ?_
            exact s_X12_qGoesOn_b326 r17.2 v0 n20 H
          · refine x_icmp_eq_f (q := 317) dX12_qGoesOn_314 (t := 326) (by decide) rfl g25 ?_
            refine x_aload_n (q := 318) dX12_qGoesOn_317 rfl rfl ?_
            replace H := kbe H; obtain ⟨r26, c27, H⟩ := H
            have m28 := s_X12_qBracket (Z := Z) r17.2 v0 n20 c27
            refine x_callV (q := 321) (as := []) (rest := []) dX12_qGoesOn_318 rfl kc_RX12_577 kh_X12_qBracket (by decide) (Nat.le_of_ble_eq_true rfl) m28 (ci := 12) (by exact ⟨rfl, by decide⟩) (k243 g1 (by decide) n20) ?_
            refine x_bipush (q := 323) (v := (22 : Int32)) dX12_qGoesOn_321 rfl (by decide) ?_
            replace H := kite H; rcases H with ⟨g29, H⟩ | ⟨g29, H⟩
            · refine x_icmp_ne_f (q := 326) dX12_qGoesOn_323 (t := 362) (by decide) rfl g29 ?_
              refine x_sub (ls2 := [(0, .ref v0)]) [0] rfl ?_
              exact s_X12_qGoesOn_b326 r17.2 v0 n20 H
            · refine x_icmp_ne_t dX12_qGoesOn_323 (q := 362) (by decide) g29 ?_
              refine x_aload_n (q := 363) dX12_qGoesOn_362 rfl rfl ?_
              replace H := kbe H; obtain ⟨r30, c31, H⟩ := H
              have m32 := s_X12_qBracket (Z := Z) r17.2 v0 n20 c31
              refine x_callV (q := 366) (as := []) (rest := []) dX12_qGoesOn_363 rfl kc_RX12_577 kh_X12_qBracket (by decide) (Nat.le_of_ble_eq_true rfl) m32 (ci := 12) (by exact ⟨rfl, by decide⟩) (k243 g1 (by decide) n20) ?_
              refine x_iconst (q := 367) (v := (-1 : Int32)) dX12_qGoesOn_366 rfl (by decide) ?_
              replace H := kite H; rcases H with ⟨g33, H⟩ | ⟨g33, H⟩
              · refine x_icmp_eq_t dX12_qGoesOn_367 (q := 386) (by decide) g33 ?_
                refine x_iconst (q := 387) (v := (0 : Int32)) dX12_qGoesOn_386 rfl (by decide) ?_
                cases H
                exact x_end ⟨(Or.inl rfl), dX12_qGoesOn_387, rfl, rfl⟩
              · refine x_icmp_eq_f (q := 370) dX12_qGoesOn_367 (t := 386) (by decide) rfl g33 ?_
                refine x_aload_n (q := 371) dX12_qGoesOn_370 rfl rfl ?_
                refine x_getI (q := 374) dX12_qGoesOn_371 rfl kl_RX12_230 (Or.inl rfl) (k243 g1 (by decide) n20) ?_
                replace H := kite H; rcases H with ⟨g34, H⟩ | ⟨g34, H⟩
                · refine x_if_ne_f (q := 377) dX12_qGoesOn_374 (t := 386) (by decide) rfl g34 ?_
                  refine x_aload_n (q := 378) dX12_qGoesOn_377 rfl rfl ?_
                  refine x_iconst (q := 379) (v := (1 : Int32)) dX12_qGoesOn_378 rfl (by decide) ?_
                  refine x_aload_n (q := 380) dX12_qGoesOn_379 rfl rfl ?_
                  refine x_getI (q := 383) dX12_qGoesOn_380 rfl kl_RX12_236 (Or.inl rfl) (k243 g1 (by decide) n20) ?_
                  replace H := kbe H; obtain ⟨r35, c36, H⟩ := H
                  have m37 := s_X12_fail (Z := Z) r17.2 v0 (1 : Int32) (kI r17.2 v0 2) n20 c36
                  refine x_callV (q := 386) (as := [.int (1 : Int32), .int (kI r17.2 v0 2)]) (rest := []) dX12_qGoesOn_383 rfl kc_RX12_260 kh_X12_fail (by decide) (Nat.le_of_ble_eq_true rfl) m37 (ci := 12) (by exact ⟨rfl, by decide⟩) (k243 g1 (by decide) n20) ?_
                  have n38 : (r35).1 = 243 := m37.1.full n20
                  refine x_iconst (q := 387) (v := (0 : Int32)) dX12_qGoesOn_386 rfl (by decide) ?_
                  cases H
                  exact x_end ⟨(Or.inl rfl), dX12_qGoesOn_387, rfl, rfl⟩
                · refine x_if_ne_t dX12_qGoesOn_374 (q := 386) (by decide) g34 ?_
                  refine x_iconst (q := 387) (v := (0 : Int32)) dX12_qGoesOn_386 rfl (by decide) ?_
                  cases H
                  exact x_end ⟨(Or.inl rfl), dX12_qGoesOn_387, rfl, rfl⟩
        · refine x_if_eq_f (q := 225) dX12_qGoesOn_222 (t := 308) (by decide) rfl g21 ?_
          refine x_sub (ls2 := [(0, .ref v0)]) [0] rfl ?_
          exact s_X12_qGoesOn_b225 r17.2 v0 n20 H
      · refine x_if_ne_t dX12_qGoesOn_213 (q := 225) (by decide) g16 ?_
        refine x_sub (ls2 := [(0, .ref v0)]) [0] rfl ?_
        exact s_X12_qGoesOn_b225 r12.2 v0 n15 H
    · refine x_if_eq_f (q := 140) dX12_qGoesOn_137 (t := 207) (by decide) rfl g11 ?_
      refine x_sub (ls2 := [(0, .ref v0)]) [0] rfl ?_
      exact s_X12_qGoesOn_b140 r7.2 v0 n10 H
  · refine x_if_ne_t dX12_qGoesOn_128 (q := 140) (by decide) g6 ?_
    refine x_sub (ls2 := [(0, .ref v0)]) [0] rfl ?_
    exact s_X12_qGoesOn_b140 r2.2 v0 n5 H
def f_X12_qGoesOn (h : KH) (v0 : Nat) : Option (Int32 × KH) :=
  kb (kloop (f_X12_qGoesOn_l0 v0) KF h) fun e1 =>
  f_X12_qGoesOn_b122 e1 v0
set_option maxHeartbeats 4000000 in
set_option maxRecDepth 100000 in
theorem s0_X12_qGoesOn {Z : Nat → (Nat → Nat) → State → Prop} (h : KH) (v0 : Nat) {t : Int32 × KH} (hn : h.1 = 243) (H : f_X12_qGoesOn h v0 = some t) : KX Z RX12 cX12_qGoesOn 2 false 4 (KRz cX12_qGoesOn t.1 t.2) 0 [(0, .ref v0)] [] h := by
  unfold f_X12_qGoesOn at H
  refine x_sub (ls2 := [(0, .ref v0)]) [0] rfl ?_
  replace H := kbe H; obtain ⟨e1, c2, H⟩ := H
  refine x_app (sl_X12_qGoesOn_l0 v0 KF h e1 hn c2) fun pc2 ls2 st2 h2 hg m3 => ?_
  obtain ⟨rfl, rfl, rfl, rfl⟩ := hg
  refine x_sub (ls2 := [(0, .ref v0)]) [0] rfl ?_
  exact s_X12_qGoesOn_b122 e1 v0 (m3.full hn) H
theorem s_X12_qGoesOn {Z : Nat → (Nat → Nat) → State → Prop} (h : KH) (v0 : Nat) {t : Int32 × KH} (hn : h.1 = 243) (H : f_X12_qGoesOn h v0 = some t) : KM Z yX12_qGoesOn cX12_qGoesOn 2 (some .boolean) 4 [.ref v0] h (some (.int t.1)) t.2 :=
  kx_z (own := RX12) (ini := false) (by decide +kernel) (by decide +kernel) rfl (Nat.le_of_ble_eq_true rfl) (s0_X12_qGoesOn h v0 hn H)
theorem dX12_qSums_0 : decode cX12_qSums 0 = .ok (.aload_n 0, 1) := by decide +kernel
theorem dX12_qSums_1 : decode cX12_qSums 1 = .ok (.getfield 321, 3) := by decide +kernel
theorem dX12_qSums_4 : decode cX12_qSums 4 = .ok (.istore_n 1, 1) := by decide +kernel
theorem dX12_qSums_5 : decode cX12_qSums 5 = .ok (.aload_n 0, 1) := by decide +kernel
theorem dX12_qSums_6 : decode cX12_qSums 6 = .ok (.aload_n 0, 1) := by decide +kernel
theorem dX12_qSums_7 : decode cX12_qSums 7 = .ok (.getfield 315, 3) := by decide +kernel
theorem dX12_qSums_10 : decode cX12_qSums 10 = .ok (.putfield 321, 3) := by decide +kernel
theorem dX12_qSums_13 : decode cX12_qSums 13 = .ok (.iconst 1, 1) := by decide +kernel
theorem dX12_qSums_14 : decode cX12_qSums 14 = .ok (.istore_n 2, 1) := by decide +kernel
theorem dX12_qSums_15 : decode cX12_qSums 15 = .ok (.iload_n 2, 1) := by decide +kernel
theorem dX12_qSums_16 : decode cX12_qSums 16 = .ok (.ifCond .eq 37, 3) := by decide +kernel
theorem dX12_qSums_19 : decode cX12_qSums 19 = .ok (.aload_n 0, 1) := by decide +kernel
theorem dX12_qSums_20 : decode cX12_qSums 20 = .ok (.getfield 230, 3) := by decide +kernel
theorem dX12_qSums_23 : decode cX12_qSums 23 = .ok (.ifCond .ne 30, 3) := by decide +kernel
theorem dX12_qSums_26 : decode cX12_qSums 26 = .ok (.aload_n 0, 1) := by decide +kernel
theorem dX12_qSums_27 : decode cX12_qSums 27 = .ok (.invokevirtual 586, 3) := by decide +kernel
theorem dX12_qSums_30 : decode cX12_qSums 30 = .ok (.aload_n 0, 1) := by decide +kernel
theorem dX12_qSums_31 : decode cX12_qSums 31 = .ok (.getfield 230, 3) := by decide +kernel
theorem dX12_qSums_34 : decode cX12_qSums 34 = .ok (.ifCond .ne 14, 3) := by decide +kernel
theorem dX12_qSums_37 : decode cX12_qSums 37 = .ok (.aload_n 0, 1) := by decide +kernel
theorem dX12_qSums_38 : decode cX12_qSums 38 = .ok (.invokevirtual 589, 3) := by decide +kernel
theorem dX12_qSums_41 : decode cX12_qSums 41 = .ok (.ifCond .eq 7, 3) := by decide +kernel
theorem dX12_qSums_44 : decode cX12_qSums 44 = .ok (.iconst 1, 1) := by decide +kernel
theorem dX12_qSums_45 : decode cX12_qSums 45 = .ok (.goto 4, 3) := by decide +kernel
theorem dX12_qSums_48 : decode cX12_qSums 48 = .ok (.iconst 0, 1) := by decide +kernel
theorem dX12_qSums_49 : decode cX12_qSums 49 = .ok (.istore_n 2, 1) := by decide +kernel
theorem dX12_qSums_50 : decode cX12_qSums 50 = .ok (.goto (-35), 3) := by decide +kernel
theorem dX12_qSums_53 : decode cX12_qSums 53 = .ok (.aload_n 0, 1) := by decide +kernel
theorem dX12_qSums_54 : decode cX12_qSums 54 = .ok (.getfield 230, 3) := by decide +kernel
theorem dX12_qSums_57 : decode cX12_qSums 57 = .ok (.ifCond .ne 21, 3) := by decide +kernel
theorem dX12_qSums_60 : decode cX12_qSums 60 = .ok (.aload_n 0, 1) := by decide +kernel
theorem dX12_qSums_61 : decode cX12_qSums 61 = .ok (.getfield 315, 3) := by decide +kernel
theorem dX12_qSums_64 : decode cX12_qSums 64 = .ok (.aload_n 0, 1) := by decide +kernel
theorem dX12_qSums_65 : decode cX12_qSums 65 = .ok (.getfield 321, 3) := by decide +kernel
theorem dX12_qSums_68 : decode cX12_qSums 68 = .ok (.if_icmp .le 10, 3) := by decide +kernel
theorem dX12_qSums_71 : decode cX12_qSums 71 = .ok (.aload_n 0, 1) := by decide +kernel
theorem dX12_qSums_72 : decode cX12_qSums 72 = .ok (.invokevirtual 556, 3) := by decide +kernel
theorem dX12_qSums_75 : decode cX12_qSums 75 = .ok (.goto (-22), 3) := by decide +kernel
theorem dX12_qSums_78 : decode cX12_qSums 78 = .ok (.aload_n 0, 1) := by decide +kernel
theorem dX12_qSums_79 : decode cX12_qSums 79 = .ok (.iload_n 1, 1) := by decide +kernel
theorem dX12_qSums_80 : decode cX12_qSums 80 = .ok (.putfield 321, 3) := by decide +kernel
theorem dX12_qSums_83 : decode cX12_qSums 83 = .ok (.return_, 1) := by decide +kernel
theorem kc_RX12_586 : Cond.methodLink RX12 586 yX12_qPartTold ∈ ktG ∧ (Cond.instanceMethod yX12_qPartTold ∈ ktG ∧ Cond.selects yX12_qPartTold.cls yX12_qPartTold yX12_qPartTold ∈ ktG) ∧ Cond.initialized yX12_qPartTold.cls ∈ ktG ∧ Cond.code yX12_qPartTold cX12_qPartTold 6 none ∈ ktG := ⟨(kwm 1597 (by decide +kernel) (by decide +kernel)), ⟨(kwm 1599 (by decide +kernel) (by decide +kernel)), (kwm 57 (by decide +kernel) (by decide +kernel))⟩, (kwm 139 (by decide +kernel) (by decide +kernel)), kwm 1600 (by decide +kernel) (by decide +kernel)⟩
theorem kh_X12_qPartTold : yX12_qPartTold.cls ≠ "java/lang/invoke/MethodHandle" ∧ yX12_qPartTold.cls ≠ "java/lang/invoke/VarHandle" ∧ (parseMethodDescriptor yX12_qPartTold.desc).map (fun d => d.parameters.length) = some 0 := by decide +kernel
theorem kc_RX12_589 : Cond.methodLink RX12 589 yX12_qGoesOn ∈ ktG ∧ (Cond.instanceMethod yX12_qGoesOn ∈ ktG ∧ Cond.selects yX12_qGoesOn.cls yX12_qGoesOn yX12_qGoesOn ∈ ktG) ∧ Cond.initialized yX12_qGoesOn.cls ∈ ktG ∧ Cond.code yX12_qGoesOn cX12_qGoesOn 2 (some .boolean) ∈ ktG := ⟨(kwm 1633 (by decide +kernel) (by decide +kernel)), ⟨(kwm 1635 (by decide +kernel) (by decide +kernel)), (kwm 66 (by decide +kernel) (by decide +kernel))⟩, (kwm 139 (by decide +kernel) (by decide +kernel)), kwm 1636 (by decide +kernel) (by decide +kernel)⟩
theorem kh_X12_qGoesOn : yX12_qGoesOn.cls ≠ "java/lang/invoke/MethodHandle" ∧ yX12_qGoesOn.cls ≠ "java/lang/invoke/VarHandle" ∧ (parseMethodDescriptor yX12_qGoesOn.desc).map (fun d => d.parameters.length) = some 0 := by decide +kernel
def E_X12_qSums_l15 (v0 : Nat) (v1 : Int32) : KH → Nat → List (Nat × Value) → List Value → KH → Prop := fun (e : KH) pc ls st hh => pc = 53 ∧ ls = [(0, .ref v0), (1, .int v1)] ∧ st = [] ∧ e = hh
def B_X12_qSums_l15 (v0 : Nat) (v1 : Int32) : ((Int32 × KH) ⊕ (KH)) → Nat → List (Nat × Value) → List Value → KH → Prop := Sum.elim (fun (s : Int32 × KH) pc ls st hh => pc = 15 ∧ ls = [(0, .ref v0), (1, .int v1), (2, .int s.1)] ∧ st = [] ∧ hh = s.2) (E_X12_qSums_l15 v0 v1)
def f_X12_qSums_b49 (h : KH) (v0 : Nat) (v1 : Int32) (w0 : Int32) : Option ((Int32 × KH) ⊕ (KH)) :=
  some (.inl (w0, h))
set_option maxHeartbeats 4000000 in
set_option maxRecDepth 100000 in
theorem s_X12_qSums_b49 {Z : Nat → (Nat → Nat) → State → Prop} (h : KH) (v0 : Nat) (v1 : Int32) (w0 : Int32) {t : (Int32 × KH) ⊕ (KH)} (hn : h.1 = 243) (H : f_X12_qSums_b49 h v0 v1 w0 = some t) : KX Z RX12 cX12_qSums 3 false 7 (B_X12_qSums_l15 v0 v1 t) 49 [(0, .ref v0), (1, .int v1)] [.int w0] h := by
  unfold f_X12_qSums_b49 at H
  refine x_istore_n (q := 50) (i := 2) (ls2 := [(2, .int w0), (0, .ref v0), (1, .int v1)]) dX12_qSums_49 rfl rfl (by decide) rfl ?_
  refine x_goto dX12_qSums_50 (q := 15) (by decide) ?_
  cases H
  refine x_sub (ls2 := [(0, .ref v0), (1, .int v1), (2, .int w0)]) [1, 2, 0] rfl ?_
  exact x_end (x_cfg rfl)
def f_X12_qSums_b48 (h : KH) (v0 : Nat) (v1 : Int32) : Option ((Int32 × KH) ⊕ (KH)) :=
  f_X12_qSums_b49 h v0 v1 (0 : Int32)
set_option maxHeartbeats 4000000 in
set_option maxRecDepth 100000 in
theorem s_X12_qSums_b48 {Z : Nat → (Nat → Nat) → State → Prop} (h : KH) (v0 : Nat) (v1 : Int32) {t : (Int32 × KH) ⊕ (KH)} (hn : h.1 = 243) (H : f_X12_qSums_b48 h v0 v1 = some t) : KX Z RX12 cX12_qSums 3 false 7 (B_X12_qSums_l15 v0 v1 t) 48 [(0, .ref v0), (1, .int v1)] [] h := by
  unfold f_X12_qSums_b48 at H
  refine x_iconst (q := 49) (v := (0 : Int32)) dX12_qSums_48 rfl (by decide) ?_
  refine x_sub (ls2 := [(0, .ref v0), (1, .int v1)]) [0, 1] rfl ?_
  exact s_X12_qSums_b49 h v0 v1 (0 : Int32) hn H
def f_X12_qSums_l15 (v0 : Nat) (v1 : Int32) (s : Int32 × KH) : Option ((Int32 × KH) ⊕ (KH)) :=
  if s.1 = 0 then
  some (.inr s.2)
  else
  if kkind v0 = 12 then if (kI s.2 v0 5) = 0 then
  kb (f_X12_qPartTold s.2 v0) fun r4 =>
  if (kI r4 v0 5) = 0 then
  kb (f_X12_qGoesOn r4 v0) fun r9 =>
  if r9.1 = 0 then
  f_X12_qSums_b48 r9.2 v0 v1
  else
  f_X12_qSums_b49 r9.2 v0 v1 (1 : Int32)
  else
  f_X12_qSums_b48 r4 v0 v1
  else
  some (.inr s.2) else none
set_option maxHeartbeats 4000000 in
set_option maxRecDepth 100000 in
theorem s_X12_qSums_l15 {Z : Nat → (Nat → Nat) → State → Prop} (v0 : Nat) (v1 : Int32) (s : Int32 × KH) (t : (Int32 × KH) ⊕ (KH)) (hn : (s.2).1 = 243) (H : f_X12_qSums_l15 v0 v1 s = some t) : KX Z RX12 cX12_qSums 3 false 7 (B_X12_qSums_l15 v0 v1 t) 15 [(0, .ref v0), (1, .int v1), (2, .int s.1)] [] s.2 := by
  unfold f_X12_qSums_l15 at H
  refine x_iload_n (q := 16) dX12_qSums_15 rfl rfl ?_
  replace H := kite H; rcases H with ⟨g1, H⟩ | ⟨g1, H⟩
  · refine x_if_eq_t dX12_qSums_16 (q := 53) (by decide) g1 ?_
    cases H
    refine x_sub (ls2 := [(0, .ref v0), (1, .int v1)]) [0, 1] rfl ?_
    exact x_end (x_cfg rfl)
  · refine x_if_eq_f (q := 19) dX12_qSums_16 (t := 53) (by decide) rfl g1 ?_
    refine x_aload_n (q := 20) dX12_qSums_19 rfl rfl ?_
    replace H := kif H; obtain ⟨g2, H⟩ := H
    refine x_getI (q := 23) dX12_qSums_20 rfl kl_RX12_230 (Or.inl rfl) (k243 g2 (by decide) hn) ?_
    replace H := kite H; rcases H with ⟨g3, H⟩ | ⟨g3, H⟩
    · refine x_if_ne_f (q := 26) dX12_qSums_23 (t := 53) (by decide) rfl g3 ?_
      refine x_aload_n (q := 27) dX12_qSums_26 rfl rfl ?_
      replace H := kbe H; obtain ⟨r4, c5, H⟩ := H
      have m6 := s_X12_qPartTold (Z := Z) s.2 v0 hn c5
      refine x_callV (q := 30) (as := []) (rest := []) dX12_qSums_27 rfl kc_RX12_586 kh_X12_qPartTold (by decide) (Nat.le_of_ble_eq_true rfl) m6 (ci := 12) (by exact ⟨rfl, by decide⟩) (k243 g2 (by decide) hn) ?_
      have n7 : (r4).1 = 243 := m6.1.full hn
      refine x_aload_n (q := 31) dX12_qSums_30 rfl rfl ?_
      refine x_getI (q := 34) dX12_qSums_31 rfl kl_RX12_230 (Or.inl rfl) (k243 g2 (by decide) n7) ?_
      replace H := kite H; rcases H with ⟨g8, H⟩ | ⟨g8, H⟩
      · refine x_if_ne_f (q := 37) dX12_qSums_34 (t := 48) (by decide) rfl g8 ?_
        refine x_aload_n (q := 38) dX12_qSums_37 rfl rfl ?_
        replace H := kbe H; obtain ⟨r9, c10, H⟩ := H
        have m11 := s_X12_qGoesOn (Z := Z) r4 v0 n7 c10
        refine x_callV (q := 41) (as := []) (rest := []) dX12_qSums_38 rfl kc_RX12_589 kh_X12_qGoesOn (by decide) (Nat.le_of_ble_eq_true rfl) m11 (ci := 12) (by exact ⟨rfl, by decide⟩) (k243 g2 (by decide) n7) ?_
        have n12 : (r9.2).1 = 243 := m11.1.full n7
        replace H := kite H; rcases H with ⟨g13, H⟩ | ⟨g13, H⟩
        · refine x_if_eq_t dX12_qSums_41 (q := 48) (by decide) g13 ?_
          refine x_sub (ls2 := [(0, .ref v0), (1, .int v1)]) [0, 1] rfl ?_
          exact s_X12_qSums_b48 r9.2 v0 v1 n12 H
        · refine x_if_eq_f (q := 44) dX12_qSums_41 (t := 48) (by decide) rfl g13 ?_
          refine x_iconst (q := 45) (v := (1 : Int32)) dX12_qSums_44 rfl (by decide) ?_
          refine x_goto dX12_qSums_45 (q := 49) (by decide) ?_
          refine x_sub (ls2 := [(0, .ref v0), (1, .int v1)]) [0, 1] rfl ?_
          exact s_X12_qSums_b49 r9.2 v0 v1 (1 : Int32) n12 H
      · refine x_if_ne_t dX12_qSums_34 (q := 48) (by decide) g8 ?_
        refine x_sub (ls2 := [(0, .ref v0), (1, .int v1)]) [0, 1] rfl ?_
        exact s_X12_qSums_b48 r4 v0 v1 n7 H
    · refine x_if_ne_t dX12_qSums_23 (q := 53) (by decide) g3 ?_
      cases H
      refine x_sub (ls2 := [(0, .ref v0), (1, .int v1)]) [0, 1] rfl ?_
      exact x_end (x_cfg rfl)
theorem sl_X12_qSums_l15 {Z : Nat → (Nat → Nat) → State → Prop} (v0 : Nat) (v1 : Int32) (n : Nat) (s : Int32 × KH) (r : KH) (hn : (s.2).1 = 243) (H : kloop (f_X12_qSums_l15 v0 v1) n s = some r) : KX Z RX12 cX12_qSums 3 false 7 (E_X12_qSums_l15 v0 v1 r) 15 [(0, .ref v0), (1, .int v1), (2, .int s.1)] [] s.2 :=
  k_loop (ls := (fun (s : Int32 × KH) => ([(0, .ref v0), (1, .int v1), (2, .int s.1)] : List (Nat × Value)))) (hp := (fun (s : Int32 × KH) => (s.2 : KH))) (G := E_X12_qSums_l15 v0 v1) (fun s t hn H => s_X12_qSums_l15 v0 v1 s t hn H) n s r hn H
def E_X12_qSums_l53 (v0 : Nat) (v1 : Int32) : KH → Nat → List (Nat × Value) → List Value → KH → Prop := fun (e : KH) pc ls st hh => pc = 78 ∧ ls = [(0, .ref v0), (1, .int v1)] ∧ st = [] ∧ e = hh
def B_X12_qSums_l53 (v0 : Nat) (v1 : Int32) : ((KH) ⊕ (KH)) → Nat → List (Nat × Value) → List Value → KH → Prop := Sum.elim (fun (s : KH) pc ls st hh => pc = 53 ∧ ls = [(0, .ref v0), (1, .int v1)] ∧ st = [] ∧ hh = s) (E_X12_qSums_l53 v0 v1)
def f_X12_qSums_l53 (v0 : Nat) (v1 : Int32) (s : KH) : Option ((KH) ⊕ (KH)) :=
  if kkind v0 = 12 then if (kI s v0 5) = 0 then
  if (kI s v0 88) ≤ (kI s v0 90) then
  some (.inr s)
  else
  kb (f_X12_qDrops s v0) fun r4 =>
  some (.inl r4)
  else
  some (.inr s) else none
set_option maxHeartbeats 4000000 in
set_option maxRecDepth 100000 in
theorem s_X12_qSums_l53 {Z : Nat → (Nat → Nat) → State → Prop} (v0 : Nat) (v1 : Int32) (s : KH) (t : (KH) ⊕ (KH)) (hn : (s).1 = 243) (H : f_X12_qSums_l53 v0 v1 s = some t) : KX Z RX12 cX12_qSums 3 false 7 (B_X12_qSums_l53 v0 v1 t) 53 [(0, .ref v0), (1, .int v1)] [] s := by
  unfold f_X12_qSums_l53 at H
  refine x_aload_n (q := 54) dX12_qSums_53 rfl rfl ?_
  replace H := kif H; obtain ⟨g1, H⟩ := H
  refine x_getI (q := 57) dX12_qSums_54 rfl kl_RX12_230 (Or.inl rfl) (k243 g1 (by decide) hn) ?_
  replace H := kite H; rcases H with ⟨g2, H⟩ | ⟨g2, H⟩
  · refine x_if_ne_f (q := 60) dX12_qSums_57 (t := 78) (by decide) rfl g2 ?_
    refine x_aload_n (q := 61) dX12_qSums_60 rfl rfl ?_
    refine x_getI (q := 64) dX12_qSums_61 rfl kl_RX12_315 (Or.inl rfl) (k243 g1 (by decide) hn) ?_
    refine x_aload_n (q := 65) dX12_qSums_64 rfl rfl ?_
    refine x_getI (q := 68) dX12_qSums_65 rfl kl_RX12_321 (Or.inl rfl) (k243 g1 (by decide) hn) ?_
    replace H := kite H; rcases H with ⟨g3, H⟩ | ⟨g3, H⟩
    · refine x_icmp_le_t dX12_qSums_68 (q := 78) (by decide) g3 ?_
      cases H
      refine x_sub (ls2 := [(0, .ref v0), (1, .int v1)]) [0, 1] rfl ?_
      exact x_end (x_cfg rfl)
    · refine x_icmp_le_f (q := 71) dX12_qSums_68 (t := 78) (by decide) rfl g3 ?_
      refine x_aload_n (q := 72) dX12_qSums_71 rfl rfl ?_
      replace H := kbe H; obtain ⟨r4, c5, H⟩ := H
      have m6 := s_X12_qDrops (Z := Z) s v0 hn c5
      refine x_callV (q := 75) (as := []) (rest := []) dX12_qSums_72 rfl kc_RX12_556 kh_X12_qDrops (by decide) (Nat.le_of_ble_eq_true rfl) m6 (ci := 12) (by exact ⟨rfl, by decide⟩) (k243 g1 (by decide) hn) ?_
      have n7 : (r4).1 = 243 := m6.1.full hn
      refine x_goto dX12_qSums_75 (q := 53) (by decide) ?_
      cases H
      refine x_sub (ls2 := [(0, .ref v0), (1, .int v1)]) [0, 1] rfl ?_
      exact x_end (x_cfg rfl)
  · refine x_if_ne_t dX12_qSums_57 (q := 78) (by decide) g2 ?_
    cases H
    refine x_sub (ls2 := [(0, .ref v0), (1, .int v1)]) [0, 1] rfl ?_
    exact x_end (x_cfg rfl)
theorem sl_X12_qSums_l53 {Z : Nat → (Nat → Nat) → State → Prop} (v0 : Nat) (v1 : Int32) (n : Nat) (s : KH) (r : KH) (hn : (s).1 = 243) (H : kloop (f_X12_qSums_l53 v0 v1) n s = some r) : KX Z RX12 cX12_qSums 3 false 7 (E_X12_qSums_l53 v0 v1 r) 53 [(0, .ref v0), (1, .int v1)] [] s :=
  k_loop (ls := (fun (s : KH) => ([(0, .ref v0), (1, .int v1)] : List (Nat × Value)))) (hp := (fun (s : KH) => (s : KH))) (G := E_X12_qSums_l53 v0 v1) (fun s t hn H => s_X12_qSums_l53 v0 v1 s t hn H) n s r hn H
def f_X12_qSums_b78 (h : KH) (v0 : Nat) (v1 : Int32) : Option (KH) :=
  if kkind v0 = 12 then kl (ksI h v0 90 v1) fun h2 =>
  some h2 else none
set_option maxHeartbeats 4000000 in
set_option maxRecDepth 100000 in
theorem s_X12_qSums_b78 {Z : Nat → (Nat → Nat) → State → Prop} (h : KH) (v0 : Nat) (v1 : Int32) {t : KH} (hn : h.1 = 243) (H : f_X12_qSums_b78 h v0 v1 = some t) : KX Z RX12 cX12_qSums 3 false 7 (KRv cX12_qSums t) 78 [(0, .ref v0), (1, .int v1)] [] h := by
  unfold f_X12_qSums_b78 at H
  refine x_aload_n (q := 79) dX12_qSums_78 rfl rfl ?_
  refine x_iload_n (q := 80) dX12_qSums_79 rfl rfl ?_
  replace H := kif H; obtain ⟨g1, H⟩ := H
  replace H := kle H; obtain ⟨h2, q3, H⟩ := H
  refine x_putI (q := 83) dX12_qSums_80 rfl kl_RX12_321 (Or.inl rfl) rfl (k243 g1 (by decide) hn) ?_
  refine x_nmH q3 ?_
  have n4 : h2.1 = 243 := by rw [q3]; exact hn
  cases H
  exact x_end ⟨dX12_qSums_83, rfl, rfl⟩
def f_X12_qSums (h : KH) (v0 : Nat) : Option (KH) :=
  if kkind v0 = 12 then kl (kI h v0 90) fun x2 =>
  kl (ksI h v0 90 (kI h v0 88)) fun h4 =>
  kb (kloop (f_X12_qSums_l15 v0 x2) KF ((1 : Int32), h4)) fun e7 =>
  kb (kloop (f_X12_qSums_l53 v0 x2) KF e7) fun e10 =>
  f_X12_qSums_b78 e10 v0 x2 else none
set_option maxHeartbeats 4000000 in
set_option maxRecDepth 100000 in
theorem s0_X12_qSums {Z : Nat → (Nat → Nat) → State → Prop} (h : KH) (v0 : Nat) {t : KH} (hn : h.1 = 243) (H : f_X12_qSums h v0 = some t) : KX Z RX12 cX12_qSums 3 false 7 (KRv cX12_qSums t) 0 [(0, .ref v0)] [] h := by
  unfold f_X12_qSums at H
  refine x_aload_n (q := 1) dX12_qSums_0 rfl rfl ?_
  replace H := kif H; obtain ⟨g1, H⟩ := H
  refine x_getI (q := 4) dX12_qSums_1 rfl kl_RX12_321 (Or.inl rfl) (k243 g1 (by decide) hn) ?_
  replace H := kle H; obtain ⟨x2, q3, H⟩ := H
  refine x_nmI q3 ?_
  refine x_istore_n (q := 5) (i := 1) (ls2 := [(1, .int x2), (0, .ref v0)]) dX12_qSums_4 rfl rfl (by decide) rfl ?_
  refine x_aload_n (q := 6) dX12_qSums_5 rfl rfl ?_
  refine x_aload_n (q := 7) dX12_qSums_6 rfl rfl ?_
  refine x_getI (q := 10) dX12_qSums_7 rfl kl_RX12_315 (Or.inl rfl) (k243 g1 (by decide) hn) ?_
  replace H := kle H; obtain ⟨h4, q5, H⟩ := H
  refine x_putI (q := 13) dX12_qSums_10 rfl kl_RX12_321 (Or.inl rfl) rfl (k243 g1 (by decide) hn) ?_
  refine x_nmH q5 ?_
  have n6 : h4.1 = 243 := by rw [q5]; exact hn
  refine x_iconst (q := 14) (v := (1 : Int32)) dX12_qSums_13 rfl (by decide) ?_
  refine x_istore_n (q := 15) (i := 2) (ls2 := [(2, .int (1 : Int32)), (1, .int x2), (0, .ref v0)]) dX12_qSums_14 rfl rfl (by decide) rfl ?_
  refine x_sub (ls2 := [(0, .ref v0), (1, .int x2), (2, .int (1 : Int32))]) [2, 1, 0] rfl ?_
  replace H := kbe H; obtain ⟨e7, c8, H⟩ := H
  refine x_app (sl_X12_qSums_l15 v0 x2 KF ((1 : Int32), h4) e7 n6 c8) fun pc2 ls2 st2 h2 hg m9 => ?_
  obtain ⟨rfl, rfl, rfl, rfl⟩ := hg
  refine x_sub (ls2 := [(0, .ref v0), (1, .int x2)]) [0, 1] rfl ?_
  replace H := kbe H; obtain ⟨e10, c11, H⟩ := H
  refine x_app (sl_X12_qSums_l53 v0 x2 KF e7 e10 (m9.full n6) c11) fun pc2 ls2 st2 h2 hg m12 => ?_
  obtain ⟨rfl, rfl, rfl, rfl⟩ := hg
  refine x_sub (ls2 := [(0, .ref v0), (1, .int x2)]) [0, 1] rfl ?_
  exact s_X12_qSums_b78 e10 v0 x2 (m12.full (m9.full n6)) H
theorem s_X12_qSums {Z : Nat → (Nat → Nat) → State → Prop} (h : KH) (v0 : Nat) {t : KH} (hn : h.1 = 243) (H : f_X12_qSums h v0 = some t) : KM Z yX12_qSums cX12_qSums 3 none 7 [.ref v0] h none t :=
  kx_v (own := RX12) (ini := false) (by decide +kernel) (by decide +kernel) rfl (Nat.le_of_ble_eq_true rfl) (s0_X12_qSums h v0 hn H)
theorem dX12_qFact_0 : decode cX12_qFact 0 = .ok (.aload_n 0, 1) := by decide +kernel
theorem dX12_qFact_1 : decode cX12_qFact 1 = .ok (.aload_n 0, 1) := by decide +kernel
theorem dX12_qFact_2 : decode cX12_qFact 2 = .ok (.getfield 179, 3) := by decide +kernel
theorem dX12_qFact_5 : decode cX12_qFact 5 = .ok (.invokevirtual 257, 3) := by decide +kernel
theorem dX12_qFact_8 : decode cX12_qFact 8 = .ok (.ifCond .eq 10, 3) := by decide +kernel
theorem dX12_qFact_11 : decode cX12_qFact 11 = .ok (.aload_n 0, 1) := by decide +kernel
theorem dX12_qFact_12 : decode cX12_qFact 12 = .ok (.bipush 13, 2) := by decide +kernel
theorem dX12_qFact_14 : decode cX12_qFact 14 = .ok (.invokevirtual 550, 3) := by decide +kernel
theorem dX12_qFact_17 : decode cX12_qFact 17 = .ok (.return_, 1) := by decide +kernel
theorem dX12_qFact_18 : decode cX12_qFact 18 = .ok (.aload_n 0, 1) := by decide +kernel
theorem dX12_qFact_19 : decode cX12_qFact 19 = .ok (.invokevirtual 592, 3) := by decide +kernel
theorem dX12_qFact_22 : decode cX12_qFact 22 = .ok (.aload_n 0, 1) := by decide +kernel
theorem dX12_qFact_23 : decode cX12_qFact 23 = .ok (.getfield 230, 3) := by decide +kernel
theorem dX12_qFact_26 : decode cX12_qFact 26 = .ok (.ifCond .eq 4, 3) := by decide +kernel
theorem dX12_qFact_29 : decode cX12_qFact 29 = .ok (.return_, 1) := by decide +kernel
theorem dX12_qFact_30 : decode cX12_qFact 30 = .ok (.aload_n 0, 1) := by decide +kernel
theorem dX12_qFact_31 : decode cX12_qFact 31 = .ok (.invokevirtual 242, 3) := by decide +kernel
theorem dX12_qFact_34 : decode cX12_qFact 34 = .ok (.istore_n 1, 1) := by decide +kernel
theorem dX12_qFact_35 : decode cX12_qFact 35 = .ok (.iload_n 1, 1) := by decide +kernel
theorem dX12_qFact_36 : decode cX12_qFact 36 = .ok (.bipush 60, 2) := by decide +kernel
theorem dX12_qFact_38 : decode cX12_qFact 38 = .ok (.if_icmp .eq 25, 3) := by decide +kernel
theorem dX12_qFact_41 : decode cX12_qFact 41 = .ok (.iload_n 1, 1) := by decide +kernel
theorem dX12_qFact_42 : decode cX12_qFact 42 = .ok (.bipush 62, 2) := by decide +kernel
theorem dX12_qFact_44 : decode cX12_qFact 44 = .ok (.if_icmp .eq 19, 3) := by decide +kernel
theorem dX12_qFact_47 : decode cX12_qFact 47 = .ok (.iload_n 1, 1) := by decide +kernel
theorem dX12_qFact_48 : decode cX12_qFact 48 = .ok (.bipush 61, 2) := by decide +kernel
theorem dX12_qFact_50 : decode cX12_qFact 50 = .ok (.if_icmp .eq 13, 3) := by decide +kernel
theorem dX12_qFact_53 : decode cX12_qFact 53 = .ok (.aload_n 0, 1) := by decide +kernel
theorem dX12_qFact_54 : decode cX12_qFact 54 = .ok (.iconst 1, 1) := by decide +kernel
theorem dX12_qFact_55 : decode cX12_qFact 55 = .ok (.aload_n 0, 1) := by decide +kernel
theorem dX12_qFact_56 : decode cX12_qFact 56 = .ok (.getfield 236, 3) := by decide +kernel
theorem dX12_qFact_59 : decode cX12_qFact 59 = .ok (.invokevirtual 260, 3) := by decide +kernel
theorem dX12_qFact_62 : decode cX12_qFact 62 = .ok (.return_, 1) := by decide +kernel
theorem dX12_qFact_63 : decode cX12_qFact 63 = .ok (.aload_n 0, 1) := by decide +kernel
theorem dX12_qFact_64 : decode cX12_qFact 64 = .ok (.dup, 1) := by decide +kernel
theorem dX12_qFact_65 : decode cX12_qFact 65 = .ok (.getfield 236, 3) := by decide +kernel
theorem dX12_qFact_68 : decode cX12_qFact 68 = .ok (.iconst 1, 1) := by decide +kernel
theorem dX12_qFact_69 : decode cX12_qFact 69 = .ok (.iadd, 1) := by decide +kernel
theorem dX12_qFact_70 : decode cX12_qFact 70 = .ok (.putfield 236, 3) := by decide +kernel
theorem dX12_qFact_73 : decode cX12_qFact 73 = .ok (.aload_n 0, 1) := by decide +kernel
theorem dX12_qFact_74 : decode cX12_qFact 74 = .ok (.invokevirtual 592, 3) := by decide +kernel
theorem dX12_qFact_77 : decode cX12_qFact 77 = .ok (.aload_n 0, 1) := by decide +kernel
theorem dX12_qFact_78 : decode cX12_qFact 78 = .ok (.iload_n 1, 1) := by decide +kernel
theorem dX12_qFact_79 : decode cX12_qFact 79 = .ok (.bipush 60, 2) := by decide +kernel
theorem dX12_qFact_81 : decode cX12_qFact 81 = .ok (.if_icmp .ne 8, 3) := by decide +kernel
theorem dX12_qFact_84 : decode cX12_qFact 84 = .ok (.bipush 7, 2) := by decide +kernel
theorem dX12_qFact_86 : decode cX12_qFact 86 = .ok (.goto 16, 3) := by decide +kernel
theorem dX12_qFact_89 : decode cX12_qFact 89 = .ok (.iload_n 1, 1) := by decide +kernel
theorem dX12_qFact_90 : decode cX12_qFact 90 = .ok (.bipush 62, 2) := by decide +kernel
theorem dX12_qFact_92 : decode cX12_qFact 92 = .ok (.if_icmp .ne 8, 3) := by decide +kernel
theorem dX12_qFact_95 : decode cX12_qFact 95 = .ok (.bipush 8, 2) := by decide +kernel
theorem dX12_qFact_97 : decode cX12_qFact 97 = .ok (.goto 5, 3) := by decide +kernel
theorem dX12_qFact_100 : decode cX12_qFact 100 = .ok (.bipush 9, 2) := by decide +kernel
theorem dX12_qFact_102 : decode cX12_qFact 102 = .ok (.invokevirtual 550, 3) := by decide +kernel
theorem dX12_qFact_105 : decode cX12_qFact 105 = .ok (.return_, 1) := by decide +kernel
theorem kl_RX12_179 : KLk RX12 179 12 73 := ⟨RX12, TX12, 97, rfl, by decide, Or.inl (kwm 1270 (by decide +kernel) (by decide +kernel))⟩
theorem kc_RX12_592 : Cond.methodLink RX12 592 yX12_qSums ∈ ktG ∧ (Cond.instanceMethod yX12_qSums ∈ ktG ∧ Cond.selects yX12_qSums.cls yX12_qSums yX12_qSums ∈ ktG) ∧ Cond.initialized yX12_qSums.cls ∈ ktG ∧ Cond.code yX12_qSums cX12_qSums 3 none ∈ ktG := ⟨(kwm 1593 (by decide +kernel) (by decide +kernel)), ⟨(kwm 1595 (by decide +kernel) (by decide +kernel)), (kwm 56 (by decide +kernel) (by decide +kernel))⟩, (kwm 139 (by decide +kernel) (by decide +kernel)), kwm 1596 (by decide +kernel) (by decide +kernel)⟩
theorem kh_X12_qSums : yX12_qSums.cls ≠ "java/lang/invoke/MethodHandle" ∧ yX12_qSums.cls ≠ "java/lang/invoke/VarHandle" ∧ (parseMethodDescriptor yX12_qSums.desc).map (fun d => d.parameters.length) = some 0 := by decide +kernel
def f_X12_qFact_b102 (h : KH) (w0 : Nat) (w1 : Int32) : Option (KH) :=
  if kkind w0 = 12 then kb (f_X12_qCode h w0 w1) fun r2 =>
  some r2 else none
set_option maxHeartbeats 4000000 in
set_option maxRecDepth 100000 in
theorem s_X12_qFact_b102 {Z : Nat → (Nat → Nat) → State → Prop} (h : KH) (w0 : Nat) (w1 : Int32) {t : KH} (hn : h.1 = 243) (H : f_X12_qFact_b102 h w0 w1 = some t) : KX Z RX12 cX12_qFact 2 false 8 (KRv cX12_qFact t) 102 [] [.int w1, .ref w0] h := by
  unfold f_X12_qFact_b102 at H
  replace H := kif H; obtain ⟨g1, H⟩ := H
  replace H := kbe H; obtain ⟨r2, c3, H⟩ := H
  have m4 := s_X12_qCode (Z := Z) h w0 w1 hn c3
  refine x_callV (q := 105) (as := [.int w1]) (rest := []) dX12_qFact_102 rfl kc_RX12_550 kh_X12_qCode (by decide) (Nat.le_of_ble_eq_true rfl) m4 (ci := 12) (by exact ⟨rfl, by decide⟩) (k243 g1 (by decide) hn) ?_
  have n5 : (r2).1 = 243 := m4.1.full hn
  cases H
  exact x_end ⟨dX12_qFact_105, rfl, rfl⟩
def f_X12_qFact_b63 (h : KH) (v0 : Nat) (v1 : Int32) : Option (KH) :=
  if kkind v0 = 12 then kl (ksI h v0 2 ((kI h v0 2) + (1 : Int32))) fun h2 =>
  kb (f_X12_qSums h2 v0) fun r5 =>
  if v1 = (60 : Int32) then
  f_X12_qFact_b102 r5 v0 (7 : Int32)
  else
  if v1 = (62 : Int32) then
  f_X12_qFact_b102 r5 v0 (8 : Int32)
  else
  f_X12_qFact_b102 r5 v0 (9 : Int32) else none
set_option maxHeartbeats 4000000 in
set_option maxRecDepth 100000 in
theorem s_X12_qFact_b63 {Z : Nat → (Nat → Nat) → State → Prop} (h : KH) (v0 : Nat) (v1 : Int32) {t : KH} (hn : h.1 = 243) (H : f_X12_qFact_b63 h v0 v1 = some t) : KX Z RX12 cX12_qFact 2 false 8 (KRv cX12_qFact t) 63 [(0, .ref v0), (1, .int v1)] [] h := by
  unfold f_X12_qFact_b63 at H
  refine x_aload_n (q := 64) dX12_qFact_63 rfl rfl ?_
  refine x_dup (q := 65) dX12_qFact_64 rfl rfl ?_
  replace H := kif H; obtain ⟨g1, H⟩ := H
  refine x_getI (q := 68) dX12_qFact_65 rfl kl_RX12_236 (Or.inl rfl) (k243 g1 (by decide) hn) ?_
  refine x_iconst (q := 69) (v := (1 : Int32)) dX12_qFact_68 rfl (by decide) ?_
  refine x_iadd (q := 70) dX12_qFact_69 rfl ?_
  replace H := kle H; obtain ⟨h2, q3, H⟩ := H
  refine x_putI (q := 73) dX12_qFact_70 rfl kl_RX12_236 (Or.inl rfl) rfl (k243 g1 (by decide) hn) ?_
  refine x_nmH q3 ?_
  have n4 : h2.1 = 243 := by rw [q3]; exact hn
  refine x_aload_n (q := 74) dX12_qFact_73 rfl rfl ?_
  replace H := kbe H; obtain ⟨r5, c6, H⟩ := H
  have m7 := s_X12_qSums (Z := Z) h2 v0 n4 c6
  refine x_callV (q := 77) (as := []) (rest := []) dX12_qFact_74 rfl kc_RX12_592 kh_X12_qSums (by decide) (Nat.le_of_ble_eq_true rfl) m7 (ci := 12) (by exact ⟨rfl, by decide⟩) (k243 g1 (by decide) n4) ?_
  have n8 : (r5).1 = 243 := m7.1.full n4
  refine x_aload_n (q := 78) dX12_qFact_77 rfl rfl ?_
  refine x_iload_n (q := 79) dX12_qFact_78 rfl rfl ?_
  refine x_bipush (q := 81) (v := (60 : Int32)) dX12_qFact_79 rfl (by decide) ?_
  replace H := kite H; rcases H with ⟨g9, H⟩ | ⟨g9, H⟩
  · refine x_icmp_ne_f (q := 84) dX12_qFact_81 (t := 89) (by decide) rfl g9 ?_
    refine x_bipush (q := 86) (v := (7 : Int32)) dX12_qFact_84 rfl (by decide) ?_
    refine x_goto dX12_qFact_86 (q := 102) (by decide) ?_
    refine x_sub (ls2 := []) [] rfl ?_
    exact s_X12_qFact_b102 r5 v0 (7 : Int32) n8 H
  · refine x_icmp_ne_t dX12_qFact_81 (q := 89) (by decide) g9 ?_
    refine x_iload_n (q := 90) dX12_qFact_89 rfl rfl ?_
    refine x_bipush (q := 92) (v := (62 : Int32)) dX12_qFact_90 rfl (by decide) ?_
    replace H := kite H; rcases H with ⟨g10, H⟩ | ⟨g10, H⟩
    · refine x_icmp_ne_f (q := 95) dX12_qFact_92 (t := 100) (by decide) rfl g10 ?_
      refine x_bipush (q := 97) (v := (8 : Int32)) dX12_qFact_95 rfl (by decide) ?_
      refine x_goto dX12_qFact_97 (q := 102) (by decide) ?_
      refine x_sub (ls2 := []) [] rfl ?_
      exact s_X12_qFact_b102 r5 v0 (8 : Int32) n8 H
    · refine x_icmp_ne_t dX12_qFact_92 (q := 100) (by decide) g10 ?_
      refine x_bipush (q := 102) (v := (9 : Int32)) dX12_qFact_100 rfl (by decide) ?_
      refine x_sub (ls2 := []) [] rfl ?_
      exact s_X12_qFact_b102 r5 v0 (9 : Int32) n8 H
def f_X12_qFact (h : KH) (v0 : Nat) : Option (KH) :=
  if kkind v0 = 12 then if (kR h v0 73) < 999999 then kb (f_X12_takes h v0 (kR h v0 73)) fun r3 =>
  if r3.1 = 0 then
  kb (f_X12_qSums r3.2 v0) fun r8 =>
  if (kI r8 v0 5) = 0 then
  kb (f_X12_look0 r8 v0) fun r13 =>
  if r13.1 = (60 : Int32) then
  f_X12_qFact_b63 r13.2 v0 r13.1
  else
  if r13.1 = (62 : Int32) then
  f_X12_qFact_b63 r13.2 v0 r13.1
  else
  if r13.1 = (61 : Int32) then
  f_X12_qFact_b63 r13.2 v0 r13.1
  else
  kb (f_X12_fail r13.2 v0 (1 : Int32) (kI r13.2 v0 2)) fun r20 =>
  some r20
  else
  some r8
  else
  kb (f_X12_qCode r3.2 v0 (13 : Int32)) fun r24 =>
  some r24 else none else none
set_option maxHeartbeats 4000000 in
set_option maxRecDepth 100000 in
theorem s0_X12_qFact {Z : Nat → (Nat → Nat) → State → Prop} (h : KH) (v0 : Nat) {t : KH} (hn : h.1 = 243) (H : f_X12_qFact h v0 = some t) : KX Z RX12 cX12_qFact 2 false 8 (KRv cX12_qFact t) 0 [(0, .ref v0)] [] h := by
  unfold f_X12_qFact at H
  refine x_aload_n (q := 1) dX12_qFact_0 rfl rfl ?_
  refine x_aload_n (q := 2) dX12_qFact_1 rfl rfl ?_
  replace H := kif H; obtain ⟨g1, H⟩ := H
  replace H := kif H; obtain ⟨g2, H⟩ := H
  refine x_getR (q := 5) dX12_qFact_2 rfl kl_RX12_179 rfl (k243 g1 (by decide) hn) g2 ?_
  replace H := kbe H; obtain ⟨r3, c4, H⟩ := H
  have m5 := s_X12_takes (Z := Z) h v0 (kR h v0 73) hn c4
  refine x_callV (q := 8) (as := [.ref (kR h v0 73)]) (rest := []) dX12_qFact_5 rfl kc_RX12_257 kh_X12_takes (by decide) (Nat.le_of_ble_eq_true rfl) m5 (ci := 12) (by exact ⟨rfl, by decide⟩) (k243 g1 (by decide) hn) ?_
  have n6 : (r3.2).1 = 243 := m5.1.full hn
  replace H := kite H; rcases H with ⟨g7, H⟩ | ⟨g7, H⟩
  · refine x_if_eq_t dX12_qFact_8 (q := 18) (by decide) g7 ?_
    refine x_aload_n (q := 19) dX12_qFact_18 rfl rfl ?_
    replace H := kbe H; obtain ⟨r8, c9, H⟩ := H
    have m10 := s_X12_qSums (Z := Z) r3.2 v0 n6 c9
    refine x_callV (q := 22) (as := []) (rest := []) dX12_qFact_19 rfl kc_RX12_592 kh_X12_qSums (by decide) (Nat.le_of_ble_eq_true rfl) m10 (ci := 12) (by exact ⟨rfl, by decide⟩) (k243 g1 (by decide) n6) ?_
    have n11 : (r8).1 = 243 := m10.1.full n6
    refine x_aload_n (q := 23) dX12_qFact_22 rfl rfl ?_
    refine x_getI (q := 26) dX12_qFact_23 rfl kl_RX12_230 (Or.inl rfl) (k243 g1 (by decide) n11) ?_
    replace H := kite H; rcases H with ⟨g12, H⟩ | ⟨g12, H⟩
    · refine x_if_eq_t dX12_qFact_26 (q := 30) (by decide) g12 ?_
      refine x_aload_n (q := 31) dX12_qFact_30 rfl rfl ?_
      replace H := kbe H; obtain ⟨r13, c14, H⟩ := H
      have m15 := s_X12_look0 (Z := Z) r8 v0 n11 c14
      refine x_callV (q := 34) (as := []) (rest := []) dX12_qFact_31 rfl kc_RX12_242 kh_X12_look0 (by decide) (Nat.le_of_ble_eq_true rfl) m15 (ci := 12) (by exact ⟨rfl, by decide⟩) (k243 g1 (by decide) n11) ?_
      have n16 : (r13.2).1 = 243 := m15.1.full n11
      refine x_istore_n (q := 35) (i := 1) (ls2 := [(1, .int r13.1), (0, .ref v0)]) dX12_qFact_34 rfl rfl (by decide) rfl ?_
      refine x_iload_n (q := 36) dX12_qFact_35 rfl rfl ?_
      refine x_bipush (q := 38) (v := (60 : Int32)) dX12_qFact_36 rfl (by decide) ?_
      replace H := kite H; rcases H with ⟨g17, H⟩ | ⟨g17, H⟩
      · refine x_icmp_eq_t dX12_qFact_38 (q := 63) (by decide) g17 ?_
        refine x_sub (ls2 := [(0, .ref v0), (1, .int r13.1)]) [1, 0] rfl ?_
        exact s_X12_qFact_b63 r13.2 v0 r13.1 n16 H
      · refine x_icmp_eq_f (q := 41) dX12_qFact_38 (t := 63) (by decide) rfl g17 ?_
        refine x_iload_n (q := 42) dX12_qFact_41 rfl rfl ?_
        refine x_bipush (q := 44) (v := (62 : Int32)) dX12_qFact_42 rfl (by decide) ?_
        replace H := kite H; rcases H with ⟨g18, H⟩ | ⟨g18, H⟩
        · refine x_icmp_eq_t dX12_qFact_44 (q := 63) (by decide) g18 ?_
          refine x_sub (ls2 := [(0, .ref v0), (1, .int r13.1)]) [1, 0] rfl ?_
          exact s_X12_qFact_b63 r13.2 v0 r13.1 n16 H
        · refine x_icmp_eq_f (q := 47) dX12_qFact_44 (t := 63) (by decide) rfl g18 ?_
          refine x_iload_n (q := 48) dX12_qFact_47 rfl rfl ?_
          refine x_bipush (q := 50) (v := (61 : Int32)) dX12_qFact_48 rfl (by decide) ?_
          replace H := kite H; rcases H with ⟨g19, H⟩ | ⟨g19, H⟩
          · refine x_icmp_eq_t dX12_qFact_50 (q := 63) (by decide) g19 ?_
            refine x_sub (ls2 := [(0, .ref v0), (1, .int r13.1)]) [1, 0] rfl ?_
            exact s_X12_qFact_b63 r13.2 v0 r13.1 n16 H
          · refine x_icmp_eq_f (q := 53) dX12_qFact_50 (t := 63) (by decide) rfl g19 ?_
            refine x_aload_n (q := 54) dX12_qFact_53 rfl rfl ?_
            refine x_iconst (q := 55) (v := (1 : Int32)) dX12_qFact_54 rfl (by decide) ?_
            refine x_aload_n (q := 56) dX12_qFact_55 rfl rfl ?_
            refine x_getI (q := 59) dX12_qFact_56 rfl kl_RX12_236 (Or.inl rfl) (k243 g1 (by decide) n16) ?_
            replace H := kbe H; obtain ⟨r20, c21, H⟩ := H
            have m22 := s_X12_fail (Z := Z) r13.2 v0 (1 : Int32) (kI r13.2 v0 2) n16 c21
            refine x_callV (q := 62) (as := [.int (1 : Int32), .int (kI r13.2 v0 2)]) (rest := []) dX12_qFact_59 rfl kc_RX12_260 kh_X12_fail (by decide) (Nat.le_of_ble_eq_true rfl) m22 (ci := 12) (by exact ⟨rfl, by decide⟩) (k243 g1 (by decide) n16) ?_
            have n23 : (r20).1 = 243 := m22.1.full n16
            cases H
            exact x_end ⟨dX12_qFact_62, rfl, rfl⟩
    · refine x_if_eq_f (q := 29) dX12_qFact_26 (t := 30) (by decide) rfl g12 ?_
      cases H
      exact x_end ⟨dX12_qFact_29, rfl, rfl⟩
  · refine x_if_eq_f (q := 11) dX12_qFact_8 (t := 18) (by decide) rfl g7 ?_
    refine x_aload_n (q := 12) dX12_qFact_11 rfl rfl ?_
    refine x_bipush (q := 14) (v := (13 : Int32)) dX12_qFact_12 rfl (by decide) ?_
    replace H := kbe H; obtain ⟨r24, c25, H⟩ := H
    have m26 := s_X12_qCode (Z := Z) r3.2 v0 (13 : Int32) n6 c25
    refine x_callV (q := 17) (as := [.int (13 : Int32)]) (rest := []) dX12_qFact_14 rfl kc_RX12_550 kh_X12_qCode (by decide) (Nat.le_of_ble_eq_true rfl) m26 (ci := 12) (by exact ⟨rfl, by decide⟩) (k243 g1 (by decide) n6) ?_
    have n27 : (r24).1 = 243 := m26.1.full n6
    cases H
    exact x_end ⟨dX12_qFact_17, rfl, rfl⟩
theorem s_X12_qFact {Z : Nat → (Nat → Nat) → State → Prop} (h : KH) (v0 : Nat) {t : KH} (hn : h.1 = 243) (H : f_X12_qFact h v0 = some t) : KM Z yX12_qFact cX12_qFact 2 none 8 [.ref v0] h none t :=
  kx_v (own := RX12) (ini := false) (by decide +kernel) (by decide +kernel) rfl (Nat.le_of_ble_eq_true rfl) (s0_X12_qFact h v0 hn H)
theorem dX12_qDropsNots_0 : decode cX12_qDropsNots 0 = .ok (.aload_n 0, 1) := by decide +kernel
theorem dX12_qDropsNots_1 : decode cX12_qDropsNots 1 = .ok (.getfield 230, 3) := by decide +kernel
theorem dX12_qDropsNots_4 : decode cX12_qDropsNots 4 = .ok (.ifCond .ne 29, 3) := by decide +kernel
theorem dX12_qDropsNots_7 : decode cX12_qDropsNots 7 = .ok (.aload_n 0, 1) := by decide +kernel
theorem dX12_qDropsNots_8 : decode cX12_qDropsNots 8 = .ok (.bipush 12, 2) := by decide +kernel
theorem dX12_qDropsNots_10 : decode cX12_qDropsNots 10 = .ok (.invokevirtual 583, 3) := by decide +kernel
theorem dX12_qDropsNots_13 : decode cX12_qDropsNots 13 = .ok (.ifCond .eq 20, 3) := by decide +kernel
theorem dX12_qDropsNots_16 : decode cX12_qDropsNots 16 = .ok (.aload_n 0, 1) := by decide +kernel
theorem dX12_qDropsNots_17 : decode cX12_qDropsNots 17 = .ok (.dup, 1) := by decide +kernel
theorem dX12_qDropsNots_18 : decode cX12_qDropsNots 18 = .ok (.getfield 318, 3) := by decide +kernel
theorem dX12_qDropsNots_21 : decode cX12_qDropsNots 21 = .ok (.iconst 1, 1) := by decide +kernel
theorem dX12_qDropsNots_22 : decode cX12_qDropsNots 22 = .ok (.isub, 1) := by decide +kernel
theorem dX12_qDropsNots_23 : decode cX12_qDropsNots 23 = .ok (.putfield 318, 3) := by decide +kernel
theorem dX12_qDropsNots_26 : decode cX12_qDropsNots 26 = .ok (.aload_n 0, 1) := by decide +kernel
theorem dX12_qDropsNots_27 : decode cX12_qDropsNots 27 = .ok (.invokevirtual 556, 3) := by decide +kernel
theorem dX12_qDropsNots_30 : decode cX12_qDropsNots 30 = .ok (.goto (-30), 3) := by decide +kernel
theorem dX12_qDropsNots_33 : decode cX12_qDropsNots 33 = .ok (.return_, 1) := by decide +kernel
def E_X12_qDropsNots_l0 (v0 : Nat) : KH → Nat → List (Nat × Value) → List Value → KH → Prop := fun (e : KH) pc ls st hh => pc = 33 ∧ ls = [] ∧ st = [] ∧ e = hh
def B_X12_qDropsNots_l0 (v0 : Nat) : ((KH) ⊕ (KH)) → Nat → List (Nat × Value) → List Value → KH → Prop := Sum.elim (fun (s : KH) pc ls st hh => pc = 0 ∧ ls = [(0, .ref v0)] ∧ st = [] ∧ hh = s) (E_X12_qDropsNots_l0 v0)
def f_X12_qDropsNots_l0 (v0 : Nat) (s : KH) : Option ((KH) ⊕ (KH)) :=
  if kkind v0 = 12 then if (kI s v0 5) = 0 then
  kb (f_X12_qIsOn s v0 (12 : Int32)) fun r3 =>
  if r3 = 0 then
  some (.inr s)
  else
  kl (ksI s v0 89 ((kI s v0 89) - (1 : Int32))) fun h7 =>
  kb (f_X12_qDrops h7 v0) fun r10 =>
  some (.inl r10)
  else
  some (.inr s) else none
set_option maxHeartbeats 4000000 in
set_option maxRecDepth 100000 in
theorem s_X12_qDropsNots_l0 {Z : Nat → (Nat → Nat) → State → Prop} (v0 : Nat) (s : KH) (t : (KH) ⊕ (KH)) (hn : (s).1 = 243) (H : f_X12_qDropsNots_l0 v0 s = some t) : KX Z RX12 cX12_qDropsNots 1 false 3 (B_X12_qDropsNots_l0 v0 t) 0 [(0, .ref v0)] [] s := by
  unfold f_X12_qDropsNots_l0 at H
  refine x_aload_n (q := 1) dX12_qDropsNots_0 rfl rfl ?_
  replace H := kif H; obtain ⟨g1, H⟩ := H
  refine x_getI (q := 4) dX12_qDropsNots_1 rfl kl_RX12_230 (Or.inl rfl) (k243 g1 (by decide) hn) ?_
  replace H := kite H; rcases H with ⟨g2, H⟩ | ⟨g2, H⟩
  · refine x_if_ne_f (q := 7) dX12_qDropsNots_4 (t := 33) (by decide) rfl g2 ?_
    refine x_aload_n (q := 8) dX12_qDropsNots_7 rfl rfl ?_
    refine x_bipush (q := 10) (v := (12 : Int32)) dX12_qDropsNots_8 rfl (by decide) ?_
    replace H := kbe H; obtain ⟨r3, c4, H⟩ := H
    have m5 := s_X12_qIsOn (Z := Z) s v0 (12 : Int32) hn c4
    refine x_callV (q := 13) (as := [.int (12 : Int32)]) (rest := []) dX12_qDropsNots_10 rfl kc_RX12_583 kh_X12_qIsOn (by decide) (Nat.le_of_ble_eq_true rfl) m5 (ci := 12) (by exact ⟨rfl, by decide⟩) (k243 g1 (by decide) hn) ?_
    replace H := kite H; rcases H with ⟨g6, H⟩ | ⟨g6, H⟩
    · refine x_if_eq_t dX12_qDropsNots_13 (q := 33) (by decide) g6 ?_
      cases H
      refine x_sub (ls2 := []) [] rfl ?_
      exact x_end (x_cfg rfl)
    · refine x_if_eq_f (q := 16) dX12_qDropsNots_13 (t := 33) (by decide) rfl g6 ?_
      refine x_aload_n (q := 17) dX12_qDropsNots_16 rfl rfl ?_
      refine x_dup (q := 18) dX12_qDropsNots_17 rfl rfl ?_
      refine x_getI (q := 21) dX12_qDropsNots_18 rfl kl_RX12_318 (Or.inl rfl) (k243 g1 (by decide) hn) ?_
      refine x_iconst (q := 22) (v := (1 : Int32)) dX12_qDropsNots_21 rfl (by decide) ?_
      refine x_isub (q := 23) dX12_qDropsNots_22 rfl ?_
      replace H := kle H; obtain ⟨h7, q8, H⟩ := H
      refine x_putI (q := 26) dX12_qDropsNots_23 rfl kl_RX12_318 (Or.inl rfl) rfl (k243 g1 (by decide) hn) ?_
      refine x_nmH q8 ?_
      have n9 : h7.1 = 243 := by rw [q8]; exact hn
      refine x_aload_n (q := 27) dX12_qDropsNots_26 rfl rfl ?_
      replace H := kbe H; obtain ⟨r10, c11, H⟩ := H
      have m12 := s_X12_qDrops (Z := Z) h7 v0 n9 c11
      refine x_callV (q := 30) (as := []) (rest := []) dX12_qDropsNots_27 rfl kc_RX12_556 kh_X12_qDrops (by decide) (Nat.le_of_ble_eq_true rfl) m12 (ci := 12) (by exact ⟨rfl, by decide⟩) (k243 g1 (by decide) n9) ?_
      have n13 : (r10).1 = 243 := m12.1.full n9
      refine x_goto dX12_qDropsNots_30 (q := 0) (by decide) ?_
      cases H
      refine x_sub (ls2 := [(0, .ref v0)]) [0] rfl ?_
      exact x_end (x_cfg rfl)
  · refine x_if_ne_t dX12_qDropsNots_4 (q := 33) (by decide) g2 ?_
    cases H
    refine x_sub (ls2 := []) [] rfl ?_
    exact x_end (x_cfg rfl)
theorem sl_X12_qDropsNots_l0 {Z : Nat → (Nat → Nat) → State → Prop} (v0 : Nat) (n : Nat) (s : KH) (r : KH) (hn : (s).1 = 243) (H : kloop (f_X12_qDropsNots_l0 v0) n s = some r) : KX Z RX12 cX12_qDropsNots 1 false 3 (E_X12_qDropsNots_l0 v0 r) 0 [(0, .ref v0)] [] s :=
  k_loop (ls := (fun (s : KH) => ([(0, .ref v0)] : List (Nat × Value)))) (hp := (fun (s : KH) => (s : KH))) (G := E_X12_qDropsNots_l0 v0) (fun s t hn H => s_X12_qDropsNots_l0 v0 s t hn H) n s r hn H
def f_X12_qDropsNots (h : KH) (v0 : Nat) : Option (KH) :=
  kb (kloop (f_X12_qDropsNots_l0 v0) KF h) fun e1 =>
  some e1
set_option maxHeartbeats 4000000 in
set_option maxRecDepth 100000 in
theorem s0_X12_qDropsNots {Z : Nat → (Nat → Nat) → State → Prop} (h : KH) (v0 : Nat) {t : KH} (hn : h.1 = 243) (H : f_X12_qDropsNots h v0 = some t) : KX Z RX12 cX12_qDropsNots 1 false 3 (KRv cX12_qDropsNots t) 0 [(0, .ref v0)] [] h := by
  unfold f_X12_qDropsNots at H
  refine x_sub (ls2 := [(0, .ref v0)]) [0] rfl ?_
  replace H := kbe H; obtain ⟨e1, c2, H⟩ := H
  refine x_app (sl_X12_qDropsNots_l0 v0 KF h e1 hn c2) fun pc2 ls2 st2 h2 hg m3 => ?_
  obtain ⟨rfl, rfl, rfl, rfl⟩ := hg
  cases H
  exact x_end ⟨dX12_qDropsNots_33, rfl, rfl⟩
theorem s_X12_qDropsNots {Z : Nat → (Nat → Nat) → State → Prop} (h : KH) (v0 : Nat) {t : KH} (hn : h.1 = 243) (H : f_X12_qDropsNots h v0 = some t) : KM Z yX12_qDropsNots cX12_qDropsNots 1 none 3 [.ref v0] h none t :=
  kx_v (own := RX12) (ini := false) (by decide +kernel) (by decide +kernel) rfl (Nat.le_of_ble_eq_true rfl) (s0_X12_qDropsNots h v0 hn H)
