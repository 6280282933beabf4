def E_L_law_l18 (v0 : Nat) (v1 : Nat) (v2 : Nat) : ((KH) ⊕ (Int32 × KH)) → Nat → List (Nat × Value) → List Value → KH → Prop := Sum.elim (fun (e : KH) pc ls st hh => pc = 1125 ∧ ls = [] ∧ st = [] ∧ e = hh) (fun o => (KRz cL_law o.1 o.2))
def B_L_law_l18 (v0 : Nat) (v1 : Nat) (v2 : Nat) : ((Int32 × KH) ⊕ ((KH) ⊕ (Int32 × KH))) → Nat → List (Nat × Value) → List Value → KH → Prop := Sum.elim (fun (s : Int32 × KH) pc ls st hh => pc = 18 ∧ ls = [(0, .ref v0), (1, .ref v1), (2, .ref v2), (3, .int s.1)] ∧ st = [] ∧ hh = s.2) (E_L_law_l18 v0 v1 v2)
set_option maxHeartbeats 8000000 in
set_option maxRecDepth 100000 in
def f_L_law_b1119 (xs : Nat → Int32) (L : Nat) (h : KH) (v0 : Nat) (v1 : Nat) (v2 : Nat) (v3 : Int32) : Option ((Int32 × KH) ⊕ ((KH) ⊕ (Int32 × KH))) :=
  kl (v3 + (6 : Int32)) fun x1 =>
  some (.inl (x1, h))
set_option maxHeartbeats 4000000 in
set_option maxRecDepth 100000 in
theorem s_L_law_b1119 (xs : Nat → Int32) (L : Nat) (h : KH) (v0 : Nat) (v1 : Nat) (v2 : Nat) (v3 : Int32) {t : (Int32 × KH) ⊕ ((KH) ⊕ (Int32 × KH))} (hn : h.1 = 243) (H : f_L_law_b1119 xs L h v0 v1 v2 v3 = some t) : KX (KZs xs L) RL cL_law 4 false 223 (B_L_law_l18 v0 v1 v2 t) 1119 [(0, .ref v0), (1, .ref v1), (2, .ref v2), (3, .int v3)] [] h := by
  unfold f_L_law_b1119 at H
  replace H := kle H; obtain ⟨x1, q2, H⟩ := H
  refine x_iinc (q := 1122) (i := 3) (ls2 := [(3, .int x1), (0, .ref v0), (1, .ref v1), (2, .ref v2)]) dL_law_1119 rfl rfl (by decide) (by rw [q2]; rfl) ?_
  refine x_goto dL_law_1122 (q := 18) (by decide) ?_
  cases H
  refine x_sub (ls2 := [(0, .ref v0), (1, .ref v1), (2, .ref v2), (3, .int x1)]) [1, 2, 3, 0] rfl ?_
  exact x_end (x_cfg rfl)
set_option maxHeartbeats 8000000 in
set_option maxRecDepth 100000 in
def f_L_law_l18 (xs : Nat → Int32) (L : Nat) (v0 : Nat) (v1 : Nat) (v2 : Nat) (s : Int32 × KH) : Option ((Int32 × KH) ⊕ ((KH) ⊕ (Int32 × KH))) :=
  if v0 = 1000030 then if ((Int32.ofNat L) - (6 : Int32)) < s.1 then
  some (.inr (.inl s.2))
  else
  if ¬ (s.1 < 0 ∨ L ≤ (s.1).toNatClampNeg) then if ((xs ((s.1).toNatClampNeg)) &&& (63 : Int32)) = (0 : Int32) then
  if ¬ ((s.1 + (1 : Int32)) < 0 ∨ L ≤ ((s.1 + (1 : Int32))).toNatClampNeg) then if ¬ ((s.1 + (2 : Int32)) < 0 ∨ L ≤ ((s.1 + (2 : Int32))).toNatClampNeg) then if ¬ ((s.1 + (3 : Int32)) < 0 ∨ L ≤ ((s.1 + (3 : Int32))).toNatClampNeg) then if ¬ ((s.1 + (4 : Int32)) < 0 ∨ L ≤ ((s.1 + (4 : Int32))).toNatClampNeg) then if ¬ ((s.1 + (5 : Int32)) < 0 ∨ L ≤ ((s.1 + (5 : Int32))).toNatClampNeg) then if kkind v1 = 11 then kb (f_X11_feed s.2 v1 (xs (((s.1 + (1 : Int32))).toNatClampNeg)) (xs (((s.1 + (2 : Int32))).toNatClampNeg)) (xs (((s.1 + (3 : Int32))).toNatClampNeg)) (xs (((s.1 + (4 : Int32))).toNatClampNeg)) (xs (((s.1 + (5 : Int32))).toNatClampNeg))) fun r11 =>
  if kkind v2 = 12 then kb (f_X12_feed r11.2 v2 (xs (((s.1 + (1 : Int32))).toNatClampNeg)) (xs (((s.1 + (2 : Int32))).toNatClampNeg)) (xs (((s.1 + (3 : Int32))).toNatClampNeg)) (xs (((s.1 + (4 : Int32))).toNatClampNeg)) (xs (((s.1 + (5 : Int32))).toNatClampNeg))) fun r16 =>
  if r11.1 = r16.1 then
  f_L_law_b1119 xs L r16.2 v0 v1 v2 s.1
  else
  kout2 (some ((0 : Int32), r16.2)) else none else none else none else none else none else none else none
  else if ((xs ((s.1).toNatClampNeg)) &&& (63 : Int32)) = (1 : Int32) then
  if ¬ ((s.1 + (1 : Int32)) < 0 ∨ L ≤ ((s.1 + (1 : Int32))).toNatClampNeg) then if kkind v1 = 11 then kb (f_X11_end s.2 v1 (xs (((s.1 + (1 : Int32))).toNatClampNeg))) fun r25 =>
  if kkind v2 = 12 then kb (f_X12_end r25.2 v2 (xs (((s.1 + (1 : Int32))).toNatClampNeg))) fun r30 =>
  if r25.1 = r30.1 then
  f_L_law_b1119 xs L r30.2 v0 v1 v2 s.1
  else
  kout2 (some ((0 : Int32), r30.2)) else none else none else none
  else if ((xs ((s.1).toNatClampNeg)) &&& (63 : Int32)) = (2 : Int32) then
  if kkind v1 = 11 then kb (f_X11_court s.2 v1) fun r38 =>
  if kkind v2 = 12 then kb (f_X12_court r38.2 v2) fun r43 =>
  if r38.1 = r43.1 then
  f_L_law_b1119 xs L r43.2 v0 v1 v2 s.1
  else
  kout2 (some ((0 : Int32), r43.2)) else none else none
  else if ((xs ((s.1).toNatClampNeg)) &&& (63 : Int32)) = (3 : Int32) then
  if ¬ ((s.1 + (1 : Int32)) < 0 ∨ L ≤ ((s.1 + (1 : Int32))).toNatClampNeg) then if kkind v1 = 11 then kb (f_X11_fault s.2 v1 (xs (((s.1 + (1 : Int32))).toNatClampNeg))) fun r52 =>
  if kkind v2 = 12 then kb (f_X12_fault s.2 v2 (xs (((s.1 + (1 : Int32))).toNatClampNeg))) fun r56 =>
  if r52 = r56 then
  f_L_law_b1119 xs L s.2 v0 v1 v2 s.1
  else
  kout2 (some ((0 : Int32), s.2)) else none else none else none
  else if ((xs ((s.1).toNatClampNeg)) &&& (63 : Int32)) = (4 : Int32) then
  if ¬ ((s.1 + (1 : Int32)) < 0 ∨ L ≤ ((s.1 + (1 : Int32))).toNatClampNeg) then if kkind v1 = 11 then kb (f_X11_has s.2 v1 (xs (((s.1 + (1 : Int32))).toNatClampNeg))) fun r64 =>
  if kkind v2 = 12 then kb (f_X12_has s.2 v2 (xs (((s.1 + (1 : Int32))).toNatClampNeg))) fun r68 =>
  if r64 = r68 then
  f_L_law_b1119 xs L s.2 v0 v1 v2 s.1
  else
  kout2 (some ((0 : Int32), s.2)) else none else none else none
  else if ((xs ((s.1).toNatClampNeg)) &&& (63 : Int32)) = (5 : Int32) then
  if ¬ ((s.1 + (1 : Int32)) < 0 ∨ L ≤ ((s.1 + (1 : Int32))).toNatClampNeg) then if ¬ ((s.1 + (2 : Int32)) < 0 ∨ L ≤ ((s.1 + (2 : Int32))).toNatClampNeg) then if ¬ ((s.1 + (3 : Int32)) < 0 ∨ L ≤ ((s.1 + (3 : Int32))).toNatClampNeg) then if kkind v1 = 11 then kb (f_X11_letter s.2 v1 (xs (((s.1 + (1 : Int32))).toNatClampNeg)) (xs (((s.1 + (2 : Int32))).toNatClampNeg)) (xs (((s.1 + (3 : Int32))).toNatClampNeg))) fun r78 =>
  if kkind v2 = 12 then kb (f_X12_letter s.2 v2 (xs (((s.1 + (1 : Int32))).toNatClampNeg)) (xs (((s.1 + (2 : Int32))).toNatClampNeg)) (xs (((s.1 + (3 : Int32))).toNatClampNeg))) fun r82 =>
  if r78 = r82 then
  f_L_law_b1119 xs L s.2 v0 v1 v2 s.1
  else
  kout2 (some ((0 : Int32), s.2)) else none else none else none else none else none
  else if ((xs ((s.1).toNatClampNeg)) &&& (63 : Int32)) = (6 : Int32) then
  if ¬ ((s.1 + (1 : Int32)) < 0 ∨ L ≤ ((s.1 + (1 : Int32))).toNatClampNeg) then if ¬ ((s.1 + (2 : Int32)) < 0 ∨ L ≤ ((s.1 + (2 : Int32))).toNatClampNeg) then if kkind v1 = 11 then kb (f_X11_kind s.2 v1 (xs (((s.1 + (1 : Int32))).toNatClampNeg)) (xs (((s.1 + (2 : Int32))).toNatClampNeg))) fun r91 =>
  if kkind v2 = 12 then kb (f_X12_kind s.2 v2 (xs (((s.1 + (1 : Int32))).toNatClampNeg)) (xs (((s.1 + (2 : Int32))).toNatClampNeg))) fun r95 =>
  if r91 = r95 then
  f_L_law_b1119 xs L s.2 v0 v1 v2 s.1
  else
  kout2 (some ((0 : Int32), s.2)) else none else none else none else none
  else if ((xs ((s.1).toNatClampNeg)) &&& (63 : Int32)) = (7 : Int32) then
  if ¬ ((s.1 + (1 : Int32)) < 0 ∨ L ≤ ((s.1 + (1 : Int32))).toNatClampNeg) then if ¬ ((s.1 + (2 : Int32)) < 0 ∨ L ≤ ((s.1 + (2 : Int32))).toNatClampNeg) then if kkind v1 = 11 then kb (f_X11_test s.2 v1 (xs (((s.1 + (1 : Int32))).toNatClampNeg)) (xs (((s.1 + (2 : Int32))).toNatClampNeg))) fun r104 =>
  if kkind v2 = 12 then kb (f_X12_test s.2 v2 (xs (((s.1 + (1 : Int32))).toNatClampNeg)) (xs (((s.1 + (2 : Int32))).toNatClampNeg))) fun r108 =>
  if r104 = r108 then
  f_L_law_b1119 xs L s.2 v0 v1 v2 s.1
  else
  kout2 (some ((0 : Int32), s.2)) else none else none else none else none
  else if ((xs ((s.1).toNatClampNeg)) &&& (63 : Int32)) = (8 : Int32) then
  if ¬ ((s.1 + (1 : Int32)) < 0 ∨ L ≤ ((s.1 + (1 : Int32))).toNatClampNeg) then if ¬ ((s.1 + (2 : Int32)) < 0 ∨ L ≤ ((s.1 + (2 : Int32))).toNatClampNeg) then if kkind v1 = 11 then kb (f_X11_mark s.2 v1 (xs (((s.1 + (1 : Int32))).toNatClampNeg)) (xs (((s.1 + (2 : Int32))).toNatClampNeg))) fun r117 =>
  if kkind v2 = 12 then kb (f_X12_mark s.2 v2 (xs (((s.1 + (1 : Int32))).toNatClampNeg)) (xs (((s.1 + (2 : Int32))).toNatClampNeg))) fun r121 =>
  if r117 = r121 then
  f_L_law_b1119 xs L s.2 v0 v1 v2 s.1
  else
  kout2 (some ((0 : Int32), s.2)) else none else none else none else none
  else if ((xs ((s.1).toNatClampNeg)) &&& (63 : Int32)) = (9 : Int32) then
  if ¬ ((s.1 + (1 : Int32)) < 0 ∨ L ≤ ((s.1 + (1 : Int32))).toNatClampNeg) then if ¬ ((s.1 + (2 : Int32)) < 0 ∨ L ≤ ((s.1 + (2 : Int32))).toNatClampNeg) then if ¬ ((s.1 + (3 : Int32)) < 0 ∨ L ≤ ((s.1 + (3 : Int32))).toNatClampNeg) then if kkind v1 = 11 then kb (f_X11_yields s.2 v1 (xs (((s.1 + (1 : Int32))).toNatClampNeg)) (xs (((s.1 + (2 : Int32))).toNatClampNeg)) (xs (((s.1 + (3 : Int32))).toNatClampNeg))) fun r131 =>
  if kkind v2 = 12 then kb (f_X12_yields r131.2 v2 (xs (((s.1 + (1 : Int32))).toNatClampNeg)) (xs (((s.1 + (2 : Int32))).toNatClampNeg)) (xs (((s.1 + (3 : Int32))).toNatClampNeg))) fun r136 =>
  if r131.1 = r136.1 then
  f_L_law_b1119 xs L r136.2 v0 v1 v2 s.1
  else
  kout2 (some ((0 : Int32), r136.2)) else none else none else none else none else none
  else if ((xs ((s.1).toNatClampNeg)) &&& (63 : Int32)) = (10 : Int32) then
  if ¬ ((s.1 + (1 : Int32)) < 0 ∨ L ≤ ((s.1 + (1 : Int32))).toNatClampNeg) then if ¬ ((s.1 + (2 : Int32)) < 0 ∨ L ≤ ((s.1 + (2 : Int32))).toNatClampNeg) then if kkind v1 = 11 then kb (f_X11_kept s.2 v1 (xs (((s.1 + (1 : Int32))).toNatClampNeg)) (xs (((s.1 + (2 : Int32))).toNatClampNeg))) fun r146 =>
  if kkind v2 = 12 then kb (f_X12_kept s.2 v2 (xs (((s.1 + (1 : Int32))).toNatClampNeg)) (xs (((s.1 + (2 : Int32))).toNatClampNeg))) fun r150 =>
  if r146 = r150 then
  f_L_law_b1119 xs L s.2 v0 v1 v2 s.1
  else
  kout2 (some ((0 : Int32), s.2)) else none else none else none else none
  else if ((xs ((s.1).toNatClampNeg)) &&& (63 : Int32)) = (11 : Int32) then
  if ¬ ((s.1 + (1 : Int32)) < 0 ∨ L ≤ ((s.1 + (1 : Int32))).toNatClampNeg) then if ¬ ((s.1 + (2 : Int32)) < 0 ∨ L ≤ ((s.1 + (2 : Int32))).toNatClampNeg) then if ¬ ((s.1 + (3 : Int32)) < 0 ∨ L ≤ ((s.1 + (3 : Int32))).toNatClampNeg) then if kkind v1 = 11 then kb (f_X11_weight s.2 v1 (xs (((s.1 + (1 : Int32))).toNatClampNeg)) (xs (((s.1 + (2 : Int32))).toNatClampNeg)) (xs (((s.1 + (3 : Int32))).toNatClampNeg))) fun r160 =>
  if kkind v2 = 12 then kb (f_X12_weight r160.2 v2 (xs (((s.1 + (1 : Int32))).toNatClampNeg)) (xs (((s.1 + (2 : Int32))).toNatClampNeg)) (xs (((s.1 + (3 : Int32))).toNatClampNeg))) fun r165 =>
  if (lg_cmp r160.1 r165.1) = 0 then
  f_L_law_b1119 xs L r165.2 v0 v1 v2 s.1
  else
  kout2 (some ((0 : Int32), r165.2)) else none else none else none else none else none
  else if ((xs ((s.1).toNatClampNeg)) &&& (63 : Int32)) = (12 : Int32) then
  if ¬ ((s.1 + (1 : Int32)) < 0 ∨ L ≤ ((s.1 + (1 : Int32))).toNatClampNeg) then if kkind v1 = 11 then kb (f_X11_odds s.2 v1 (xs (((s.1 + (1 : Int32))).toNatClampNeg))) fun r174 =>
  if kkind v2 = 12 then kb (f_X12_odds r174.2 v2 (xs (((s.1 + (1 : Int32))).toNatClampNeg))) fun r179 =>
  if r174.1 = r179.1 then
  f_L_law_b1119 xs L r179.2 v0 v1 v2 s.1
  else
  kout2 (some ((0 : Int32), r179.2)) else none else none else none
  else if ((xs ((s.1).toNatClampNeg)) &&& (63 : Int32)) = (13 : Int32) then
  if ¬ ((s.1 + (1 : Int32)) < 0 ∨ L ≤ ((s.1 + (1 : Int32))).toNatClampNeg) then if ¬ ((s.1 + (2 : Int32)) < 0 ∨ L ≤ ((s.1 + (2 : Int32))).toNatClampNeg) then if kkind v1 = 11 then kb (f_X11_kinds s.2 v1 (xs (((s.1 + (1 : Int32))).toNatClampNeg)) (xs (((s.1 + (2 : Int32))).toNatClampNeg))) fun r189 =>
  if kkind v2 = 12 then kb (f_X12_kinds r189.2 v2 (xs (((s.1 + (1 : Int32))).toNatClampNeg)) (xs (((s.1 + (2 : Int32))).toNatClampNeg))) fun r194 =>
  if r189.1 = r194.1 then
  f_L_law_b1119 xs L r194.2 v0 v1 v2 s.1
  else
  kout2 (some ((0 : Int32), r194.2)) else none else none else none else none
  else if ((xs ((s.1).toNatClampNeg)) &&& (63 : Int32)) = (14 : Int32) then
  if ¬ ((s.1 + (1 : Int32)) < 0 ∨ L ≤ ((s.1 + (1 : Int32))).toNatClampNeg) then if ¬ ((s.1 + (2 : Int32)) < 0 ∨ L ≤ ((s.1 + (2 : Int32))).toNatClampNeg) then if kkind v1 = 11 then kb (f_X11_would s.2 v1 (xs (((s.1 + (1 : Int32))).toNatClampNeg)) (xs (((s.1 + (2 : Int32))).toNatClampNeg))) fun r204 =>
  if kkind v2 = 12 then kb (f_X12_would r204.2 v2 (xs (((s.1 + (1 : Int32))).toNatClampNeg)) (xs (((s.1 + (2 : Int32))).toNatClampNeg))) fun r209 =>
  if r204.1 = r209.1 then
  f_L_law_b1119 xs L r209.2 v0 v1 v2 s.1
  else
  kout2 (some ((0 : Int32), r209.2)) else none else none else none else none
  else if ((xs ((s.1).toNatClampNeg)) &&& (63 : Int32)) = (15 : Int32) then
  if ¬ ((s.1 + (1 : Int32)) < 0 ∨ L ≤ ((s.1 + (1 : Int32))).toNatClampNeg) then if kkind v1 = 11 then kb (f_X11_merit s.2 v1 (xs (((s.1 + (1 : Int32))).toNatClampNeg))) fun r218 =>
  if kkind v2 = 12 then kb (f_X12_merit r218.2 v2 (xs (((s.1 + (1 : Int32))).toNatClampNeg))) fun r223 =>
  if (lg_cmp r218.1 r223.1) = 0 then
  f_L_law_b1119 xs L r223.2 v0 v1 v2 s.1
  else
  kout2 (some ((0 : Int32), r223.2)) else none else none else none
  else if ((xs ((s.1).toNatClampNeg)) &&& (63 : Int32)) = (16 : Int32) then
  if kkind v1 = 11 then kb (f_X11_best s.2 v1) fun r231 =>
  if kkind v2 = 12 then kb (f_X12_best r231.2 v2) fun r236 =>
  if r231.1 = r236.1 then
  f_L_law_b1119 xs L r236.2 v0 v1 v2 s.1
  else
  kout2 (some ((0 : Int32), r236.2)) else none else none
  else if ((xs ((s.1).toNatClampNeg)) &&& (63 : Int32)) = (17 : Int32) then
  if ¬ ((s.1 + (1 : Int32)) < 0 ∨ L ≤ ((s.1 + (1 : Int32))).toNatClampNeg) then if ¬ ((s.1 + (2 : Int32)) < 0 ∨ L ≤ ((s.1 + (2 : Int32))).toNatClampNeg) then if kkind v1 = 11 then kb (f_X11_parts s.2 v1 (xs (((s.1 + (1 : Int32))).toNatClampNeg)) (xs (((s.1 + (2 : Int32))).toNatClampNeg))) fun r246 =>
  if kkind v2 = 12 then kb (f_X12_parts r246.2 v2 (xs (((s.1 + (1 : Int32))).toNatClampNeg)) (xs (((s.1 + (2 : Int32))).toNatClampNeg))) fun r251 =>
  if r246.1 = r251.1 then
  f_L_law_b1119 xs L r251.2 v0 v1 v2 s.1
  else
  kout2 (some ((0 : Int32), r251.2)) else none else none else none else none
  else if ((xs ((s.1).toNatClampNeg)) &&& (63 : Int32)) = (18 : Int32) then
  if ¬ ((s.1 + (1 : Int32)) < 0 ∨ L ≤ ((s.1 + (1 : Int32))).toNatClampNeg) then if kkind v1 = 11 then kb (f_X11_sure s.2 v1 (xs (((s.1 + (1 : Int32))).toNatClampNeg))) fun r260 =>
  if kkind v2 = 12 then kb (f_X12_sure r260.2 v2 (xs (((s.1 + (1 : Int32))).toNatClampNeg))) fun r265 =>
  if r260.1 = r265.1 then
  f_L_law_b1119 xs L r265.2 v0 v1 v2 s.1
  else
  kout2 (some ((0 : Int32), r265.2)) else none else none else none
  else if ((xs ((s.1).toNatClampNeg)) &&& (63 : Int32)) = (19 : Int32) then
  if ¬ ((s.1 + (1 : Int32)) < 0 ∨ L ≤ ((s.1 + (1 : Int32))).toNatClampNeg) then if ¬ ((s.1 + (2 : Int32)) < 0 ∨ L ≤ ((s.1 + (2 : Int32))).toNatClampNeg) then if kkind v1 = 11 then kb (f_X11_ahead s.2 v1 (xs (((s.1 + (1 : Int32))).toNatClampNeg)) (xs (((s.1 + (2 : Int32))).toNatClampNeg))) fun r275 =>
  if kkind v2 = 12 then kb (f_X12_ahead r275.2 v2 (xs (((s.1 + (1 : Int32))).toNatClampNeg)) (xs (((s.1 + (2 : Int32))).toNatClampNeg))) fun r280 =>
  if r275.1 = r280.1 then
  f_L_law_b1119 xs L r280.2 v0 v1 v2 s.1
  else
  kout2 (some ((0 : Int32), r280.2)) else none else none else none else none
  else if ((xs ((s.1).toNatClampNeg)) &&& (63 : Int32)) = (20 : Int32) then
  if ¬ ((s.1 + (1 : Int32)) < 0 ∨ L ≤ ((s.1 + (1 : Int32))).toNatClampNeg) then if ¬ ((s.1 + (2 : Int32)) < 0 ∨ L ≤ ((s.1 + (2 : Int32))).toNatClampNeg) then if kkind v1 = 11 then kb (f_X11_known s.2 v1 (xs (((s.1 + (1 : Int32))).toNatClampNeg)) (xs (((s.1 + (2 : Int32))).toNatClampNeg))) fun r290 =>
  if kkind v2 = 12 then kb (f_X12_known r290.2 v2 (xs (((s.1 + (1 : Int32))).toNatClampNeg)) (xs (((s.1 + (2 : Int32))).toNatClampNeg))) fun r295 =>
  if r290.1 = r295.1 then
  f_L_law_b1119 xs L r295.2 v0 v1 v2 s.1
  else
  kout2 (some ((0 : Int32), r295.2)) else none else none else none else none
  else if ((xs ((s.1).toNatClampNeg)) &&& (63 : Int32)) = (21 : Int32) then
  if kkind v1 = 11 then kb (f_X11_tell s.2 v1) fun r303 =>
  if kkind v2 = 12 then kb (f_X12_tell r303.2 v2) fun r308 =>
  if r303.1 = r308.1 then
  f_L_law_b1119 xs L r308.2 v0 v1 v2 s.1
  else
  kout2 (some ((0 : Int32), r308.2)) else none else none
  else if ((xs ((s.1).toNatClampNeg)) &&& (63 : Int32)) = (22 : Int32) then
  if kkind v1 = 11 then kb (f_X11_trick s.2 v1) fun r316 =>
  if kkind v2 = 12 then kb (f_X12_trick r316.2 v2) fun r321 =>
  if r316.1 = r321.1 then
  f_L_law_b1119 xs L r321.2 v0 v1 v2 s.1
  else
  kout2 (some ((0 : Int32), r321.2)) else none else none
  else if ((xs ((s.1).toNatClampNeg)) &&& (63 : Int32)) = (23 : Int32) then
  if ¬ ((s.1 + (1 : Int32)) < 0 ∨ L ≤ ((s.1 + (1 : Int32))).toNatClampNeg) then if ¬ ((s.1 + (2 : Int32)) < 0 ∨ L ≤ ((s.1 + (2 : Int32))).toNatClampNeg) then if ¬ ((s.1 + (3 : Int32)) < 0 ∨ L ≤ ((s.1 + (3 : Int32))).toNatClampNeg) then if kkind v1 = 11 then kb (f_X11_hear s.2 v1 (xs (((s.1 + (1 : Int32))).toNatClampNeg)) (xs (((s.1 + (2 : Int32))).toNatClampNeg)) (xs (((s.1 + (3 : Int32))).toNatClampNeg))) fun r332 =>
  if kkind v2 = 12 then kb (f_X12_hear r332.2 v2 (xs (((s.1 + (1 : Int32))).toNatClampNeg)) (xs (((s.1 + (2 : Int32))).toNatClampNeg)) (xs (((s.1 + (3 : Int32))).toNatClampNeg))) fun r337 =>
  if r332.1 = r337.1 then
  f_L_law_b1119 xs L r337.2 v0 v1 v2 s.1
  else
  kout2 (some ((0 : Int32), r337.2)) else none else none else none else none else none
  else if ((xs ((s.1).toNatClampNeg)) &&& (63 : Int32)) = (24 : Int32) then
  if ¬ ((s.1 + (1 : Int32)) < 0 ∨ L ≤ ((s.1 + (1 : Int32))).toNatClampNeg) then if ¬ ((s.1 + (2 : Int32)) < 0 ∨ L ≤ ((s.1 + (2 : Int32))).toNatClampNeg) then if ¬ ((s.1 + (3 : Int32)) < 0 ∨ L ≤ ((s.1 + (3 : Int32))).toNatClampNeg) then if kkind v1 = 11 then kb (f_X11_look s.2 v1 (xs (((s.1 + (1 : Int32))).toNatClampNeg)) (xs (((s.1 + (2 : Int32))).toNatClampNeg)) (xs (((s.1 + (3 : Int32))).toNatClampNeg))) fun r348 =>
  if kkind v2 = 12 then kb (f_X12_look r348.2 v2 (xs (((s.1 + (1 : Int32))).toNatClampNeg)) (xs (((s.1 + (2 : Int32))).toNatClampNeg)) (xs (((s.1 + (3 : Int32))).toNatClampNeg))) fun r353 =>
  if r348.1 = r353.1 then
  f_L_law_b1119 xs L r353.2 v0 v1 v2 s.1
  else
  kout2 (some ((0 : Int32), r353.2)) else none else none else none else none else none
  else if ((xs ((s.1).toNatClampNeg)) &&& (63 : Int32)) = (25 : Int32) then
  if ¬ ((s.1 + (1 : Int32)) < 0 ∨ L ≤ ((s.1 + (1 : Int32))).toNatClampNeg) then if kkind v1 = 11 then kb (f_X11_judge s.2 v1 (xs (((s.1 + (1 : Int32))).toNatClampNeg))) fun r362 =>
  if kkind v2 = 12 then kb (f_X12_judge r362.2 v2 (xs (((s.1 + (1 : Int32))).toNatClampNeg))) fun r367 =>
  if r362.1 = r367.1 then
  f_L_law_b1119 xs L r367.2 v0 v1 v2 s.1
  else
  kout2 (some ((0 : Int32), r367.2)) else none else none else none
  else if ((xs ((s.1).toNatClampNeg)) &&& (63 : Int32)) = (26 : Int32) then
  if ¬ ((s.1 + (1 : Int32)) < 0 ∨ L ≤ ((s.1 + (1 : Int32))).toNatClampNeg) then if kkind v1 = 11 then kb (f_X11_chance s.2 v1 (xs (((s.1 + (1 : Int32))).toNatClampNeg))) fun r376 =>
  if kkind v2 = 12 then kb (f_X12_chance r376.2 v2 (xs (((s.1 + (1 : Int32))).toNatClampNeg))) fun r381 =>
  if r376.1 = r381.1 then
  f_L_law_b1119 xs L r381.2 v0 v1 v2 s.1
  else
  kout2 (some ((0 : Int32), r381.2)) else none else none else none
  else if ((xs ((s.1).toNatClampNeg)) &&& (63 : Int32)) = (27 : Int32) then
  if kkind v1 = 11 then kb (f_X11_undo s.2 v1) fun r389 =>
  if kkind v2 = 12 then kb (f_X12_undo r389.2 v2) fun r394 =>
  if r389.1 = r394.1 then
  f_L_law_b1119 xs L r394.2 v0 v1 v2 s.1
  else
  kout2 (some ((0 : Int32), r394.2)) else none else none
  else if ((xs ((s.1).toNatClampNeg)) &&& (63 : Int32)) = (28 : Int32) then
  if ¬ ((s.1 + (1 : Int32)) < 0 ∨ L ≤ ((s.1 + (1 : Int32))).toNatClampNeg) then if kkind v1 = 11 then kb (f_X11_seed s.2 v1 (xs (((s.1 + (1 : Int32))).toNatClampNeg))) fun r403 =>
  if kkind v2 = 12 then kb (f_X12_seed r403.2 v2 (xs (((s.1 + (1 : Int32))).toNatClampNeg))) fun r408 =>
  if r403.1 = r408.1 then
  f_L_law_b1119 xs L r408.2 v0 v1 v2 s.1
  else
  kout2 (some ((0 : Int32), r408.2)) else none else none else none
  else if ((xs ((s.1).toNatClampNeg)) &&& (63 : Int32)) = (29 : Int32) then
  if kkind v1 = 11 then kb (f_X11_ask s.2 v1) fun r416 =>
  if kkind v2 = 12 then kb (f_X12_ask r416.2 v2) fun r421 =>
  if (lg_cmp r416.1 r421.1) = 0 then
  f_L_law_b1119 xs L r421.2 v0 v1 v2 s.1
  else
  kout2 (some ((0 : Int32), r421.2)) else none else none
  else if ((xs ((s.1).toNatClampNeg)) &&& (63 : Int32)) = (30 : Int32) then
  if kkind v1 = 11 then kb (f_X11_image s.2 v1) fun r429 =>
  if kkind v2 = 12 then kb (f_X12_image r429.2 v2) fun r434 =>
  if r429.1 = r434.1 then
  f_L_law_b1119 xs L r434.2 v0 v1 v2 s.1
  else
  kout2 (some ((0 : Int32), r434.2)) else none else none
  else if ((xs ((s.1).toNatClampNeg)) &&& (63 : Int32)) = (31 : Int32) then
  if ¬ ((s.1 + (1 : Int32)) < 0 ∨ L ≤ ((s.1 + (1 : Int32))).toNatClampNeg) then if kkind v1 = 11 then kb (f_X11_octet s.2 v1 (xs (((s.1 + (1 : Int32))).toNatClampNeg))) fun r443 =>
  if kkind v2 = 12 then kb (f_X12_octet s.2 v2 (xs (((s.1 + (1 : Int32))).toNatClampNeg))) fun r447 =>
  if r443 = r447 then
  f_L_law_b1119 xs L s.2 v0 v1 v2 s.1
  else
  kout2 (some ((0 : Int32), s.2)) else none else none else none
  else if ((xs ((s.1).toNatClampNeg)) &&& (63 : Int32)) = (32 : Int32) then
  if kkind v1 = 11 then kb (f_X11_on s.2 v1) fun r454 =>
  if kkind v2 = 12 then kb (f_X12_on r454.2 v2) fun r459 =>
  if r454.1 = r459.1 then
  f_L_law_b1119 xs L r459.2 v0 v1 v2 s.1
  else
  kout2 (some ((0 : Int32), r459.2)) else none else none
  else if ((xs ((s.1).toNatClampNeg)) &&& (63 : Int32)) = (33 : Int32) then
  if ¬ ((s.1 + (1 : Int32)) < 0 ∨ L ≤ ((s.1 + (1 : Int32))).toNatClampNeg) then if kkind v1 = 11 then kb (f_X11_status s.2 v1 (xs (((s.1 + (1 : Int32))).toNatClampNeg))) fun r468 =>
  if kkind v2 = 12 then kb (f_X12_status s.2 v2 (xs (((s.1 + (1 : Int32))).toNatClampNeg))) fun r472 =>
  if r468 = r472 then
  f_L_law_b1119 xs L s.2 v0 v1 v2 s.1
  else
  kout2 (some ((0 : Int32), s.2)) else none else none else none
  else 
  f_L_law_b1119 xs L s.2 v0 v1 v2 s.1 else none else none
set_option maxHeartbeats 4000000 in
set_option maxRecDepth 100000 in
theorem s_L_law_l18 (xs : Nat → Int32) (L : Nat) (v0 : Nat) (v1 : Nat) (v2 : Nat) (s : Int32 × KH) (t : (Int32 × KH) ⊕ ((KH) ⊕ (Int32 × KH))) (hn : (s.2).1 = 243) (H : f_L_law_l18 xs L v0 v1 v2 s = some t) : KX (KZs xs L) RL cL_law 4 false 223 (B_L_law_l18 v0 v1 v2 t) 18 [(0, .ref v0), (1, .ref v1), (2, .ref v2), (3, .int s.1)] [] s.2 := by
  unfold f_L_law_l18 at H
  refine x_iload_n (q := 19) dL_law_18 rfl rfl ?_
  refine x_aload_n (q := 20) dL_law_19 rfl rfl ?_
  replace H := kif H; obtain ⟨g1, H⟩ := H
  refine x_slen (q := 21) (L := L) (xs := xs) dL_law_20 rfl (by rw [g1]; decide) (fun base sA U hZ => by rw [g1]; exact hZ.2.2.2.1) ?_
  refine x_bipush (q := 23) (v := (6 : Int32)) dL_law_21 rfl (by decide) ?_
  refine x_isub (q := 24) dL_law_23 rfl ?_
  replace H := kite H; rcases H with ⟨g2, H⟩ | ⟨g2, H⟩
  · refine x_icmp_gt_t dL_law_24 (q := 1125) (by decide) g2 ?_
    cases H
    refine x_sub (ls2 := []) [] rfl ?_
    exact x_end (x_cfg rfl)
  · refine x_icmp_gt_f (q := 27) dL_law_24 (t := 1125) (by decide) rfl g2 ?_
    refine x_aload_n (q := 28) dL_law_27 rfl rfl ?_
    refine x_iload_n (q := 29) dL_law_28 rfl rfl ?_
    replace H := kif H; obtain ⟨g3, H⟩ := H
    refine x_sld (q := 30) (L := L) (xs := xs) dL_law_29 rfl (by rw [g1]; decide) (fun base sA U hZ => by rw [g1]; exact hZ.2.2.2.1) g3 ?_
    refine x_bipush (q := 32) (v := (63 : Int32)) dL_law_30 rfl (by decide) ?_
    refine x_iand (q := 33) dL_law_32 rfl ?_
    replace H := kite H; rcases H with ⟨g4, H⟩ | ⟨g4, H⟩
    · refine x_tableIn (v := (0 : Int32)) (off := 151) dL_law_33 g4 (by decide) (q := 184) (by decide) ?_
      refine x_aload_n (q := 185) dL_law_184 rfl rfl ?_
      refine x_aload_n (q := 186) dL_law_185 rfl rfl ?_
      refine x_iload_n (q := 187) dL_law_186 rfl rfl ?_
      refine x_iconst (q := 188) (v := (1 : Int32)) dL_law_187 rfl (by decide) ?_
      refine x_iadd (q := 189) dL_law_188 rfl ?_
      replace H := kif H; obtain ⟨g5, H⟩ := H
      refine x_sld (q := 190) (L := L) (xs := xs) dL_law_189 rfl (by rw [g1]; decide) (fun base sA U hZ => by rw [g1]; exact hZ.2.2.2.1) g5 ?_
      refine x_aload_n (q := 191) dL_law_190 rfl rfl ?_
      refine x_iload_n (q := 192) dL_law_191 rfl rfl ?_
      refine x_iconst (q := 193) (v := (2 : Int32)) dL_law_192 rfl (by decide) ?_
      refine x_iadd (q := 194) dL_law_193 rfl ?_
      replace H := kif H; obtain ⟨g6, H⟩ := H
      refine x_sld (q := 195) (L := L) (xs := xs) dL_law_194 rfl (by rw [g1]; decide) (fun base sA U hZ => by rw [g1]; exact hZ.2.2.2.1) g6 ?_
      refine x_aload_n (q := 196) dL_law_195 rfl rfl ?_
      refine x_iload_n (q := 197) dL_law_196 rfl rfl ?_
      refine x_iconst (q := 198) (v := (3 : Int32)) dL_law_197 rfl (by decide) ?_
      refine x_iadd (q := 199) dL_law_198 rfl ?_
      replace H := kif H; obtain ⟨g7, H⟩ := H
      refine x_sld (q := 200) (L := L) (xs := xs) dL_law_199 rfl (by rw [g1]; decide) (fun base sA U hZ => by rw [g1]; exact hZ.2.2.2.1) g7 ?_
      refine x_aload_n (q := 201) dL_law_200 rfl rfl ?_
      refine x_iload_n (q := 202) dL_law_201 rfl rfl ?_
      refine x_iconst (q := 203) (v := (4 : Int32)) dL_law_202 rfl (by decide) ?_
      refine x_iadd (q := 204) dL_law_203 rfl ?_
      replace H := kif H; obtain ⟨g8, H⟩ := H
      refine x_sld (q := 205) (L := L) (xs := xs) dL_law_204 rfl (by rw [g1]; decide) (fun base sA U hZ => by rw [g1]; exact hZ.2.2.2.1) g8 ?_
      refine x_aload_n (q := 206) dL_law_205 rfl rfl ?_
      refine x_iload_n (q := 207) dL_law_206 rfl rfl ?_
      refine x_iconst (q := 208) (v := (5 : Int32)) dL_law_207 rfl (by decide) ?_
      refine x_iadd (q := 209) dL_law_208 rfl ?_
      replace H := kif H; obtain ⟨g9, H⟩ := H
      refine x_sld (q := 210) (L := L) (xs := xs) dL_law_209 rfl (by rw [g1]; decide) (fun base sA U hZ => by rw [g1]; exact hZ.2.2.2.1) g9 ?_
      replace H := kif H; obtain ⟨g10, H⟩ := H
      replace H := kbe H; obtain ⟨r11, c12, H⟩ := H
      have m13 := s_X11_feed (Z := KZs xs L) s.2 v1 (xs (((s.1 + (1 : Int32))).toNatClampNeg)) (xs (((s.1 + (2 : Int32))).toNatClampNeg)) (xs (((s.1 + (3 : Int32))).toNatClampNeg)) (xs (((s.1 + (4 : Int32))).toNatClampNeg)) (xs (((s.1 + (5 : Int32))).toNatClampNeg)) hn c12
      refine x_callV (q := 213) (as := [.int (xs (((s.1 + (1 : Int32))).toNatClampNeg)), .int (xs (((s.1 + (2 : Int32))).toNatClampNeg)), .int (xs (((s.1 + (3 : Int32))).toNatClampNeg)), .int (xs (((s.1 + (4 : Int32))).toNatClampNeg)), .int (xs (((s.1 + (5 : Int32))).toNatClampNeg))]) (rest := []) dL_law_210 rfl kc_RL_13 kh_X11_feed (by decide) (Nat.le_of_ble_eq_true rfl) m13 (ci := 11) (by exact ⟨rfl, by decide⟩) (k243 g10 (by decide) hn) ?_
      have n14 : (r11.2).1 = 243 := m13.1.full hn
      refine x_aload_n (q := 214) dL_law_213 rfl rfl ?_
      refine x_aload_n (q := 215) dL_law_214 rfl rfl ?_
      refine x_iload_n (q := 216) dL_law_215 rfl rfl ?_
      refine x_iconst (q := 217) (v := (1 : Int32)) dL_law_216 rfl (by decide) ?_
      refine x_iadd (q := 218) dL_law_217 rfl ?_
      refine x_sld (q := 219) (L := L) (xs := xs) dL_law_218 rfl (by rw [g1]; decide) (fun base sA U hZ => by rw [g1]; exact hZ.2.2.2.1) g5 ?_
      refine x_aload_n (q := 220) dL_law_219 rfl rfl ?_
      refine x_iload_n (q := 221) dL_law_220 rfl rfl ?_
      refine x_iconst (q := 222) (v := (2 : Int32)) dL_law_221 rfl (by decide) ?_
      refine x_iadd (q := 223) dL_law_222 rfl ?_
      refine x_sld (q := 224) (L := L) (xs := xs) dL_law_223 rfl (by rw [g1]; decide) (fun base sA U hZ => by rw [g1]; exact hZ.2.2.2.1) g6 ?_
      refine x_aload_n (q := 225) dL_law_224 rfl rfl ?_
      refine x_iload_n (q := 226) dL_law_225 rfl rfl ?_
      refine x_iconst (q := 227) (v := (3 : Int32)) dL_law_226 rfl (by decide) ?_
      refine x_iadd (q := 228) dL_law_227 rfl ?_
      refine x_sld (q := 229) (L := L) (xs := xs) dL_law_228 rfl (by rw [g1]; decide) (fun base sA U hZ => by rw [g1]; exact hZ.2.2.2.1) g7 ?_
      refine x_aload_n (q := 230) dL_law_229 rfl rfl ?_
      refine x_iload_n (q := 231) dL_law_230 rfl rfl ?_
      refine x_iconst (q := 232) (v := (4 : Int32)) dL_law_231 rfl (by decide) ?_
      refine x_iadd (q := 233) dL_law_232 rfl ?_
      refine x_sld (q := 234) (L := L) (xs := xs) dL_law_233 rfl (by rw [g1]; decide) (fun base sA U hZ => by rw [g1]; exact hZ.2.2.2.1) g8 ?_
      refine x_aload_n (q := 235) dL_law_234 rfl rfl ?_
      refine x_iload_n (q := 236) dL_law_235 rfl rfl ?_
      refine x_iconst (q := 237) (v := (5 : Int32)) dL_law_236 rfl (by decide) ?_
      refine x_iadd (q := 238) dL_law_237 rfl ?_
      refine x_sld (q := 239) (L := L) (xs := xs) dL_law_238 rfl (by rw [g1]; decide) (fun base sA U hZ => by rw [g1]; exact hZ.2.2.2.1) g9 ?_
      replace H := kif H; obtain ⟨g15, H⟩ := H
      replace H := kbe H; obtain ⟨r16, c17, H⟩ := H
      have m18 := s_X12_feed (Z := KZs xs L) r11.2 v2 (xs (((s.1 + (1 : Int32))).toNatClampNeg)) (xs (((s.1 + (2 : Int32))).toNatClampNeg)) (xs (((s.1 + (3 : Int32))).toNatClampNeg)) (xs (((s.1 + (4 : Int32))).toNatClampNeg)) (xs (((s.1 + (5 : Int32))).toNatClampNeg)) n14 c17
      refine x_callV (q := 242) (as := [.int (xs (((s.1 + (1 : Int32))).toNatClampNeg)), .int (xs (((s.1 + (2 : Int32))).toNatClampNeg)), .int (xs (((s.1 + (3 : Int32))).toNatClampNeg)), .int (xs (((s.1 + (4 : Int32))).toNatClampNeg)), .int (xs (((s.1 + (5 : Int32))).toNatClampNeg))]) (rest := [.int r11.1]) dL_law_239 rfl kc_RL_17 kh_X12_feed (by decide) (Nat.le_of_ble_eq_true rfl) m18 (ci := 12) (by exact ⟨rfl, by decide⟩) (k243 g15 (by decide) n14) ?_
      have n19 : (r16.2).1 = 243 := m18.1.full n14
      replace H := kite H; rcases H with ⟨g20, H⟩ | ⟨g20, H⟩
      · refine x_icmp_eq_t dL_law_242 (q := 1119) (by decide) g20 ?_
        refine x_sub (ls2 := [(0, .ref v0), (1, .ref v1), (2, .ref v2), (3, .int s.1)]) [0, 1, 2, 3] rfl ?_
        exact s_L_law_b1119 xs L r16.2 v0 v1 v2 s.1 n19 H
      · refine x_icmp_eq_f (q := 245) dL_law_242 (t := 1119) (by decide) rfl g20 ?_
        replace H := ko2e H; obtain ⟨o21, H, rfl⟩ := H
        refine x_iconst (q := 246) (v := (0 : Int32)) dL_law_245 rfl (by decide) ?_
        cases H
        exact x_end ⟨(Or.inl rfl), dL_law_246, rfl, rfl⟩
    replace H := kite H; rcases H with ⟨g22, H⟩ | ⟨g22, H⟩
    · refine x_tableIn (v := (1 : Int32)) (off := 214) dL_law_33 g22 (by decide) (q := 247) (by decide) ?_
      refine x_aload_n (q := 248) dL_law_247 rfl rfl ?_
      refine x_aload_n (q := 249) dL_law_248 rfl rfl ?_
      refine x_iload_n (q := 250) dL_law_249 rfl rfl ?_
      refine x_iconst (q := 251) (v := (1 : Int32)) dL_law_250 rfl (by decide) ?_
      refine x_iadd (q := 252) dL_law_251 rfl ?_
      replace H := kif H; obtain ⟨g23, H⟩ := H
      refine x_sld (q := 253) (L := L) (xs := xs) dL_law_252 rfl (by rw [g1]; decide) (fun base sA U hZ => by rw [g1]; exact hZ.2.2.2.1) g23 ?_
      replace H := kif H; obtain ⟨g24, H⟩ := H
      replace H := kbe H; obtain ⟨r25, c26, H⟩ := H
      have m27 := s_X11_end (Z := KZs xs L) s.2 v1 (xs (((s.1 + (1 : Int32))).toNatClampNeg)) hn c26
      refine x_callV (q := 256) (as := [.int (xs (((s.1 + (1 : Int32))).toNatClampNeg))]) (rest := []) dL_law_253 rfl kc_RL_18 kh_X11_end (by decide) (Nat.le_of_ble_eq_true rfl) m27 (ci := 11) (by exact ⟨rfl, by decide⟩) (k243 g24 (by decide) hn) ?_
      have n28 : (r25.2).1 = 243 := m27.1.full hn
      refine x_aload_n (q := 257) dL_law_256 rfl rfl ?_
      refine x_aload_n (q := 258) dL_law_257 rfl rfl ?_
      refine x_iload_n (q := 259) dL_law_258 rfl rfl ?_
      refine x_iconst (q := 260) (v := (1 : Int32)) dL_law_259 rfl (by decide) ?_
      refine x_iadd (q := 261) dL_law_260 rfl ?_
      refine x_sld (q := 262) (L := L) (xs := xs) dL_law_261 rfl (by rw [g1]; decide) (fun base sA U hZ => by rw [g1]; exact hZ.2.2.2.1) g23 ?_
      replace H := kif H; obtain ⟨g29, H⟩ := H
      replace H := kbe H; obtain ⟨r30, c31, H⟩ := H
      have m32 := s_X12_end (Z := KZs xs L) r25.2 v2 (xs (((s.1 + (1 : Int32))).toNatClampNeg)) n28 c31
      refine x_callV (q := 265) (as := [.int (xs (((s.1 + (1 : Int32))).toNatClampNeg))]) (rest := [.int r25.1]) dL_law_262 rfl kc_RL_22 kh_X12_end (by decide) (Nat.le_of_ble_eq_true rfl) m32 (ci := 12) (by exact ⟨rfl, by decide⟩) (k243 g29 (by decide) n28) ?_
      have n33 : (r30.2).1 = 243 := m32.1.full n28
      replace H := kite H; rcases H with ⟨g34, H⟩ | ⟨g34, H⟩
      · refine x_icmp_eq_t dL_law_265 (q := 1119) (by decide) g34 ?_
        refine x_sub (ls2 := [(0, .ref v0), (1, .ref v1), (2, .ref v2), (3, .int s.1)]) [0, 1, 2, 3] rfl ?_
        exact s_L_law_b1119 xs L r30.2 v0 v1 v2 s.1 n33 H
      · refine x_icmp_eq_f (q := 268) dL_law_265 (t := 1119) (by decide) rfl g34 ?_
        replace H := ko2e H; obtain ⟨o35, H, rfl⟩ := H
        refine x_iconst (q := 269) (v := (0 : Int32)) dL_law_268 rfl (by decide) ?_
        cases H
        exact x_end ⟨(Or.inl rfl), dL_law_269, rfl, rfl⟩
    replace H := kite H; rcases H with ⟨g36, H⟩ | ⟨g36, H⟩
    · refine x_tableIn (v := (2 : Int32)) (off := 237) dL_law_33 g36 (by decide) (q := 270) (by decide) ?_
      refine x_aload_n (q := 271) dL_law_270 rfl rfl ?_
      replace H := kif H; obtain ⟨g37, H⟩ := H
      replace H := kbe H; obtain ⟨r38, c39, H⟩ := H
      have m40 := s_X11_court (Z := KZs xs L) s.2 v1 hn c39
      refine x_callV (q := 274) (as := []) (rest := []) dL_law_271 rfl kc_RL_23 kh_X11_court (by decide) (Nat.le_of_ble_eq_true rfl) m40 (ci := 11) (by exact ⟨rfl, by decide⟩) (k243 g37 (by decide) hn) ?_
      have n41 : (r38.2).1 = 243 := m40.1.full hn
      refine x_aload_n (q := 275) dL_law_274 rfl rfl ?_
      replace H := kif H; obtain ⟨g42, H⟩ := H
      replace H := kbe H; obtain ⟨r43, c44, H⟩ := H
      have m45 := s_X12_court (Z := KZs xs L) r38.2 v2 n41 c44
      refine x_callV (q := 278) (as := []) (rest := [.int r38.1]) dL_law_275 rfl kc_RL_27 kh_X12_court (by decide) (Nat.le_of_ble_eq_true rfl) m45 (ci := 12) (by exact ⟨rfl, by decide⟩) (k243 g42 (by decide) n41) ?_
      have n46 : (r43.2).1 = 243 := m45.1.full n41
      replace H := kite H; rcases H with ⟨g47, H⟩ | ⟨g47, H⟩
      · refine x_icmp_eq_t dL_law_278 (q := 1119) (by decide) g47 ?_
        refine x_sub (ls2 := [(0, .ref v0), (1, .ref v1), (2, .ref v2), (3, .int s.1)]) [0, 1, 2, 3] rfl ?_
        exact s_L_law_b1119 xs L r43.2 v0 v1 v2 s.1 n46 H
      · refine x_icmp_eq_f (q := 281) dL_law_278 (t := 1119) (by decide) rfl g47 ?_
        replace H := ko2e H; obtain ⟨o48, H, rfl⟩ := H
        refine x_iconst (q := 282) (v := (0 : Int32)) dL_law_281 rfl (by decide) ?_
        cases H
        exact x_end ⟨(Or.inl rfl), dL_law_282, rfl, rfl⟩
    replace H := kite H; rcases H with ⟨g49, H⟩ | ⟨g49, H⟩
    · refine x_tableIn (v := (3 : Int32)) (off := 250) dL_law_33 g49 (by decide) (q := 283) (by decide) ?_
      refine x_aload_n (q := 284) dL_law_283 rfl rfl ?_
      refine x_aload_n (q := 285) dL_law_284 rfl rfl ?_
      refine x_iload_n (q := 286) dL_law_285 rfl rfl ?_
      refine x_iconst (q := 287) (v := (1 : Int32)) dL_law_286 rfl (by decide) ?_
      refine x_iadd (q := 288) dL_law_287 rfl ?_
      replace H := kif H; obtain ⟨g50, H⟩ := H
      refine x_sld (q := 289) (L := L) (xs := xs) dL_law_288 rfl (by rw [g1]; decide) (fun base sA U hZ => by rw [g1]; exact hZ.2.2.2.1) g50 ?_
      replace H := kif H; obtain ⟨g51, H⟩ := H
      replace H := kbe H; obtain ⟨r52, c53, H⟩ := H
      have m54 := s_X11_fault (Z := KZs xs L) s.2 v1 (xs (((s.1 + (1 : Int32))).toNatClampNeg)) hn c53
      refine x_callV (q := 292) (as := [.int (xs (((s.1 + (1 : Int32))).toNatClampNeg))]) (rest := []) dL_law_289 rfl kc_RL_28 kh_X11_fault (by decide) (Nat.le_of_ble_eq_true rfl) m54 (ci := 11) (by exact ⟨rfl, by decide⟩) (k243 g51 (by decide) hn) ?_
      refine x_aload_n (q := 293) dL_law_292 rfl rfl ?_
      refine x_aload_n (q := 294) dL_law_293 rfl rfl ?_
      refine x_iload_n (q := 295) dL_law_294 rfl rfl ?_
      refine x_iconst (q := 296) (v := (1 : Int32)) dL_law_295 rfl (by decide) ?_
      refine x_iadd (q := 297) dL_law_296 rfl ?_
      refine x_sld (q := 298) (L := L) (xs := xs) dL_law_297 rfl (by rw [g1]; decide) (fun base sA U hZ => by rw [g1]; exact hZ.2.2.2.1) g50 ?_
      replace H := kif H; obtain ⟨g55, H⟩ := H
      replace H := kbe H; obtain ⟨r56, c57, H⟩ := H
      have m58 := s_X12_fault (Z := KZs xs L) s.2 v2 (xs (((s.1 + (1 : Int32))).toNatClampNeg)) hn c57
      refine x_callV (q := 301) (as := [.int (xs (((s.1 + (1 : Int32))).toNatClampNeg))]) (rest := [.int r52]) dL_law_298 rfl kc_RL_32 kh_X12_fault (by decide) (Nat.le_of_ble_eq_true rfl) m58 (ci := 12) (by exact ⟨rfl, by decide⟩) (k243 g55 (by decide) hn) ?_
      replace H := kite H; rcases H with ⟨g59, H⟩ | ⟨g59, H⟩
      · refine x_icmp_eq_t dL_law_301 (q := 1119) (by decide) g59 ?_
        refine x_sub (ls2 := [(0, .ref v0), (1, .ref v1), (2, .ref v2), (3, .int s.1)]) [0, 1, 2, 3] rfl ?_
        exact s_L_law_b1119 xs L s.2 v0 v1 v2 s.1 hn H
      · refine x_icmp_eq_f (q := 304) dL_law_301 (t := 1119) (by decide) rfl g59 ?_
        replace H := ko2e H; obtain ⟨o60, H, rfl⟩ := H
        refine x_iconst (q := 305) (v := (0 : Int32)) dL_law_304 rfl (by decide) ?_
        cases H
        exact x_end ⟨(Or.inl rfl), dL_law_305, rfl, rfl⟩
    replace H := kite H; rcases H with ⟨g61, H⟩ | ⟨g61, H⟩
    · refine x_tableIn (v := (4 : Int32)) (off := 273) dL_law_33 g61 (by decide) (q := 306) (by decide) ?_
      refine x_aload_n (q := 307) dL_law_306 rfl rfl ?_
      refine x_aload_n (q := 308) dL_law_307 rfl rfl ?_
      refine x_iload_n (q := 309) dL_law_308 rfl rfl ?_
      refine x_iconst (q := 310) (v := (1 : Int32)) dL_law_309 rfl (by decide) ?_
      refine x_iadd (q := 311) dL_law_310 rfl ?_
      replace H := kif H; obtain ⟨g62, H⟩ := H
      refine x_sld (q := 312) (L := L) (xs := xs) dL_law_311 rfl (by rw [g1]; decide) (fun base sA U hZ => by rw [g1]; exact hZ.2.2.2.1) g62 ?_
      replace H := kif H; obtain ⟨g63, H⟩ := H
      replace H := kbe H; obtain ⟨r64, c65, H⟩ := H
      have m66 := s_X11_has (Z := KZs xs L) s.2 v1 (xs (((s.1 + (1 : Int32))).toNatClampNeg)) hn c65
      refine x_callV (q := 315) (as := [.int (xs (((s.1 + (1 : Int32))).toNatClampNeg))]) (rest := []) dL_law_312 rfl kc_RL_33 kh_X11_has (by decide) (Nat.le_of_ble_eq_true rfl) m66 (ci := 11) (by exact ⟨rfl, by decide⟩) (k243 g63 (by decide) hn) ?_
      refine x_aload_n (q := 316) dL_law_315 rfl rfl ?_
      refine x_aload_n (q := 317) dL_law_316 rfl rfl ?_
      refine x_iload_n (q := 318) dL_law_317 rfl rfl ?_
      refine x_iconst (q := 319) (v := (1 : Int32)) dL_law_318 rfl (by decide) ?_
      refine x_iadd (q := 320) dL_law_319 rfl ?_
      refine x_sld (q := 321) (L := L) (xs := xs) dL_law_320 rfl (by rw [g1]; decide) (fun base sA U hZ => by rw [g1]; exact hZ.2.2.2.1) g62 ?_
      replace H := kif H; obtain ⟨g67, H⟩ := H
      replace H := kbe H; obtain ⟨r68, c69, H⟩ := H
      have m70 := s_X12_has (Z := KZs xs L) s.2 v2 (xs (((s.1 + (1 : Int32))).toNatClampNeg)) hn c69
      refine x_callV (q := 324) (as := [.int (xs (((s.1 + (1 : Int32))).toNatClampNeg))]) (rest := [.int r64]) dL_law_321 rfl kc_RL_36 kh_X12_has (by decide) (Nat.le_of_ble_eq_true rfl) m70 (ci := 12) (by exact ⟨rfl, by decide⟩) (k243 g67 (by decide) hn) ?_
      replace H := kite H; rcases H with ⟨g71, H⟩ | ⟨g71, H⟩
      · refine x_icmp_eq_t dL_law_324 (q := 1119) (by decide) g71 ?_
        refine x_sub (ls2 := [(0, .ref v0), (1, .ref v1), (2, .ref v2), (3, .int s.1)]) [0, 1, 2, 3] rfl ?_
        exact s_L_law_b1119 xs L s.2 v0 v1 v2 s.1 hn H
      · refine x_icmp_eq_f (q := 327) dL_law_324 (t := 1119) (by decide) rfl g71 ?_
        replace H := ko2e H; obtain ⟨o72, H, rfl⟩ := H
        refine x_iconst (q := 328) (v := (0 : Int32)) dL_law_327 rfl (by decide) ?_
        cases H
        exact x_end ⟨(Or.inl rfl), dL_law_328, rfl, rfl⟩
    replace H := kite H; rcases H with ⟨g73, H⟩ | ⟨g73, H⟩
    · refine x_tableIn (v := (5 : Int32)) (off := 296) dL_law_33 g73 (by decide) (q := 329) (by decide) ?_
      refine x_aload_n (q := 330) dL_law_329 rfl rfl ?_
      refine x_aload_n (q := 331) dL_law_330 rfl rfl ?_
      refine x_iload_n (q := 332) dL_law_331 rfl rfl ?_
      refine x_iconst (q := 333) (v := (1 : Int32)) dL_law_332 rfl (by decide) ?_
      refine x_iadd (q := 334) dL_law_333 rfl ?_
      replace H := kif H; obtain ⟨g74, H⟩ := H
      refine x_sld (q := 335) (L := L) (xs := xs) dL_law_334 rfl (by rw [g1]; decide) (fun base sA U hZ => by rw [g1]; exact hZ.2.2.2.1) g74 ?_
      refine x_aload_n (q := 336) dL_law_335 rfl rfl ?_
      refine x_iload_n (q := 337) dL_law_336 rfl rfl ?_
      refine x_iconst (q := 338) (v := (2 : Int32)) dL_law_337 rfl (by decide) ?_
      refine x_iadd (q := 339) dL_law_338 rfl ?_
      replace H := kif H; obtain ⟨g75, H⟩ := H
      refine x_sld (q := 340) (L := L) (xs := xs) dL_law_339 rfl (by rw [g1]; decide) (fun base sA U hZ => by rw [g1]; exact hZ.2.2.2.1) g75 ?_
      refine x_aload_n (q := 341) dL_law_340 rfl rfl ?_
      refine x_iload_n (q := 342) dL_law_341 rfl rfl ?_
      refine x_iconst (q := 343) (v := (3 : Int32)) dL_law_342 rfl (by decide) ?_
      refine x_iadd (q := 344) dL_law_343 rfl ?_
      replace H := kif H; obtain ⟨g76, H⟩ := H
      refine x_sld (q := 345) (L := L) (xs := xs) dL_law_344 rfl (by rw [g1]; decide) (fun base sA U hZ => by rw [g1]; exact hZ.2.2.2.1) g76 ?_
      replace H := kif H; obtain ⟨g77, H⟩ := H
      replace H := kbe H; obtain ⟨r78, c79, H⟩ := H
      have m80 := s_X11_letter (Z := KZs xs L) s.2 v1 (xs (((s.1 + (1 : Int32))).toNatClampNeg)) (xs (((s.1 + (2 : Int32))).toNatClampNeg)) (xs (((s.1 + (3 : Int32))).toNatClampNeg)) hn c79
      refine x_callV (q := 348) (as := [.int (xs (((s.1 + (1 : Int32))).toNatClampNeg)), .int (xs (((s.1 + (2 : Int32))).toNatClampNeg)), .int (xs (((s.1 + (3 : Int32))).toNatClampNeg))]) (rest := []) dL_law_345 rfl kc_RL_37 kh_X11_letter (by decide) (Nat.le_of_ble_eq_true rfl) m80 (ci := 11) (by exact ⟨rfl, by decide⟩) (k243 g77 (by decide) hn) ?_
      refine x_aload_n (q := 349) dL_law_348 rfl rfl ?_
      refine x_aload_n (q := 350) dL_law_349 rfl rfl ?_
      refine x_iload_n (q := 351) dL_law_350 rfl rfl ?_
      refine x_iconst (q := 352) (v := (1 : Int32)) dL_law_351 rfl (by decide) ?_
      refine x_iadd (q := 353) dL_law_352 rfl ?_
      refine x_sld (q := 354) (L := L) (xs := xs) dL_law_353 rfl (by rw [g1]; decide) (fun base sA U hZ => by rw [g1]; exact hZ.2.2.2.1) g74 ?_
      refine x_aload_n (q := 355) dL_law_354 rfl rfl ?_
      refine x_iload_n (q := 356) dL_law_355 rfl rfl ?_
      refine x_iconst (q := 357) (v := (2 : Int32)) dL_law_356 rfl (by decide) ?_
      refine x_iadd (q := 358) dL_law_357 rfl ?_
      refine x_sld (q := 359) (L := L) (xs := xs) dL_law_358 rfl (by rw [g1]; decide) (fun base sA U hZ => by rw [g1]; exact hZ.2.2.2.1) g75 ?_
      refine x_aload_n (q := 360) dL_law_359 rfl rfl ?_
      refine x_iload_n (q := 361) dL_law_360 rfl rfl ?_
      refine x_iconst (q := 362) (v := (3 : Int32)) dL_law_361 rfl (by decide) ?_
      refine x_iadd (q := 363) dL_law_362 rfl ?_
      refine x_sld (q := 364) (L := L) (xs := xs) dL_law_363 rfl (by rw [g1]; decide) (fun base sA U hZ => by rw [g1]; exact hZ.2.2.2.1) g76 ?_
      replace H := kif H; obtain ⟨g81, H⟩ := H
      replace H := kbe H; obtain ⟨r82, c83, H⟩ := H
      have m84 := s_X12_letter (Z := KZs xs L) s.2 v2 (xs (((s.1 + (1 : Int32))).toNatClampNeg)) (xs (((s.1 + (2 : Int32))).toNatClampNeg)) (xs (((s.1 + (3 : Int32))).toNatClampNeg)) hn c83
      refine x_callV (q := 367) (as := [.int (xs (((s.1 + (1 : Int32))).toNatClampNeg)), .int (xs (((s.1 + (2 : Int32))).toNatClampNeg)), .int (xs (((s.1 + (3 : Int32))).toNatClampNeg))]) (rest := [.int r78]) dL_law_364 rfl kc_RL_41 kh_X12_letter (by decide) (Nat.le_of_ble_eq_true rfl) m84 (ci := 12) (by exact ⟨rfl, by decide⟩) (k243 g81 (by decide) hn) ?_
      replace H := kite H; rcases H with ⟨g85, H⟩ | ⟨g85, H⟩
      · refine x_icmp_eq_t dL_law_367 (q := 1119) (by decide) g85 ?_
        refine x_sub (ls2 := [(0, .ref v0), (1, .ref v1), (2, .ref v2), (3, .int s.1)]) [0, 1, 2, 3] rfl ?_
        exact s_L_law_b1119 xs L s.2 v0 v1 v2 s.1 hn H
      · refine x_icmp_eq_f (q := 370) dL_law_367 (t := 1119) (by decide) rfl g85 ?_
        replace H := ko2e H; obtain ⟨o86, H, rfl⟩ := H
        refine x_iconst (q := 371) (v := (0 : Int32)) dL_law_370 rfl (by decide) ?_
        cases H
        exact x_end ⟨(Or.inl rfl), dL_law_371, rfl, rfl⟩
    replace H := kite H; rcases H with ⟨g87, H⟩ | ⟨g87, H⟩
    · refine x_tableIn (v := (6 : Int32)) (off := 339) dL_law_33 g87 (by decide) (q := 372) (by decide) ?_
      refine x_aload_n (q := 373) dL_law_372 rfl rfl ?_
      refine x_aload_n (q := 374) dL_law_373 rfl rfl ?_
      refine x_iload_n (q := 375) dL_law_374 rfl rfl ?_
      refine x_iconst (q := 376) (v := (1 : Int32)) dL_law_375 rfl (by decide) ?_
      refine x_iadd (q := 377) dL_law_376 rfl ?_
      replace H := kif H; obtain ⟨g88, H⟩ := H
      refine x_sld (q := 378) (L := L) (xs := xs) dL_law_377 rfl (by rw [g1]; decide) (fun base sA U hZ => by rw [g1]; exact hZ.2.2.2.1) g88 ?_
      refine x_aload_n (q := 379) dL_law_378 rfl rfl ?_
      refine x_iload_n (q := 380) dL_law_379 rfl rfl ?_
      refine x_iconst (q := 381) (v := (2 : Int32)) dL_law_380 rfl (by decide) ?_
      refine x_iadd (q := 382) dL_law_381 rfl ?_
      replace H := kif H; obtain ⟨g89, H⟩ := H
      refine x_sld (q := 383) (L := L) (xs := xs) dL_law_382 rfl (by rw [g1]; decide) (fun base sA U hZ => by rw [g1]; exact hZ.2.2.2.1) g89 ?_
      replace H := kif H; obtain ⟨g90, H⟩ := H
      replace H := kbe H; obtain ⟨r91, c92, H⟩ := H
      have m93 := s_X11_kind (Z := KZs xs L) s.2 v1 (xs (((s.1 + (1 : Int32))).toNatClampNeg)) (xs (((s.1 + (2 : Int32))).toNatClampNeg)) hn c92
      refine x_callV (q := 386) (as := [.int (xs (((s.1 + (1 : Int32))).toNatClampNeg)), .int (xs (((s.1 + (2 : Int32))).toNatClampNeg))]) (rest := []) dL_law_383 rfl kc_RL_42 kh_X11_kind (by decide) (Nat.le_of_ble_eq_true rfl) m93 (ci := 11) (by exact ⟨rfl, by decide⟩) (k243 g90 (by decide) hn) ?_
      refine x_aload_n (q := 387) dL_law_386 rfl rfl ?_
      refine x_aload_n (q := 388) dL_law_387 rfl rfl ?_
      refine x_iload_n (q := 389) dL_law_388 rfl rfl ?_
      refine x_iconst (q := 390) (v := (1 : Int32)) dL_law_389 rfl (by decide) ?_
      refine x_iadd (q := 391) dL_law_390 rfl ?_
      refine x_sld (q := 392) (L := L) (xs := xs) dL_law_391 rfl (by rw [g1]; decide) (fun base sA U hZ => by rw [g1]; exact hZ.2.2.2.1) g88 ?_
      refine x_aload_n (q := 393) dL_law_392 rfl rfl ?_
      refine x_iload_n (q := 394) dL_law_393 rfl rfl ?_
      refine x_iconst (q := 395) (v := (2 : Int32)) dL_law_394 rfl (by decide) ?_
      refine x_iadd (q := 396) dL_law_395 rfl ?_
      refine x_sld (q := 397) (L := L) (xs := xs) dL_law_396 rfl (by rw [g1]; decide) (fun base sA U hZ => by rw [g1]; exact hZ.2.2.2.1) g89 ?_
      replace H := kif H; obtain ⟨g94, H⟩ := H
      replace H := kbe H; obtain ⟨r95, c96, H⟩ := H
      have m97 := s_X12_kind (Z := KZs xs L) s.2 v2 (xs (((s.1 + (1 : Int32))).toNatClampNeg)) (xs (((s.1 + (2 : Int32))).toNatClampNeg)) hn c96
      refine x_callV (q := 400) (as := [.int (xs (((s.1 + (1 : Int32))).toNatClampNeg)), .int (xs (((s.1 + (2 : Int32))).toNatClampNeg))]) (rest := [.int r91]) dL_law_397 rfl kc_RL_46 kh_X12_kind (by decide) (Nat.le_of_ble_eq_true rfl) m97 (ci := 12) (by exact ⟨rfl, by decide⟩) (k243 g94 (by decide) hn) ?_
      replace H := kite H; rcases H with ⟨g98, H⟩ | ⟨g98, H⟩
      · refine x_icmp_eq_t dL_law_400 (q := 1119) (by decide) g98 ?_
        refine x_sub (ls2 := [(0, .ref v0), (1, .ref v1), (2, .ref v2), (3, .int s.1)]) [0, 1, 2, 3] rfl ?_
        exact s_L_law_b1119 xs L s.2 v0 v1 v2 s.1 hn H
      · refine x_icmp_eq_f (q := 403) dL_law_400 (t := 1119) (by decide) rfl g98 ?_
        replace H := ko2e H; obtain ⟨o99, H, rfl⟩ := H
        refine x_iconst (q := 404) (v := (0 : Int32)) dL_law_403 rfl (by decide) ?_
        cases H
        exact x_end ⟨(Or.inl rfl), dL_law_404, rfl, rfl⟩
    replace H := kite H; rcases H with ⟨g100, H⟩ | ⟨g100, H⟩
    · refine x_tableIn (v := (7 : Int32)) (off := 372) dL_law_33 g100 (by decide) (q := 405) (by decide) ?_
      refine x_aload_n (q := 406) dL_law_405 rfl rfl ?_
      refine x_aload_n (q := 407) dL_law_406 rfl rfl ?_
      refine x_iload_n (q := 408) dL_law_407 rfl rfl ?_
      refine x_iconst (q := 409) (v := (1 : Int32)) dL_law_408 rfl (by decide) ?_
      refine x_iadd (q := 410) dL_law_409 rfl ?_
      replace H := kif H; obtain ⟨g101, H⟩ := H
      refine x_sld (q := 411) (L := L) (xs := xs) dL_law_410 rfl (by rw [g1]; decide) (fun base sA U hZ => by rw [g1]; exact hZ.2.2.2.1) g101 ?_
      refine x_aload_n (q := 412) dL_law_411 rfl rfl ?_
      refine x_iload_n (q := 413) dL_law_412 rfl rfl ?_
      refine x_iconst (q := 414) (v := (2 : Int32)) dL_law_413 rfl (by decide) ?_
      refine x_iadd (q := 415) dL_law_414 rfl ?_
      replace H := kif H; obtain ⟨g102, H⟩ := H
      refine x_sld (q := 416) (L := L) (xs := xs) dL_law_415 rfl (by rw [g1]; decide) (fun base sA U hZ => by rw [g1]; exact hZ.2.2.2.1) g102 ?_
      replace H := kif H; obtain ⟨g103, H⟩ := H
      replace H := kbe H; obtain ⟨r104, c105, H⟩ := H
      have m106 := s_X11_test (Z := KZs xs L) s.2 v1 (xs (((s.1 + (1 : Int32))).toNatClampNeg)) (xs (((s.1 + (2 : Int32))).toNatClampNeg)) hn c105
      refine x_callV (q := 419) (as := [.int (xs (((s.1 + (1 : Int32))).toNatClampNeg)), .int (xs (((s.1 + (2 : Int32))).toNatClampNeg))]) (rest := []) dL_law_416 rfl kc_RL_47 kh_X11_test (by decide) (Nat.le_of_ble_eq_true rfl) m106 (ci := 11) (by exact ⟨rfl, by decide⟩) (k243 g103 (by decide) hn) ?_
      refine x_aload_n (q := 420) dL_law_419 rfl rfl ?_
      refine x_aload_n (q := 421) dL_law_420 rfl rfl ?_
      refine x_iload_n (q := 422) dL_law_421 rfl rfl ?_
      refine x_iconst (q := 423) (v := (1 : Int32)) dL_law_422 rfl (by decide) ?_
      refine x_iadd (q := 424) dL_law_423 rfl ?_
      refine x_sld (q := 425) (L := L) (xs := xs) dL_law_424 rfl (by rw [g1]; decide) (fun base sA U hZ => by rw [g1]; exact hZ.2.2.2.1) g101 ?_
      refine x_aload_n (q := 426) dL_law_425 rfl rfl ?_
      refine x_iload_n (q := 427) dL_law_426 rfl rfl ?_
      refine x_iconst (q := 428) (v := (2 : Int32)) dL_law_427 rfl (by decide) ?_
      refine x_iadd (q := 429) dL_law_428 rfl ?_
      refine x_sld (q := 430) (L := L) (xs := xs) dL_law_429 rfl (by rw [g1]; decide) (fun base sA U hZ => by rw [g1]; exact hZ.2.2.2.1) g102 ?_
      replace H := kif H; obtain ⟨g107, H⟩ := H
      replace H := kbe H; obtain ⟨r108, c109, H⟩ := H
      have m110 := s_X12_test (Z := KZs xs L) s.2 v2 (xs (((s.1 + (1 : Int32))).toNatClampNeg)) (xs (((s.1 + (2 : Int32))).toNatClampNeg)) hn c109
      refine x_callV (q := 433) (as := [.int (xs (((s.1 + (1 : Int32))).toNatClampNeg)), .int (xs (((s.1 + (2 : Int32))).toNatClampNeg))]) (rest := [.int r104]) dL_law_430 rfl kc_RL_50 kh_X12_test (by decide) (Nat.le_of_ble_eq_true rfl) m110 (ci := 12) (by exact ⟨rfl, by decide⟩) (k243 g107 (by decide) hn) ?_
      replace H := kite H; rcases H with ⟨g111, H⟩ | ⟨g111, H⟩
      · refine x_icmp_eq_t dL_law_433 (q := 1119) (by decide) g111 ?_
        refine x_sub (ls2 := [(0, .ref v0), (1, .ref v1), (2, .ref v2), (3, .int s.1)]) [0, 1, 2, 3] rfl ?_
        exact s_L_law_b1119 xs L s.2 v0 v1 v2 s.1 hn H
      · refine x_icmp_eq_f (q := 436) dL_law_433 (t := 1119) (by decide) rfl g111 ?_
        replace H := ko2e H; obtain ⟨o112, H, rfl⟩ := H
        refine x_iconst (q := 437) (v := (0 : Int32)) dL_law_436 rfl (by decide) ?_
        cases H
        exact x_end ⟨(Or.inl rfl), dL_law_437, rfl, rfl⟩
    replace H := kite H; rcases H with ⟨g113, H⟩ | ⟨g113, H⟩
    · refine x_tableIn (v := (8 : Int32)) (off := 405) dL_law_33 g113 (by decide) (q := 438) (by decide) ?_
      refine x_aload_n (q := 439) dL_law_438 rfl rfl ?_
      refine x_aload_n (q := 440) dL_law_439 rfl rfl ?_
      refine x_iload_n (q := 441) dL_law_440 rfl rfl ?_
      refine x_iconst (q := 442) (v := (1 : Int32)) dL_law_441 rfl (by decide) ?_
      refine x_iadd (q := 443) dL_law_442 rfl ?_
      replace H := kif H; obtain ⟨g114, H⟩ := H
      refine x_sld (q := 444) (L := L) (xs := xs) dL_law_443 rfl (by rw [g1]; decide) (fun base sA U hZ => by rw [g1]; exact hZ.2.2.2.1) g114 ?_
      refine x_aload_n (q := 445) dL_law_444 rfl rfl ?_
      refine x_iload_n (q := 446) dL_law_445 rfl rfl ?_
      refine x_iconst (q := 447) (v := (2 : Int32)) dL_law_446 rfl (by decide) ?_
      refine x_iadd (q := 448) dL_law_447 rfl ?_
      replace H := kif H; obtain ⟨g115, H⟩ := H
      refine x_sld (q := 449) (L := L) (xs := xs) dL_law_448 rfl (by rw [g1]; decide) (fun base sA U hZ => by rw [g1]; exact hZ.2.2.2.1) g115 ?_
      replace H := kif H; obtain ⟨g116, H⟩ := H
      replace H := kbe H; obtain ⟨r117, c118, H⟩ := H
      have m119 := s_X11_mark (Z := KZs xs L) s.2 v1 (xs (((s.1 + (1 : Int32))).toNatClampNeg)) (xs (((s.1 + (2 : Int32))).toNatClampNeg)) hn c118
      refine x_callV (q := 452) (as := [.int (xs (((s.1 + (1 : Int32))).toNatClampNeg)), .int (xs (((s.1 + (2 : Int32))).toNatClampNeg))]) (rest := []) dL_law_449 rfl kc_RL_51 kh_X11_mark (by decide) (Nat.le_of_ble_eq_true rfl) m119 (ci := 11) (by exact ⟨rfl, by decide⟩) (k243 g116 (by decide) hn) ?_
      refine x_aload_n (q := 453) dL_law_452 rfl rfl ?_
      refine x_aload_n (q := 454) dL_law_453 rfl rfl ?_
      refine x_iload_n (q := 455) dL_law_454 rfl rfl ?_
      refine x_iconst (q := 456) (v := (1 : Int32)) dL_law_455 rfl (by decide) ?_
      refine x_iadd (q := 457) dL_law_456 rfl ?_
      refine x_sld (q := 458) (L := L) (xs := xs) dL_law_457 rfl (by rw [g1]; decide) (fun base sA U hZ => by rw [g1]; exact hZ.2.2.2.1) g114 ?_
      refine x_aload_n (q := 459) dL_law_458 rfl rfl ?_
      refine x_iload_n (q := 460) dL_law_459 rfl rfl ?_
      refine x_iconst (q := 461) (v := (2 : Int32)) dL_law_460 rfl (by decide) ?_
      refine x_iadd (q := 462) dL_law_461 rfl ?_
      refine x_sld (q := 463) (L := L) (xs := xs) dL_law_462 rfl (by rw [g1]; decide) (fun base sA U hZ => by rw [g1]; exact hZ.2.2.2.1) g115 ?_
      replace H := kif H; obtain ⟨g120, H⟩ := H
      replace H := kbe H; obtain ⟨r121, c122, H⟩ := H
      have m123 := s_X12_mark (Z := KZs xs L) s.2 v2 (xs (((s.1 + (1 : Int32))).toNatClampNeg)) (xs (((s.1 + (2 : Int32))).toNatClampNeg)) hn c122
      refine x_callV (q := 466) (as := [.int (xs (((s.1 + (1 : Int32))).toNatClampNeg)), .int (xs (((s.1 + (2 : Int32))).toNatClampNeg))]) (rest := [.int r117]) dL_law_463 rfl kc_RL_54 kh_X12_mark (by decide) (Nat.le_of_ble_eq_true rfl) m123 (ci := 12) (by exact ⟨rfl, by decide⟩) (k243 g120 (by decide) hn) ?_
      replace H := kite H; rcases H with ⟨g124, H⟩ | ⟨g124, H⟩
      · refine x_icmp_eq_t dL_law_466 (q := 1119) (by decide) g124 ?_
        refine x_sub (ls2 := [(0, .ref v0), (1, .ref v1), (2, .ref v2), (3, .int s.1)]) [0, 1, 2, 3] rfl ?_
        exact s_L_law_b1119 xs L s.2 v0 v1 v2 s.1 hn H
      · refine x_icmp_eq_f (q := 469) dL_law_466 (t := 1119) (by decide) rfl g124 ?_
        replace H := ko2e H; obtain ⟨o125, H, rfl⟩ := H
        refine x_iconst (q := 470) (v := (0 : Int32)) dL_law_469 rfl (by decide) ?_
        cases H
        exact x_end ⟨(Or.inl rfl), dL_law_470, rfl, rfl⟩
    replace H := kite H; rcases H with ⟨g126, H⟩ | ⟨g126, H⟩
    · refine x_tableIn (v := (9 : Int32)) (off := 438) dL_law_33 g126 (by decide) (q := 471) (by decide) ?_
      refine x_aload_n (q := 472) dL_law_471 rfl rfl ?_
      refine x_aload_n (q := 473) dL_law_472 rfl rfl ?_
      refine x_iload_n (q := 474) dL_law_473 rfl rfl ?_
      refine x_iconst (q := 475) (v := (1 : Int32)) dL_law_474 rfl (by decide) ?_
      refine x_iadd (q := 476) dL_law_475 rfl ?_
      replace H := kif H; obtain ⟨g127, H⟩ := H
      refine x_sld (q := 477) (L := L) (xs := xs) dL_law_476 rfl (by rw [g1]; decide) (fun base sA U hZ => by rw [g1]; exact hZ.2.2.2.1) g127 ?_
      refine x_aload_n (q := 478) dL_law_477 rfl rfl ?_
      refine x_iload_n (q := 479) dL_law_478 rfl rfl ?_
      refine x_iconst (q := 480) (v := (2 : Int32)) dL_law_479 rfl (by decide) ?_
      refine x_iadd (q := 481) dL_law_480 rfl ?_
      replace H := kif H; obtain ⟨g128, H⟩ := H
      refine x_sld (q := 482) (L := L) (xs := xs) dL_law_481 rfl (by rw [g1]; decide) (fun base sA U hZ => by rw [g1]; exact hZ.2.2.2.1) g128 ?_
      refine x_aload_n (q := 483) dL_law_482 rfl rfl ?_
      refine x_iload_n (q := 484) dL_law_483 rfl rfl ?_
      refine x_iconst (q := 485) (v := (3 : Int32)) dL_law_484 rfl (by decide) ?_
      refine x_iadd (q := 486) dL_law_485 rfl ?_
      replace H := kif H; obtain ⟨g129, H⟩ := H
      refine x_sld (q := 487) (L := L) (xs := xs) dL_law_486 rfl (by rw [g1]; decide) (fun base sA U hZ => by rw [g1]; exact hZ.2.2.2.1) g129 ?_
      replace H := kif H; obtain ⟨g130, H⟩ := H
      replace H := kbe H; obtain ⟨r131, c132, H⟩ := H
      have m133 := s_X11_yields (Z := KZs xs L) s.2 v1 (xs (((s.1 + (1 : Int32))).toNatClampNeg)) (xs (((s.1 + (2 : Int32))).toNatClampNeg)) (xs (((s.1 + (3 : Int32))).toNatClampNeg)) hn c132
      refine x_callV (q := 490) (as := [.int (xs (((s.1 + (1 : Int32))).toNatClampNeg)), .int (xs (((s.1 + (2 : Int32))).toNatClampNeg)), .int (xs (((s.1 + (3 : Int32))).toNatClampNeg))]) (rest := []) dL_law_487 rfl kc_RL_55 kh_X11_yields (by decide) (Nat.le_of_ble_eq_true rfl) m133 (ci := 11) (by exact ⟨rfl, by decide⟩) (k243 g130 (by decide) hn) ?_
      have n134 : (r131.2).1 = 243 := m133.1.full hn
      refine x_aload_n (q := 491) dL_law_490 rfl rfl ?_
      refine x_aload_n (q := 492) dL_law_491 rfl rfl ?_
      refine x_iload_n (q := 493) dL_law_492 rfl rfl ?_
      refine x_iconst (q := 494) (v := (1 : Int32)) dL_law_493 rfl (by decide) ?_
      refine x_iadd (q := 495) dL_law_494 rfl ?_
      refine x_sld (q := 496) (L := L) (xs := xs) dL_law_495 rfl (by rw [g1]; decide) (fun base sA U hZ => by rw [g1]; exact hZ.2.2.2.1) g127 ?_
      refine x_aload_n (q := 497) dL_law_496 rfl rfl ?_
      refine x_iload_n (q := 498) dL_law_497 rfl rfl ?_
      refine x_iconst (q := 499) (v := (2 : Int32)) dL_law_498 rfl (by decide) ?_
      refine x_iadd (q := 500) dL_law_499 rfl ?_
      refine x_sld (q := 501) (L := L) (xs := xs) dL_law_500 rfl (by rw [g1]; decide) (fun base sA U hZ => by rw [g1]; exact hZ.2.2.2.1) g128 ?_
      refine x_aload_n (q := 502) dL_law_501 rfl rfl ?_
      refine x_iload_n (q := 503) dL_law_502 rfl rfl ?_
      refine x_iconst (q := 504) (v := (3 : Int32)) dL_law_503 rfl (by decide) ?_
      refine x_iadd (q := 505) dL_law_504 rfl ?_
      refine x_sld (q := 506) (L := L) (xs := xs) dL_law_505 rfl (by rw [g1]; decide) (fun base sA U hZ => by rw [g1]; exact hZ.2.2.2.1) g129 ?_
      replace H := kif H; obtain ⟨g135, H⟩ := H
      replace H := kbe H; obtain ⟨r136, c137, H⟩ := H
      have m138 := s_X12_yields (Z := KZs xs L) r131.2 v2 (xs (((s.1 + (1 : Int32))).toNatClampNeg)) (xs (((s.1 + (2 : Int32))).toNatClampNeg)) (xs (((s.1 + (3 : Int32))).toNatClampNeg)) n134 c137
      refine x_callV (q := 509) (as := [.int (xs (((s.1 + (1 : Int32))).toNatClampNeg)), .int (xs (((s.1 + (2 : Int32))).toNatClampNeg)), .int (xs (((s.1 + (3 : Int32))).toNatClampNeg))]) (rest := [.int r131.1]) dL_law_506 rfl kc_RL_58 kh_X12_yields (by decide) (Nat.le_of_ble_eq_true rfl) m138 (ci := 12) (by exact ⟨rfl, by decide⟩) (k243 g135 (by decide) n134) ?_
      have n139 : (r136.2).1 = 243 := m138.1.full n134
      replace H := kite H; rcases H with ⟨g140, H⟩ | ⟨g140, H⟩
      · refine x_icmp_eq_t dL_law_509 (q := 1119) (by decide) g140 ?_
        refine x_sub (ls2 := [(0, .ref v0), (1, .ref v1), (2, .ref v2), (3, .int s.1)]) [0, 1, 2, 3] rfl ?_
        exact s_L_law_b1119 xs L r136.2 v0 v1 v2 s.1 n139 H
      · refine x_icmp_eq_f (q := 512) dL_law_509 (t := 1119) (by decide) rfl g140 ?_
        replace H := ko2e H; obtain ⟨o141, H, rfl⟩ := H
        refine x_iconst (q := 513) (v := (0 : Int32)) dL_law_512 rfl (by decide) ?_
        cases H
        exact x_end ⟨(Or.inl rfl), dL_law_513, rfl, rfl⟩
    replace H := kite H; rcases H with ⟨g142, H⟩ | ⟨g142, H⟩
    · refine x_tableIn (v := (10 : Int32)) (off := 481) dL_law_33 g142 (by decide) (q := 514) (by decide) ?_
      refine x_aload_n (q := 515) dL_law_514 rfl rfl ?_
      refine x_aload_n (q := 516) dL_law_515 rfl rfl ?_
      refine x_iload_n (q := 517) dL_law_516 rfl rfl ?_
      refine x_iconst (q := 518) (v := (1 : Int32)) dL_law_517 rfl (by decide) ?_
      refine x_iadd (q := 519) dL_law_518 rfl ?_
      replace H := kif H; obtain ⟨g143, H⟩ := H
      refine x_sld (q := 520) (L := L) (xs := xs) dL_law_519 rfl (by rw [g1]; decide) (fun base sA U hZ => by rw [g1]; exact hZ.2.2.2.1) g143 ?_
      refine x_aload_n (q := 521) dL_law_520 rfl rfl ?_
      refine x_iload_n (q := 522) dL_law_521 rfl rfl ?_
      refine x_iconst (q := 523) (v := (2 : Int32)) dL_law_522 rfl (by decide) ?_
      refine x_iadd (q := 524) dL_law_523 rfl ?_
      replace H := kif H; obtain ⟨g144, H⟩ := H
      refine x_sld (q := 525) (L := L) (xs := xs) dL_law_524 rfl (by rw [g1]; decide) (fun base sA U hZ => by rw [g1]; exact hZ.2.2.2.1) g144 ?_
      replace H := kif H; obtain ⟨g145, H⟩ := H
      replace H := kbe H; obtain ⟨r146, c147, H⟩ := H
      have m148 := s_X11_kept (Z := KZs xs L) s.2 v1 (xs (((s.1 + (1 : Int32))).toNatClampNeg)) (xs (((s.1 + (2 : Int32))).toNatClampNeg)) hn c147
      refine x_callV (q := 528) (as := [.int (xs (((s.1 + (1 : Int32))).toNatClampNeg)), .int (xs (((s.1 + (2 : Int32))).toNatClampNeg))]) (rest := []) dL_law_525 rfl kc_RL_59 kh_X11_kept (by decide) (Nat.le_of_ble_eq_true rfl) m148 (ci := 11) (by exact ⟨rfl, by decide⟩) (k243 g145 (by decide) hn) ?_
      refine x_aload_n (q := 529) dL_law_528 rfl rfl ?_
      refine x_aload_n (q := 530) dL_law_529 rfl rfl ?_
      refine x_iload_n (q := 531) dL_law_530 rfl rfl ?_
      refine x_iconst (q := 532) (v := (1 : Int32)) dL_law_531 rfl (by decide) ?_
      refine x_iadd (q := 533) dL_law_532 rfl ?_
      refine x_sld (q := 534) (L := L) (xs := xs) dL_law_533 rfl (by rw [g1]; decide) (fun base sA U hZ => by rw [g1]; exact hZ.2.2.2.1) g143 ?_
      refine x_aload_n (q := 535) dL_law_534 rfl rfl ?_
      refine x_iload_n (q := 536) dL_law_535 rfl rfl ?_
      refine x_iconst (q := 537) (v := (2 : Int32)) dL_law_536 rfl (by decide) ?_
      refine x_iadd (q := 538) dL_law_537 rfl ?_
      refine x_sld (q := 539) (L := L) (xs := xs) dL_law_538 rfl (by rw [g1]; decide) (fun base sA U hZ => by rw [g1]; exact hZ.2.2.2.1) g144 ?_
      replace H := kif H; obtain ⟨g149, H⟩ := H
      replace H := kbe H; obtain ⟨r150, c151, H⟩ := H
      have m152 := s_X12_kept (Z := KZs xs L) s.2 v2 (xs (((s.1 + (1 : Int32))).toNatClampNeg)) (xs (((s.1 + (2 : Int32))).toNatClampNeg)) hn c151
      refine x_callV (q := 542) (as := [.int (xs (((s.1 + (1 : Int32))).toNatClampNeg)), .int (xs (((s.1 + (2 : Int32))).toNatClampNeg))]) (rest := [.int r146]) dL_law_539 rfl kc_RL_62 kh_X12_kept (by decide) (Nat.le_of_ble_eq_true rfl) m152 (ci := 12) (by exact ⟨rfl, by decide⟩) (k243 g149 (by decide) hn) ?_
      replace H := kite H; rcases H with ⟨g153, H⟩ | ⟨g153, H⟩
      · refine x_icmp_eq_t dL_law_542 (q := 1119) (by decide) g153 ?_
        refine x_sub (ls2 := [(0, .ref v0), (1, .ref v1), (2, .ref v2), (3, .int s.1)]) [0, 1, 2, 3] rfl ?_
        exact s_L_law_b1119 xs L s.2 v0 v1 v2 s.1 hn H
      · refine x_icmp_eq_f (q := 545) dL_law_542 (t := 1119) (by decide) rfl g153 ?_
        replace H := ko2e H; obtain ⟨o154, H, rfl⟩ := H
        refine x_iconst (q := 546) (v := (0 : Int32)) dL_law_545 rfl (by decide) ?_
        cases H
        exact x_end ⟨(Or.inl rfl), dL_law_546, rfl, rfl⟩
    replace H := kite H; rcases H with ⟨g155, H⟩ | ⟨g155, H⟩
    · refine x_tableIn (v := (11 : Int32)) (off := 514) dL_law_33 g155 (by decide) (q := 547) (by decide) ?_
      refine x_aload_n (q := 548) dL_law_547 rfl rfl ?_
      refine x_aload_n (q := 549) dL_law_548 rfl rfl ?_
      refine x_iload_n (q := 550) dL_law_549 rfl rfl ?_
      refine x_iconst (q := 551) (v := (1 : Int32)) dL_law_550 rfl (by decide) ?_
      refine x_iadd (q := 552) dL_law_551 rfl ?_
      replace H := kif H; obtain ⟨g156, H⟩ := H
      refine x_sld (q := 553) (L := L) (xs := xs) dL_law_552 rfl (by rw [g1]; decide) (fun base sA U hZ => by rw [g1]; exact hZ.2.2.2.1) g156 ?_
      refine x_aload_n (q := 554) dL_law_553 rfl rfl ?_
      refine x_iload_n (q := 555) dL_law_554 rfl rfl ?_
      refine x_iconst (q := 556) (v := (2 : Int32)) dL_law_555 rfl (by decide) ?_
      refine x_iadd (q := 557) dL_law_556 rfl ?_
      replace H := kif H; obtain ⟨g157, H⟩ := H
      refine x_sld (q := 558) (L := L) (xs := xs) dL_law_557 rfl (by rw [g1]; decide) (fun base sA U hZ => by rw [g1]; exact hZ.2.2.2.1) g157 ?_
      refine x_aload_n (q := 559) dL_law_558 rfl rfl ?_
      refine x_iload_n (q := 560) dL_law_559 rfl rfl ?_
      refine x_iconst (q := 561) (v := (3 : Int32)) dL_law_560 rfl (by decide) ?_
      refine x_iadd (q := 562) dL_law_561 rfl ?_
      replace H := kif H; obtain ⟨g158, H⟩ := H
      refine x_sld (q := 563) (L := L) (xs := xs) dL_law_562 rfl (by rw [g1]; decide) (fun base sA U hZ => by rw [g1]; exact hZ.2.2.2.1) g158 ?_
      replace H := kif H; obtain ⟨g159, H⟩ := H
      replace H := kbe H; obtain ⟨r160, c161, H⟩ := H
      have m162 := s_X11_weight (Z := KZs xs L) s.2 v1 (xs (((s.1 + (1 : Int32))).toNatClampNeg)) (xs (((s.1 + (2 : Int32))).toNatClampNeg)) (xs (((s.1 + (3 : Int32))).toNatClampNeg)) hn c161
      refine x_callV (q := 566) (as := [.int (xs (((s.1 + (1 : Int32))).toNatClampNeg)), .int (xs (((s.1 + (2 : Int32))).toNatClampNeg)), .int (xs (((s.1 + (3 : Int32))).toNatClampNeg))]) (rest := []) dL_law_563 rfl kc_RL_63 kh_X11_weight (by decide) (Nat.le_of_ble_eq_true rfl) m162 (ci := 11) (by exact ⟨rfl, by decide⟩) (k243 g159 (by decide) hn) ?_
      have n163 : (r160.2).1 = 243 := m162.1.full hn
      refine x_aload_n (q := 567) dL_law_566 rfl rfl ?_
      refine x_aload_n (q := 568) dL_law_567 rfl rfl ?_
      refine x_iload_n (q := 569) dL_law_568 rfl rfl ?_
      refine x_iconst (q := 570) (v := (1 : Int32)) dL_law_569 rfl (by decide) ?_
      refine x_iadd (q := 571) dL_law_570 rfl ?_
      refine x_sld (q := 572) (L := L) (xs := xs) dL_law_571 rfl (by rw [g1]; decide) (fun base sA U hZ => by rw [g1]; exact hZ.2.2.2.1) g156 ?_
      refine x_aload_n (q := 573) dL_law_572 rfl rfl ?_
      refine x_iload_n (q := 574) dL_law_573 rfl rfl ?_
      refine x_iconst (q := 575) (v := (2 : Int32)) dL_law_574 rfl (by decide) ?_
      refine x_iadd (q := 576) dL_law_575 rfl ?_
      refine x_sld (q := 577) (L := L) (xs := xs) dL_law_576 rfl (by rw [g1]; decide) (fun base sA U hZ => by rw [g1]; exact hZ.2.2.2.1) g157 ?_
      refine x_aload_n (q := 578) dL_law_577 rfl rfl ?_
      refine x_iload_n (q := 579) dL_law_578 rfl rfl ?_
      refine x_iconst (q := 580) (v := (3 : Int32)) dL_law_579 rfl (by decide) ?_
      refine x_iadd (q := 581) dL_law_580 rfl ?_
      refine x_sld (q := 582) (L := L) (xs := xs) dL_law_581 rfl (by rw [g1]; decide) (fun base sA U hZ => by rw [g1]; exact hZ.2.2.2.1) g158 ?_
      replace H := kif H; obtain ⟨g164, H⟩ := H
      replace H := kbe H; obtain ⟨r165, c166, H⟩ := H
      have m167 := s_X12_weight (Z := KZs xs L) r160.2 v2 (xs (((s.1 + (1 : Int32))).toNatClampNeg)) (xs (((s.1 + (2 : Int32))).toNatClampNeg)) (xs (((s.1 + (3 : Int32))).toNatClampNeg)) n163 c166
      refine x_callV (q := 585) (as := [.int (xs (((s.1 + (1 : Int32))).toNatClampNeg)), .int (xs (((s.1 + (2 : Int32))).toNatClampNeg)), .int (xs (((s.1 + (3 : Int32))).toNatClampNeg))]) (rest := [.long r160.1]) dL_law_582 rfl kc_RL_67 kh_X12_weight (by decide) (Nat.le_of_ble_eq_true rfl) m167 (ci := 12) (by exact ⟨rfl, by decide⟩) (k243 g164 (by decide) n163) ?_
      have n168 : (r165.2).1 = 243 := m167.1.full n163
      refine x_lcmp (q := 586) dL_law_585 rfl ?_
      replace H := kite H; rcases H with ⟨g169, H⟩ | ⟨g169, H⟩
      · refine x_if_eq_t dL_law_586 (q := 1119) (by decide) g169 ?_
        refine x_sub (ls2 := [(0, .ref v0), (1, .ref v1), (2, .ref v2), (3, .int s.1)]) [0, 1, 2, 3] rfl ?_
        exact s_L_law_b1119 xs L r165.2 v0 v1 v2 s.1 n168 H
      · refine x_if_eq_f (q := 589) dL_law_586 (t := 1119) (by decide) rfl g169 ?_
        replace H := ko2e H; obtain ⟨o170, H, rfl⟩ := H
        refine x_iconst (q := 590) (v := (0 : Int32)) dL_law_589 rfl (by decide) ?_
        cases H
        exact x_end ⟨(Or.inl rfl), dL_law_590, rfl, rfl⟩
    replace H := kite H; rcases H with ⟨g171, H⟩ | ⟨g171, H⟩
    · refine x_tableIn (v := (12 : Int32)) (off := 558) dL_law_33 g171 (by decide) (q := 591) (by decide) ?_
      refine x_aload_n (q := 592) dL_law_591 rfl rfl ?_
      refine x_aload_n (q := 593) dL_law_592 rfl rfl ?_
      refine x_iload_n (q := 594) dL_law_593 rfl rfl ?_
      refine x_iconst (q := 595) (v := (1 : Int32)) dL_law_594 rfl (by decide) ?_
      refine x_iadd (q := 596) dL_law_595 rfl ?_
      replace H := kif H; obtain ⟨g172, H⟩ := H
      refine x_sld (q := 597) (L := L) (xs := xs) dL_law_596 rfl (by rw [g1]; decide) (fun base sA U hZ => by rw [g1]; exact hZ.2.2.2.1) g172 ?_
      replace H := kif H; obtain ⟨g173, H⟩ := H
      replace H := kbe H; obtain ⟨r174, c175, H⟩ := H
      have m176 := s_X11_odds (Z := KZs xs L) s.2 v1 (xs (((s.1 + (1 : Int32))).toNatClampNeg)) hn c175
      refine x_callV (q := 600) (as := [.int (xs (((s.1 + (1 : Int32))).toNatClampNeg))]) (rest := []) dL_law_597 rfl kc_RL_68 kh_X11_odds (by decide) (Nat.le_of_ble_eq_true rfl) m176 (ci := 11) (by exact ⟨rfl, by decide⟩) (k243 g173 (by decide) hn) ?_
      have n177 : (r174.2).1 = 243 := m176.1.full hn
      refine x_aload_n (q := 601) dL_law_600 rfl rfl ?_
      refine x_aload_n (q := 602) dL_law_601 rfl rfl ?_
      refine x_iload_n (q := 603) dL_law_602 rfl rfl ?_
      refine x_iconst (q := 604) (v := (1 : Int32)) dL_law_603 rfl (by decide) ?_
      refine x_iadd (q := 605) dL_law_604 rfl ?_
      refine x_sld (q := 606) (L := L) (xs := xs) dL_law_605 rfl (by rw [g1]; decide) (fun base sA U hZ => by rw [g1]; exact hZ.2.2.2.1) g172 ?_
      replace H := kif H; obtain ⟨g178, H⟩ := H
      replace H := kbe H; obtain ⟨r179, c180, H⟩ := H
      have m181 := s_X12_odds (Z := KZs xs L) r174.2 v2 (xs (((s.1 + (1 : Int32))).toNatClampNeg)) n177 c180
      refine x_callV (q := 609) (as := [.int (xs (((s.1 + (1 : Int32))).toNatClampNeg))]) (rest := [.int r174.1]) dL_law_606 rfl kc_RL_71 kh_X12_odds (by decide) (Nat.le_of_ble_eq_true rfl) m181 (ci := 12) (by exact ⟨rfl, by decide⟩) (k243 g178 (by decide) n177) ?_
      have n182 : (r179.2).1 = 243 := m181.1.full n177
      replace H := kite H; rcases H with ⟨g183, H⟩ | ⟨g183, H⟩
      · refine x_icmp_eq_t dL_law_609 (q := 1119) (by decide) g183 ?_
        refine x_sub (ls2 := [(0, .ref v0), (1, .ref v1), (2, .ref v2), (3, .int s.1)]) [0, 1, 2, 3] rfl ?_
        exact s_L_law_b1119 xs L r179.2 v0 v1 v2 s.1 n182 H
      · refine x_icmp_eq_f (q := 612) dL_law_609 (t := 1119) (by decide) rfl g183 ?_
        replace H := ko2e H; obtain ⟨o184, H, rfl⟩ := H
        refine x_iconst (q := 613) (v := (0 : Int32)) dL_law_612 rfl (by decide) ?_
        cases H
        exact x_end ⟨(Or.inl rfl), dL_law_613, rfl, rfl⟩
    replace H := kite H; rcases H with ⟨g185, H⟩ | ⟨g185, H⟩
    · refine x_tableIn (v := (13 : Int32)) (off := 581) dL_law_33 g185 (by decide) (q := 614) (by decide) ?_
      refine x_aload_n (q := 615) dL_law_614 rfl rfl ?_
      refine x_aload_n (q := 616) dL_law_615 rfl rfl ?_
      refine x_iload_n (q := 617) dL_law_616 rfl rfl ?_
      refine x_iconst (q := 618) (v := (1 : Int32)) dL_law_617 rfl (by decide) ?_
      refine x_iadd (q := 619) dL_law_618 rfl ?_
      replace H := kif H; obtain ⟨g186, H⟩ := H
      refine x_sld (q := 620) (L := L) (xs := xs) dL_law_619 rfl (by rw [g1]; decide) (fun base sA U hZ => by rw [g1]; exact hZ.2.2.2.1) g186 ?_
      refine x_aload_n (q := 621) dL_law_620 rfl rfl ?_
      refine x_iload_n (q := 622) dL_law_621 rfl rfl ?_
      refine x_iconst (q := 623) (v := (2 : Int32)) dL_law_622 rfl (by decide) ?_
      refine x_iadd (q := 624) dL_law_623 rfl ?_
      replace H := kif H; obtain ⟨g187, H⟩ := H
      refine x_sld (q := 625) (L := L) (xs := xs) dL_law_624 rfl (by rw [g1]; decide) (fun base sA U hZ => by rw [g1]; exact hZ.2.2.2.1) g187 ?_
      replace H := kif H; obtain ⟨g188, H⟩ := H
      replace H := kbe H; obtain ⟨r189, c190, H⟩ := H
      have m191 := s_X11_kinds (Z := KZs xs L) s.2 v1 (xs (((s.1 + (1 : Int32))).toNatClampNeg)) (xs (((s.1 + (2 : Int32))).toNatClampNeg)) hn c190
      refine x_callV (q := 628) (as := [.int (xs (((s.1 + (1 : Int32))).toNatClampNeg)), .int (xs (((s.1 + (2 : Int32))).toNatClampNeg))]) (rest := []) dL_law_625 rfl kc_RL_72 kh_X11_kinds (by decide) (Nat.le_of_ble_eq_true rfl) m191 (ci := 11) (by exact ⟨rfl, by decide⟩) (k243 g188 (by decide) hn) ?_
      have n192 : (r189.2).1 = 243 := m191.1.full hn
      refine x_aload_n (q := 629) dL_law_628 rfl rfl ?_
      refine x_aload_n (q := 630) dL_law_629 rfl rfl ?_
      refine x_iload_n (q := 631) dL_law_630 rfl rfl ?_
      refine x_iconst (q := 632) (v := (1 : Int32)) dL_law_631 rfl (by decide) ?_
      refine x_iadd (q := 633) dL_law_632 rfl ?_
      refine x_sld (q := 634) (L := L) (xs := xs) dL_law_633 rfl (by rw [g1]; decide) (fun base sA U hZ => by rw [g1]; exact hZ.2.2.2.1) g186 ?_
      refine x_aload_n (q := 635) dL_law_634 rfl rfl ?_
      refine x_iload_n (q := 636) dL_law_635 rfl rfl ?_
      refine x_iconst (q := 637) (v := (2 : Int32)) dL_law_636 rfl (by decide) ?_
      refine x_iadd (q := 638) dL_law_637 rfl ?_
      refine x_sld (q := 639) (L := L) (xs := xs) dL_law_638 rfl (by rw [g1]; decide) (fun base sA U hZ => by rw [g1]; exact hZ.2.2.2.1) g187 ?_
      replace H := kif H; obtain ⟨g193, H⟩ := H
      replace H := kbe H; obtain ⟨r194, c195, H⟩ := H
      have m196 := s_X12_kinds (Z := KZs xs L) r189.2 v2 (xs (((s.1 + (1 : Int32))).toNatClampNeg)) (xs (((s.1 + (2 : Int32))).toNatClampNeg)) n192 c195
      refine x_callV (q := 642) (as := [.int (xs (((s.1 + (1 : Int32))).toNatClampNeg)), .int (xs (((s.1 + (2 : Int32))).toNatClampNeg))]) (rest := [.int r189.1]) dL_law_639 rfl kc_RL_75 kh_X12_kinds (by decide) (Nat.le_of_ble_eq_true rfl) m196 (ci := 12) (by exact ⟨rfl, by decide⟩) (k243 g193 (by decide) n192) ?_
      have n197 : (r194.2).1 = 243 := m196.1.full n192
      replace H := kite H; rcases H with ⟨g198, H⟩ | ⟨g198, H⟩
      · refine x_icmp_eq_t dL_law_642 (q := 1119) (by decide) g198 ?_
        refine x_sub (ls2 := [(0, .ref v0), (1, .ref v1), (2, .ref v2), (3, .int s.1)]) [0, 1, 2, 3] rfl ?_
        exact s_L_law_b1119 xs L r194.2 v0 v1 v2 s.1 n197 H
      · refine x_icmp_eq_f (q := 645) dL_law_642 (t := 1119) (by decide) rfl g198 ?_
        replace H := ko2e H; obtain ⟨o199, H, rfl⟩ := H
        refine x_iconst (q := 646) (v := (0 : Int32)) dL_law_645 rfl (by decide) ?_
        cases H
        exact x_end ⟨(Or.inl rfl), dL_law_646, rfl, rfl⟩
    replace H := kite H; rcases H with ⟨g200, H⟩ | ⟨g200, H⟩
    · refine x_tableIn (v := (14 : Int32)) (off := 614) dL_law_33 g200 (by decide) (q := 647) (by decide) ?_
      refine x_aload_n (q := 648) dL_law_647 rfl rfl ?_
      refine x_aload_n (q := 649) dL_law_648 rfl rfl ?_
      refine x_iload_n (q := 650) dL_law_649 rfl rfl ?_
      refine x_iconst (q := 651) (v := (1 : Int32)) dL_law_650 rfl (by decide) ?_
      refine x_iadd (q := 652) dL_law_651 rfl ?_
      replace H := kif H; obtain ⟨g201, H⟩ := H
      refine x_sld (q := 653) (L := L) (xs := xs) dL_law_652 rfl (by rw [g1]; decide) (fun base sA U hZ => by rw [g1]; exact hZ.2.2.2.1) g201 ?_
      refine x_aload_n (q := 654) dL_law_653 rfl rfl ?_
      refine x_iload_n (q := 655) dL_law_654 rfl rfl ?_
      refine x_iconst (q := 656) (v := (2 : Int32)) dL_law_655 rfl (by decide) ?_
      refine x_iadd (q := 657) dL_law_656 rfl ?_
      replace H := kif H; obtain ⟨g202, H⟩ := H
      refine x_sld (q := 658) (L := L) (xs := xs) dL_law_657 rfl (by rw [g1]; decide) (fun base sA U hZ => by rw [g1]; exact hZ.2.2.2.1) g202 ?_
      replace H := kif H; obtain ⟨g203, H⟩ := H
      replace H := kbe H; obtain ⟨r204, c205, H⟩ := H
      have m206 := s_X11_would (Z := KZs xs L) s.2 v1 (xs (((s.1 + (1 : Int32))).toNatClampNeg)) (xs (((s.1 + (2 : Int32))).toNatClampNeg)) hn c205
      refine x_callV (q := 661) (as := [.int (xs (((s.1 + (1 : Int32))).toNatClampNeg)), .int (xs (((s.1 + (2 : Int32))).toNatClampNeg))]) (rest := []) dL_law_658 rfl kc_RL_76 kh_X11_would (by decide) (Nat.le_of_ble_eq_true rfl) m206 (ci := 11) (by exact ⟨rfl, by decide⟩) (k243 g203 (by decide) hn) ?_
      have n207 : (r204.2).1 = 243 := m206.1.full hn
      refine x_aload_n (q := 662) dL_law_661 rfl rfl ?_
      refine x_aload_n (q := 663) dL_law_662 rfl rfl ?_
      refine x_iload_n (q := 664) dL_law_663 rfl rfl ?_
      refine x_iconst (q := 665) (v := (1 : Int32)) dL_law_664 rfl (by decide) ?_
      refine x_iadd (q := 666) dL_law_665 rfl ?_
      refine x_sld (q := 667) (L := L) (xs := xs) dL_law_666 rfl (by rw [g1]; decide) (fun base sA U hZ => by rw [g1]; exact hZ.2.2.2.1) g201 ?_
      refine x_aload_n (q := 668) dL_law_667 rfl rfl ?_
      refine x_iload_n (q := 669) dL_law_668 rfl rfl ?_
      refine x_iconst (q := 670) (v := (2 : Int32)) dL_law_669 rfl (by decide) ?_
      refine x_iadd (q := 671) dL_law_670 rfl ?_
      refine x_sld (q := 672) (L := L) (xs := xs) dL_law_671 rfl (by rw [g1]; decide) (fun base sA U hZ => by rw [g1]; exact hZ.2.2.2.1) g202 ?_
      replace H := kif H; obtain ⟨g208, H⟩ := H
      replace H := kbe H; obtain ⟨r209, c210, H⟩ := H
      have m211 := s_X12_would (Z := KZs xs L) r204.2 v2 (xs (((s.1 + (1 : Int32))).toNatClampNeg)) (xs (((s.1 + (2 : Int32))).toNatClampNeg)) n207 c210
      refine x_callV (q := 675) (as := [.int (xs (((s.1 + (1 : Int32))).toNatClampNeg)), .int (xs (((s.1 + (2 : Int32))).toNatClampNeg))]) (rest := [.int r204.1]) dL_law_672 rfl kc_RL_79 kh_X12_would (by decide) (Nat.le_of_ble_eq_true rfl) m211 (ci := 12) (by exact ⟨rfl, by decide⟩) (k243 g208 (by decide) n207) ?_
      have n212 : (r209.2).1 = 243 := m211.1.full n207
      replace H := kite H; rcases H with ⟨g213, H⟩ | ⟨g213, H⟩
      · refine x_icmp_eq_t dL_law_675 (q := 1119) (by decide) g213 ?_
        refine x_sub (ls2 := [(0, .ref v0), (1, .ref v1), (2, .ref v2), (3, .int s.1)]) [0, 1, 2, 3] rfl ?_
        exact s_L_law_b1119 xs L r209.2 v0 v1 v2 s.1 n212 H
      · refine x_icmp_eq_f (q := 678) dL_law_675 (t := 1119) (by decide) rfl g213 ?_
        replace H := ko2e H; obtain ⟨o214, H, rfl⟩ := H
        refine x_iconst (q := 679) (v := (0 : Int32)) dL_law_678 rfl (by decide) ?_
        cases H
        exact x_end ⟨(Or.inl rfl), dL_law_679, rfl, rfl⟩
    replace H := kite H; rcases H with ⟨g215, H⟩ | ⟨g215, H⟩
    · refine x_tableIn (v := (15 : Int32)) (off := 647) dL_law_33 g215 (by decide) (q := 680) (by decide) ?_
      refine x_aload_n (q := 681) dL_law_680 rfl rfl ?_
      refine x_aload_n (q := 682) dL_law_681 rfl rfl ?_
      refine x_iload_n (q := 683) dL_law_682 rfl rfl ?_
      refine x_iconst (q := 684) (v := (1 : Int32)) dL_law_683 rfl (by decide) ?_
      refine x_iadd (q := 685) dL_law_684 rfl ?_
      replace H := kif H; obtain ⟨g216, H⟩ := H
      refine x_sld (q := 686) (L := L) (xs := xs) dL_law_685 rfl (by rw [g1]; decide) (fun base sA U hZ => by rw [g1]; exact hZ.2.2.2.1) g216 ?_
      replace H := kif H; obtain ⟨g217, H⟩ := H
      replace H := kbe H; obtain ⟨r218, c219, H⟩ := H
      have m220 := s_X11_merit (Z := KZs xs L) s.2 v1 (xs (((s.1 + (1 : Int32))).toNatClampNeg)) hn c219
      refine x_callV (q := 689) (as := [.int (xs (((s.1 + (1 : Int32))).toNatClampNeg))]) (rest := []) dL_law_686 rfl kc_RL_80 kh_X11_merit (by decide) (Nat.le_of_ble_eq_true rfl) m220 (ci := 11) (by exact ⟨rfl, by decide⟩) (k243 g217 (by decide) hn) ?_
      have n221 : (r218.2).1 = 243 := m220.1.full hn
      refine x_aload_n (q := 690) dL_law_689 rfl rfl ?_
      refine x_aload_n (q := 691) dL_law_690 rfl rfl ?_
      refine x_iload_n (q := 692) dL_law_691 rfl rfl ?_
      refine x_iconst (q := 693) (v := (1 : Int32)) dL_law_692 rfl (by decide) ?_
      refine x_iadd (q := 694) dL_law_693 rfl ?_
      refine x_sld (q := 695) (L := L) (xs := xs) dL_law_694 rfl (by rw [g1]; decide) (fun base sA U hZ => by rw [g1]; exact hZ.2.2.2.1) g216 ?_
      replace H := kif H; obtain ⟨g222, H⟩ := H
      replace H := kbe H; obtain ⟨r223, c224, H⟩ := H
      have m225 := s_X12_merit (Z := KZs xs L) r218.2 v2 (xs (((s.1 + (1 : Int32))).toNatClampNeg)) n221 c224
      refine x_callV (q := 698) (as := [.int (xs (((s.1 + (1 : Int32))).toNatClampNeg))]) (rest := [.long r218.1]) dL_law_695 rfl kc_RL_84 kh_X12_merit (by decide) (Nat.le_of_ble_eq_true rfl) m225 (ci := 12) (by exact ⟨rfl, by decide⟩) (k243 g222 (by decide) n221) ?_
      have n226 : (r223.2).1 = 243 := m225.1.full n221
      refine x_lcmp (q := 699) dL_law_698 rfl ?_
      replace H := kite H; rcases H with ⟨g227, H⟩ | ⟨g227, H⟩
      · refine x_if_eq_t dL_law_699 (q := 1119) (by decide) g227 ?_
        refine x_sub (ls2 := [(0, .ref v0), (1, .ref v1), (2, .ref v2), (3, .int s.1)]) [0, 1, 2, 3] rfl ?_
        exact s_L_law_b1119 xs L r223.2 v0 v1 v2 s.1 n226 H
      · refine x_if_eq_f (q := 702) dL_law_699 (t := 1119) (by decide) rfl g227 ?_
        replace H := ko2e H; obtain ⟨o228, H, rfl⟩ := H
        refine x_iconst (q := 703) (v := (0 : Int32)) dL_law_702 rfl (by decide) ?_
        cases H
        exact x_end ⟨(Or.inl rfl), dL_law_703, rfl, rfl⟩
    replace H := kite H; rcases H with ⟨g229, H⟩ | ⟨g229, H⟩
    · refine x_tableIn (v := (16 : Int32)) (off := 671) dL_law_33 g229 (by decide) (q := 704) (by decide) ?_
      refine x_aload_n (q := 705) dL_law_704 rfl rfl ?_
      replace H := kif H; obtain ⟨g230, H⟩ := H
      replace H := kbe H; obtain ⟨r231, c232, H⟩ := H
      have m233 := s_X11_best (Z := KZs xs L) s.2 v1 hn c232
      refine x_callV (q := 708) (as := []) (rest := []) dL_law_705 rfl kc_RL_85 kh_X11_best (by decide) (Nat.le_of_ble_eq_true rfl) m233 (ci := 11) (by exact ⟨rfl, by decide⟩) (k243 g230 (by decide) hn) ?_
      have n234 : (r231.2).1 = 243 := m233.1.full hn
      refine x_aload_n (q := 709) dL_law_708 rfl rfl ?_
      replace H := kif H; obtain ⟨g235, H⟩ := H
      replace H := kbe H; obtain ⟨r236, c237, H⟩ := H
      have m238 := s_X12_best (Z := KZs xs L) r231.2 v2 n234 c237
      refine x_callV (q := 712) (as := []) (rest := [.int r231.1]) dL_law_709 rfl kc_RL_88 kh_X12_best (by decide) (Nat.le_of_ble_eq_true rfl) m238 (ci := 12) (by exact ⟨rfl, by decide⟩) (k243 g235 (by decide) n234) ?_
      have n239 : (r236.2).1 = 243 := m238.1.full n234
      replace H := kite H; rcases H with ⟨g240, H⟩ | ⟨g240, H⟩
      · refine x_icmp_eq_t dL_law_712 (q := 1119) (by decide) g240 ?_
        refine x_sub (ls2 := [(0, .ref v0), (1, .ref v1), (2, .ref v2), (3, .int s.1)]) [0, 1, 2, 3] rfl ?_
        exact s_L_law_b1119 xs L r236.2 v0 v1 v2 s.1 n239 H
      · refine x_icmp_eq_f (q := 715) dL_law_712 (t := 1119) (by decide) rfl g240 ?_
        replace H := ko2e H; obtain ⟨o241, H, rfl⟩ := H
        refine x_iconst (q := 716) (v := (0 : Int32)) dL_law_715 rfl (by decide) ?_
        cases H
        exact x_end ⟨(Or.inl rfl), dL_law_716, rfl, rfl⟩
    replace H := kite H; rcases H with ⟨g242, H⟩ | ⟨g242, H⟩
    · refine x_tableIn (v := (17 : Int32)) (off := 684) dL_law_33 g242 (by decide) (q := 717) (by decide) ?_
      refine x_aload_n (q := 718) dL_law_717 rfl rfl ?_
      refine x_aload_n (q := 719) dL_law_718 rfl rfl ?_
      refine x_iload_n (q := 720) dL_law_719 rfl rfl ?_
      refine x_iconst (q := 721) (v := (1 : Int32)) dL_law_720 rfl (by decide) ?_
      refine x_iadd (q := 722) dL_law_721 rfl ?_
      replace H := kif H; obtain ⟨g243, H⟩ := H
      refine x_sld (q := 723) (L := L) (xs := xs) dL_law_722 rfl (by rw [g1]; decide) (fun base sA U hZ => by rw [g1]; exact hZ.2.2.2.1) g243 ?_
      refine x_aload_n (q := 724) dL_law_723 rfl rfl ?_
      refine x_iload_n (q := 725) dL_law_724 rfl rfl ?_
      refine x_iconst (q := 726) (v := (2 : Int32)) dL_law_725 rfl (by decide) ?_
      refine x_iadd (q := 727) dL_law_726 rfl ?_
      replace H := kif H; obtain ⟨g244, H⟩ := H
      refine x_sld (q := 728) (L := L) (xs := xs) dL_law_727 rfl (by rw [g1]; decide) (fun base sA U hZ => by rw [g1]; exact hZ.2.2.2.1) g244 ?_
      replace H := kif H; obtain ⟨g245, H⟩ := H
      replace H := kbe H; obtain ⟨r246, c247, H⟩ := H
      have m248 := s_X11_parts (Z := KZs xs L) s.2 v1 (xs (((s.1 + (1 : Int32))).toNatClampNeg)) (xs (((s.1 + (2 : Int32))).toNatClampNeg)) hn c247
      refine x_callV (q := 731) (as := [.int (xs (((s.1 + (1 : Int32))).toNatClampNeg)), .int (xs (((s.1 + (2 : Int32))).toNatClampNeg))]) (rest := []) dL_law_728 rfl kc_RL_89 kh_X11_parts (by decide) (Nat.le_of_ble_eq_true rfl) m248 (ci := 11) (by exact ⟨rfl, by decide⟩) (k243 g245 (by decide) hn) ?_
      have n249 : (r246.2).1 = 243 := m248.1.full hn
      refine x_aload_n (q := 732) dL_law_731 rfl rfl ?_
      refine x_aload_n (q := 733) dL_law_732 rfl rfl ?_
      refine x_iload_n (q := 734) dL_law_733 rfl rfl ?_
      refine x_iconst (q := 735) (v := (1 : Int32)) dL_law_734 rfl (by decide) ?_
      refine x_iadd (q := 736) dL_law_735 rfl ?_
      refine x_sld (q := 737) (L := L) (xs := xs) dL_law_736 rfl (by rw [g1]; decide) (fun base sA U hZ => by rw [g1]; exact hZ.2.2.2.1) g243 ?_
      refine x_aload_n (q := 738) dL_law_737 rfl rfl ?_
      refine x_iload_n (q := 739) dL_law_738 rfl rfl ?_
      refine x_iconst (q := 740) (v := (2 : Int32)) dL_law_739 rfl (by decide) ?_
      refine x_iadd (q := 741) dL_law_740 rfl ?_
      refine x_sld (q := 742) (L := L) (xs := xs) dL_law_741 rfl (by rw [g1]; decide) (fun base sA U hZ => by rw [g1]; exact hZ.2.2.2.1) g244 ?_
      replace H := kif H; obtain ⟨g250, H⟩ := H
      replace H := kbe H; obtain ⟨r251, c252, H⟩ := H
      have m253 := s_X12_parts (Z := KZs xs L) r246.2 v2 (xs (((s.1 + (1 : Int32))).toNatClampNeg)) (xs (((s.1 + (2 : Int32))).toNatClampNeg)) n249 c252
      refine x_callV (q := 745) (as := [.int (xs (((s.1 + (1 : Int32))).toNatClampNeg)), .int (xs (((s.1 + (2 : Int32))).toNatClampNeg))]) (rest := [.int r246.1]) dL_law_742 rfl kc_RL_92 kh_X12_parts (by decide) (Nat.le_of_ble_eq_true rfl) m253 (ci := 12) (by exact ⟨rfl, by decide⟩) (k243 g250 (by decide) n249) ?_
      have n254 : (r251.2).1 = 243 := m253.1.full n249
      replace H := kite H; rcases H with ⟨g255, H⟩ | ⟨g255, H⟩
      · refine x_icmp_eq_t dL_law_745 (q := 1119) (by decide) g255 ?_
        refine x_sub (ls2 := [(0, .ref v0), (1, .ref v1), (2, .ref v2), (3, .int s.1)]) [0, 1, 2, 3] rfl ?_
        exact s_L_law_b1119 xs L r251.2 v0 v1 v2 s.1 n254 H
      · refine x_icmp_eq_f (q := 748) dL_law_745 (t := 1119) (by decide) rfl g255 ?_
        replace H := ko2e H; obtain ⟨o256, H, rfl⟩ := H
        refine x_iconst (q := 749) (v := (0 : Int32)) dL_law_748 rfl (by decide) ?_
        cases H
        exact x_end ⟨(Or.inl rfl), dL_law_749, rfl, rfl⟩
    replace H := kite H; rcases H with ⟨g257, H⟩ | ⟨g257, H⟩
    · refine x_tableIn (v := (18 : Int32)) (off := 717) dL_law_33 g257 (by decide) (q := 750) (by decide) ?_
      refine x_aload_n (q := 751) dL_law_750 rfl rfl ?_
      refine x_aload_n (q := 752) dL_law_751 rfl rfl ?_
      refine x_iload_n (q := 753) dL_law_752 rfl rfl ?_
      refine x_iconst (q := 754) (v := (1 : Int32)) dL_law_753 rfl (by decide) ?_
      refine x_iadd (q := 755) dL_law_754 rfl ?_
      replace H := kif H; obtain ⟨g258, H⟩ := H
      refine x_sld (q := 756) (L := L) (xs := xs) dL_law_755 rfl (by rw [g1]; decide) (fun base sA U hZ => by rw [g1]; exact hZ.2.2.2.1) g258 ?_
      replace H := kif H; obtain ⟨g259, H⟩ := H
      replace H := kbe H; obtain ⟨r260, c261, H⟩ := H
      have m262 := s_X11_sure (Z := KZs xs L) s.2 v1 (xs (((s.1 + (1 : Int32))).toNatClampNeg)) hn c261
      refine x_callV (q := 759) (as := [.int (xs (((s.1 + (1 : Int32))).toNatClampNeg))]) (rest := []) dL_law_756 rfl kc_RL_93 kh_X11_sure (by decide) (Nat.le_of_ble_eq_true rfl) m262 (ci := 11) (by exact ⟨rfl, by decide⟩) (k243 g259 (by decide) hn) ?_
      have n263 : (r260.2).1 = 243 := m262.1.full hn
      refine x_aload_n (q := 760) dL_law_759 rfl rfl ?_
      refine x_aload_n (q := 761) dL_law_760 rfl rfl ?_
      refine x_iload_n (q := 762) dL_law_761 rfl rfl ?_
      refine x_iconst (q := 763) (v := (1 : Int32)) dL_law_762 rfl (by decide) ?_
      refine x_iadd (q := 764) dL_law_763 rfl ?_
      refine x_sld (q := 765) (L := L) (xs := xs) dL_law_764 rfl (by rw [g1]; decide) (fun base sA U hZ => by rw [g1]; exact hZ.2.2.2.1) g258 ?_
      replace H := kif H; obtain ⟨g264, H⟩ := H
      replace H := kbe H; obtain ⟨r265, c266, H⟩ := H
      have m267 := s_X12_sure (Z := KZs xs L) r260.2 v2 (xs (((s.1 + (1 : Int32))).toNatClampNeg)) n263 c266
      refine x_callV (q := 768) (as := [.int (xs (((s.1 + (1 : Int32))).toNatClampNeg))]) (rest := [.int r260.1]) dL_law_765 rfl kc_RL_96 kh_X12_sure (by decide) (Nat.le_of_ble_eq_true rfl) m267 (ci := 12) (by exact ⟨rfl, by decide⟩) (k243 g264 (by decide) n263) ?_
      have n268 : (r265.2).1 = 243 := m267.1.full n263
      replace H := kite H; rcases H with ⟨g269, H⟩ | ⟨g269, H⟩
      · refine x_icmp_eq_t dL_law_768 (q := 1119) (by decide) g269 ?_
        refine x_sub (ls2 := [(0, .ref v0), (1, .ref v1), (2, .ref v2), (3, .int s.1)]) [0, 1, 2, 3] rfl ?_
        exact s_L_law_b1119 xs L r265.2 v0 v1 v2 s.1 n268 H
      · refine x_icmp_eq_f (q := 771) dL_law_768 (t := 1119) (by decide) rfl g269 ?_
        replace H := ko2e H; obtain ⟨o270, H, rfl⟩ := H
        refine x_iconst (q := 772) (v := (0 : Int32)) dL_law_771 rfl (by decide) ?_
        cases H
        exact x_end ⟨(Or.inl rfl), dL_law_772, rfl, rfl⟩
    replace H := kite H; rcases H with ⟨g271, H⟩ | ⟨g271, H⟩
    · refine x_tableIn (v := (19 : Int32)) (off := 740) dL_law_33 g271 (by decide) (q := 773) (by decide) ?_
      refine x_aload_n (q := 774) dL_law_773 rfl rfl ?_
      refine x_aload_n (q := 775) dL_law_774 rfl rfl ?_
      refine x_iload_n (q := 776) dL_law_775 rfl rfl ?_
      refine x_iconst (q := 777) (v := (1 : Int32)) dL_law_776 rfl (by decide) ?_
      refine x_iadd (q := 778) dL_law_777 rfl ?_
      replace H := kif H; obtain ⟨g272, H⟩ := H
      refine x_sld (q := 779) (L := L) (xs := xs) dL_law_778 rfl (by rw [g1]; decide) (fun base sA U hZ => by rw [g1]; exact hZ.2.2.2.1) g272 ?_
      refine x_aload_n (q := 780) dL_law_779 rfl rfl ?_
      refine x_iload_n (q := 781) dL_law_780 rfl rfl ?_
      refine x_iconst (q := 782) (v := (2 : Int32)) dL_law_781 rfl (by decide) ?_
      refine x_iadd (q := 783) dL_law_782 rfl ?_
      replace H := kif H; obtain ⟨g273, H⟩ := H
      refine x_sld (q := 784) (L := L) (xs := xs) dL_law_783 rfl (by rw [g1]; decide) (fun base sA U hZ => by rw [g1]; exact hZ.2.2.2.1) g273 ?_
      replace H := kif H; obtain ⟨g274, H⟩ := H
      replace H := kbe H; obtain ⟨r275, c276, H⟩ := H
      have m277 := s_X11_ahead (Z := KZs xs L) s.2 v1 (xs (((s.1 + (1 : Int32))).toNatClampNeg)) (xs (((s.1 + (2 : Int32))).toNatClampNeg)) hn c276
      refine x_callV (q := 787) (as := [.int (xs (((s.1 + (1 : Int32))).toNatClampNeg)), .int (xs (((s.1 + (2 : Int32))).toNatClampNeg))]) (rest := []) dL_law_784 rfl kc_RL_97 kh_X11_ahead (by decide) (Nat.le_of_ble_eq_true rfl) m277 (ci := 11) (by exact ⟨rfl, by decide⟩) (k243 g274 (by decide) hn) ?_
      have n278 : (r275.2).1 = 243 := m277.1.full hn
      refine x_aload_n (q := 788) dL_law_787 rfl rfl ?_
      refine x_aload_n (q := 789) dL_law_788 rfl rfl ?_
      refine x_iload_n (q := 790) dL_law_789 rfl rfl ?_
      refine x_iconst (q := 791) (v := (1 : Int32)) dL_law_790 rfl (by decide) ?_
      refine x_iadd (q := 792) dL_law_791 rfl ?_
      refine x_sld (q := 793) (L := L) (xs := xs) dL_law_792 rfl (by rw [g1]; decide) (fun base sA U hZ => by rw [g1]; exact hZ.2.2.2.1) g272 ?_
      refine x_aload_n (q := 794) dL_law_793 rfl rfl ?_
      refine x_iload_n (q := 795) dL_law_794 rfl rfl ?_
      refine x_iconst (q := 796) (v := (2 : Int32)) dL_law_795 rfl (by decide) ?_
      refine x_iadd (q := 797) dL_law_796 rfl ?_
      refine x_sld (q := 798) (L := L) (xs := xs) dL_law_797 rfl (by rw [g1]; decide) (fun base sA U hZ => by rw [g1]; exact hZ.2.2.2.1) g273 ?_
      replace H := kif H; obtain ⟨g279, H⟩ := H
      replace H := kbe H; obtain ⟨r280, c281, H⟩ := H
      have m282 := s_X12_ahead (Z := KZs xs L) r275.2 v2 (xs (((s.1 + (1 : Int32))).toNatClampNeg)) (xs (((s.1 + (2 : Int32))).toNatClampNeg)) n278 c281
      refine x_callV (q := 801) (as := [.int (xs (((s.1 + (1 : Int32))).toNatClampNeg)), .int (xs (((s.1 + (2 : Int32))).toNatClampNeg))]) (rest := [.int r275.1]) dL_law_798 rfl kc_RL_100 kh_X12_ahead (by decide) (Nat.le_of_ble_eq_true rfl) m282 (ci := 12) (by exact ⟨rfl, by decide⟩) (k243 g279 (by decide) n278) ?_
      have n283 : (r280.2).1 = 243 := m282.1.full n278
      replace H := kite H; rcases H with ⟨g284, H⟩ | ⟨g284, H⟩
      · refine x_icmp_eq_t dL_law_801 (q := 1119) (by decide) g284 ?_
        refine x_sub (ls2 := [(0, .ref v0), (1, .ref v1), (2, .ref v2), (3, .int s.1)]) [0, 1, 2, 3] rfl ?_
        exact s_L_law_b1119 xs L r280.2 v0 v1 v2 s.1 n283 H
      · refine x_icmp_eq_f (q := 804) dL_law_801 (t := 1119) (by decide) rfl g284 ?_
        replace H := ko2e H; obtain ⟨o285, H, rfl⟩ := H
        refine x_iconst (q := 805) (v := (0 : Int32)) dL_law_804 rfl (by decide) ?_
        cases H
        exact x_end ⟨(Or.inl rfl), dL_law_805, rfl, rfl⟩
    replace H := kite H; rcases H with ⟨g286, H⟩ | ⟨g286, H⟩
    · refine x_tableIn (v := (20 : Int32)) (off := 773) dL_law_33 g286 (by decide) (q := 806) (by decide) ?_
      refine x_aload_n (q := 807) dL_law_806 rfl rfl ?_
      refine x_aload_n (q := 808) dL_law_807 rfl rfl ?_
      refine x_iload_n (q := 809) dL_law_808 rfl rfl ?_
      refine x_iconst (q := 810) (v := (1 : Int32)) dL_law_809 rfl (by decide) ?_
      refine x_iadd (q := 811) dL_law_810 rfl ?_
      replace H := kif H; obtain ⟨g287, H⟩ := H
      refine x_sld (q := 812) (L := L) (xs := xs) dL_law_811 rfl (by rw [g1]; decide) (fun base sA U hZ => by rw [g1]; exact hZ.2.2.2.1) g287 ?_
      refine x_aload_n (q := 813) dL_law_812 rfl rfl ?_
      refine x_iload_n (q := 814) dL_law_813 rfl rfl ?_
      refine x_iconst (q := 815) (v := (2 : Int32)) dL_law_814 rfl (by decide) ?_
      refine x_iadd (q := 816) dL_law_815 rfl ?_
      replace H := kif H; obtain ⟨g288, H⟩ := H
      refine x_sld (q := 817) (L := L) (xs := xs) dL_law_816 rfl (by rw [g1]; decide) (fun base sA U hZ => by rw [g1]; exact hZ.2.2.2.1) g288 ?_
      replace H := kif H; obtain ⟨g289, H⟩ := H
      replace H := kbe H; obtain ⟨r290, c291, H⟩ := H
      have m292 := s_X11_known (Z := KZs xs L) s.2 v1 (xs (((s.1 + (1 : Int32))).toNatClampNeg)) (xs (((s.1 + (2 : Int32))).toNatClampNeg)) hn c291
      refine x_callV (q := 820) (as := [.int (xs (((s.1 + (1 : Int32))).toNatClampNeg)), .int (xs (((s.1 + (2 : Int32))).toNatClampNeg))]) (rest := []) dL_law_817 rfl kc_RL_101 kh_X11_known (by decide) (Nat.le_of_ble_eq_true rfl) m292 (ci := 11) (by exact ⟨rfl, by decide⟩) (k243 g289 (by decide) hn) ?_
      have n293 : (r290.2).1 = 243 := m292.1.full hn
      refine x_aload_n (q := 821) dL_law_820 rfl rfl ?_
      refine x_aload_n (q := 822) dL_law_821 rfl rfl ?_
      refine x_iload_n (q := 823) dL_law_822 rfl rfl ?_
      refine x_iconst (q := 824) (v := (1 : Int32)) dL_law_823 rfl (by decide) ?_
      refine x_iadd (q := 825) dL_law_824 rfl ?_
      refine x_sld (q := 826) (L := L) (xs := xs) dL_law_825 rfl (by rw [g1]; decide) (fun base sA U hZ => by rw [g1]; exact hZ.2.2.2.1) g287 ?_
      refine x_aload_n (q := 827) dL_law_826 rfl rfl ?_
      refine x_iload_n (q := 828) dL_law_827 rfl rfl ?_
      refine x_iconst (q := 829) (v := (2 : Int32)) dL_law_828 rfl (by decide) ?_
      refine x_iadd (q := 830) dL_law_829 rfl ?_
      refine x_sld (q := 831) (L := L) (xs := xs) dL_law_830 rfl (by rw [g1]; decide) (fun base sA U hZ => by rw [g1]; exact hZ.2.2.2.1) g288 ?_
      replace H := kif H; obtain ⟨g294, H⟩ := H
      replace H := kbe H; obtain ⟨r295, c296, H⟩ := H
      have m297 := s_X12_known (Z := KZs xs L) r290.2 v2 (xs (((s.1 + (1 : Int32))).toNatClampNeg)) (xs (((s.1 + (2 : Int32))).toNatClampNeg)) n293 c296
      refine x_callV (q := 834) (as := [.int (xs (((s.1 + (1 : Int32))).toNatClampNeg)), .int (xs (((s.1 + (2 : Int32))).toNatClampNeg))]) (rest := [.int r290.1]) dL_law_831 rfl kc_RL_104 kh_X12_known (by decide) (Nat.le_of_ble_eq_true rfl) m297 (ci := 12) (by exact ⟨rfl, by decide⟩) (k243 g294 (by decide) n293) ?_
      have n298 : (r295.2).1 = 243 := m297.1.full n293
      replace H := kite H; rcases H with ⟨g299, H⟩ | ⟨g299, H⟩
      · refine x_icmp_eq_t dL_law_834 (q := 1119) (by decide) g299 ?_
        refine x_sub (ls2 := [(0, .ref v0), (1, .ref v1), (2, .ref v2), (3, .int s.1)]) [0, 1, 2, 3] rfl ?_
        exact s_L_law_b1119 xs L r295.2 v0 v1 v2 s.1 n298 H
      · refine x_icmp_eq_f (q := 837) dL_law_834 (t := 1119) (by decide) rfl g299 ?_
        replace H := ko2e H; obtain ⟨o300, H, rfl⟩ := H
        refine x_iconst (q := 838) (v := (0 : Int32)) dL_law_837 rfl (by decide) ?_
        cases H
        exact x_end ⟨(Or.inl rfl), dL_law_838, rfl, rfl⟩
    replace H := kite H; rcases H with ⟨g301, H⟩ | ⟨g301, H⟩
    · refine x_tableIn (v := (21 : Int32)) (off := 806) dL_law_33 g301 (by decide) (q := 839) (by decide) ?_
      refine x_aload_n (q := 840) dL_law_839 rfl rfl ?_
      replace H := kif H; obtain ⟨g302, H⟩ := H
      replace H := kbe H; obtain ⟨r303, c304, H⟩ := H
      have m305 := s_X11_tell (Z := KZs xs L) s.2 v1 hn c304
      refine x_callV (q := 843) (as := []) (rest := []) dL_law_840 rfl kc_RL_105 kh_X11_tell (by decide) (Nat.le_of_ble_eq_true rfl) m305 (ci := 11) (by exact ⟨rfl, by decide⟩) (k243 g302 (by decide) hn) ?_
      have n306 : (r303.2).1 = 243 := m305.1.full hn
      refine x_aload_n (q := 844) dL_law_843 rfl rfl ?_
      replace H := kif H; obtain ⟨g307, H⟩ := H
      replace H := kbe H; obtain ⟨r308, c309, H⟩ := H
      have m310 := s_X12_tell (Z := KZs xs L) r303.2 v2 n306 c309
      refine x_callV (q := 847) (as := []) (rest := [.int r303.1]) dL_law_844 rfl kc_RL_108 kh_X12_tell (by decide) (Nat.le_of_ble_eq_true rfl) m310 (ci := 12) (by exact ⟨rfl, by decide⟩) (k243 g307 (by decide) n306) ?_
      have n311 : (r308.2).1 = 243 := m310.1.full n306
      replace H := kite H; rcases H with ⟨g312, H⟩ | ⟨g312, H⟩
      · refine x_icmp_eq_t dL_law_847 (q := 1119) (by decide) g312 ?_
        refine x_sub (ls2 := [(0, .ref v0), (1, .ref v1), (2, .ref v2), (3, .int s.1)]) [0, 1, 2, 3] rfl ?_
        exact s_L_law_b1119 xs L r308.2 v0 v1 v2 s.1 n311 H
      · refine x_icmp_eq_f (q := 850) dL_law_847 (t := 1119) (by decide) rfl g312 ?_
        replace H := ko2e H; obtain ⟨o313, H, rfl⟩ := H
        refine x_iconst (q := 851) (v := (0 : Int32)) dL_law_850 rfl (by decide) ?_
        cases H
        exact x_end ⟨(Or.inl rfl), dL_law_851, rfl, rfl⟩
    replace H := kite H; rcases H with ⟨g314, H⟩ | ⟨g314, H⟩
    · refine x_tableIn (v := (22 : Int32)) (off := 819) dL_law_33 g314 (by decide) (q := 852) (by decide) ?_
      refine x_aload_n (q := 853) dL_law_852 rfl rfl ?_
      replace H := kif H; obtain ⟨g315, H⟩ := H
      replace H := kbe H; obtain ⟨r316, c317, H⟩ := H
      have m318 := s_X11_trick (Z := KZs xs L) s.2 v1 hn c317
      refine x_callV (q := 856) (as := []) (rest := []) dL_law_853 rfl kc_RL_109 kh_X11_trick (by decide) (Nat.le_of_ble_eq_true rfl) m318 (ci := 11) (by exact ⟨rfl, by decide⟩) (k243 g315 (by decide) hn) ?_
      have n319 : (r316.2).1 = 243 := m318.1.full hn
      refine x_aload_n (q := 857) dL_law_856 rfl rfl ?_
      replace H := kif H; obtain ⟨g320, H⟩ := H
      replace H := kbe H; obtain ⟨r321, c322, H⟩ := H
      have m323 := s_X12_trick (Z := KZs xs L) r316.2 v2 n319 c322
      refine x_callV (q := 860) (as := []) (rest := [.int r316.1]) dL_law_857 rfl kc_RL_112 kh_X12_trick (by decide) (Nat.le_of_ble_eq_true rfl) m323 (ci := 12) (by exact ⟨rfl, by decide⟩) (k243 g320 (by decide) n319) ?_
      have n324 : (r321.2).1 = 243 := m323.1.full n319
      replace H := kite H; rcases H with ⟨g325, H⟩ | ⟨g325, H⟩
      · refine x_icmp_eq_t dL_law_860 (q := 1119) (by decide) g325 ?_
        refine x_sub (ls2 := [(0, .ref v0), (1, .ref v1), (2, .ref v2), (3, .int s.1)]) [0, 1, 2, 3] rfl ?_
        exact s_L_law_b1119 xs L r321.2 v0 v1 v2 s.1 n324 H
      · refine x_icmp_eq_f (q := 863) dL_law_860 (t := 1119) (by decide) rfl g325 ?_
        replace H := ko2e H; obtain ⟨o326, H, rfl⟩ := H
        refine x_iconst (q := 864) (v := (0 : Int32)) dL_law_863 rfl (by decide) ?_
        cases H
        exact x_end ⟨(Or.inl rfl), dL_law_864, rfl, rfl⟩
    replace H := kite H; rcases H with ⟨g327, H⟩ | ⟨g327, H⟩
    · refine x_tableIn (v := (23 : Int32)) (off := 832) dL_law_33 g327 (by decide) (q := 865) (by decide) ?_
      refine x_aload_n (q := 866) dL_law_865 rfl rfl ?_
      refine x_aload_n (q := 867) dL_law_866 rfl rfl ?_
      refine x_iload_n (q := 868) dL_law_867 rfl rfl ?_
      refine x_iconst (q := 869) (v := (1 : Int32)) dL_law_868 rfl (by decide) ?_
      refine x_iadd (q := 870) dL_law_869 rfl ?_
      replace H := kif H; obtain ⟨g328, H⟩ := H
      refine x_sld (q := 871) (L := L) (xs := xs) dL_law_870 rfl (by rw [g1]; decide) (fun base sA U hZ => by rw [g1]; exact hZ.2.2.2.1) g328 ?_
      refine x_aload_n (q := 872) dL_law_871 rfl rfl ?_
      refine x_iload_n (q := 873) dL_law_872 rfl rfl ?_
      refine x_iconst (q := 874) (v := (2 : Int32)) dL_law_873 rfl (by decide) ?_
      refine x_iadd (q := 875) dL_law_874 rfl ?_
      replace H := kif H; obtain ⟨g329, H⟩ := H
      refine x_sld (q := 876) (L := L) (xs := xs) dL_law_875 rfl (by rw [g1]; decide) (fun base sA U hZ => by rw [g1]; exact hZ.2.2.2.1) g329 ?_
      refine x_aload_n (q := 877) dL_law_876 rfl rfl ?_
      refine x_iload_n (q := 878) dL_law_877 rfl rfl ?_
      refine x_iconst (q := 879) (v := (3 : Int32)) dL_law_878 rfl (by decide) ?_
      refine x_iadd (q := 880) dL_law_879 rfl ?_
      replace H := kif H; obtain ⟨g330, H⟩ := H
      refine x_sld (q := 881) (L := L) (xs := xs) dL_law_880 rfl (by rw [g1]; decide) (fun base sA U hZ => by rw [g1]; exact hZ.2.2.2.1) g330 ?_
      replace H := kif H; obtain ⟨g331, H⟩ := H
      replace H := kbe H; obtain ⟨r332, c333, H⟩ := H
      have m334 := s_X11_hear (Z := KZs xs L) s.2 v1 (xs (((s.1 + (1 : Int32))).toNatClampNeg)) (xs (((s.1 + (2 : Int32))).toNatClampNeg)) (xs (((s.1 + (3 : Int32))).toNatClampNeg)) hn c333
      refine x_callV (q := 884) (as := [.int (xs (((s.1 + (1 : Int32))).toNatClampNeg)), .int (xs (((s.1 + (2 : Int32))).toNatClampNeg)), .int (xs (((s.1 + (3 : Int32))).toNatClampNeg))]) (rest := []) dL_law_881 rfl kc_RL_113 kh_X11_hear (by decide) (Nat.le_of_ble_eq_true rfl) m334 (ci := 11) (by exact ⟨rfl, by decide⟩) (k243 g331 (by decide) hn) ?_
      have n335 : (r332.2).1 = 243 := m334.1.full hn
      refine x_aload_n (q := 885) dL_law_884 rfl rfl ?_
      refine x_aload_n (q := 886) dL_law_885 rfl rfl ?_
      refine x_iload_n (q := 887) dL_law_886 rfl rfl ?_
      refine x_iconst (q := 888) (v := (1 : Int32)) dL_law_887 rfl (by decide) ?_
      refine x_iadd (q := 889) dL_law_888 rfl ?_
      refine x_sld (q := 890) (L := L) (xs := xs) dL_law_889 rfl (by rw [g1]; decide) (fun base sA U hZ => by rw [g1]; exact hZ.2.2.2.1) g328 ?_
      refine x_aload_n (q := 891) dL_law_890 rfl rfl ?_
      refine x_iload_n (q := 892) dL_law_891 rfl rfl ?_
      refine x_iconst (q := 893) (v := (2 : Int32)) dL_law_892 rfl (by decide) ?_
      refine x_iadd (q := 894) dL_law_893 rfl ?_
      refine x_sld (q := 895) (L := L) (xs := xs) dL_law_894 rfl (by rw [g1]; decide) (fun base sA U hZ => by rw [g1]; exact hZ.2.2.2.1) g329 ?_
      refine x_aload_n (q := 896) dL_law_895 rfl rfl ?_
      refine x_iload_n (q := 897) dL_law_896 rfl rfl ?_
      refine x_iconst (q := 898) (v := (3 : Int32)) dL_law_897 rfl (by decide) ?_
      refine x_iadd (q := 899) dL_law_898 rfl ?_
      refine x_sld (q := 900) (L := L) (xs := xs) dL_law_899 rfl (by rw [g1]; decide) (fun base sA U hZ => by rw [g1]; exact hZ.2.2.2.1) g330 ?_
      replace H := kif H; obtain ⟨g336, H⟩ := H
      replace H := kbe H; obtain ⟨r337, c338, H⟩ := H
      have m339 := s_X12_hear (Z := KZs xs L) r332.2 v2 (xs (((s.1 + (1 : Int32))).toNatClampNeg)) (xs (((s.1 + (2 : Int32))).toNatClampNeg)) (xs (((s.1 + (3 : Int32))).toNatClampNeg)) n335 c338
      refine x_callV (q := 903) (as := [.int (xs (((s.1 + (1 : Int32))).toNatClampNeg)), .int (xs (((s.1 + (2 : Int32))).toNatClampNeg)), .int (xs (((s.1 + (3 : Int32))).toNatClampNeg))]) (rest := [.int r332.1]) dL_law_900 rfl kc_RL_117 kh_X12_hear (by decide) (Nat.le_of_ble_eq_true rfl) m339 (ci := 12) (by exact ⟨rfl, by decide⟩) (k243 g336 (by decide) n335) ?_
      have n340 : (r337.2).1 = 243 := m339.1.full n335
      replace H := kite H; rcases H with ⟨g341, H⟩ | ⟨g341, H⟩
      · refine x_icmp_eq_t dL_law_903 (q := 1119) (by decide) g341 ?_
        refine x_sub (ls2 := [(0, .ref v0), (1, .ref v1), (2, .ref v2), (3, .int s.1)]) [0, 1, 2, 3] rfl ?_
        exact s_L_law_b1119 xs L r337.2 v0 v1 v2 s.1 n340 H
      · refine x_icmp_eq_f (q := 906) dL_law_903 (t := 1119) (by decide) rfl g341 ?_
        replace H := ko2e H; obtain ⟨o342, H, rfl⟩ := H
        refine x_iconst (q := 907) (v := (0 : Int32)) dL_law_906 rfl (by decide) ?_
        cases H
        exact x_end ⟨(Or.inl rfl), dL_law_907, rfl, rfl⟩
    replace H := kite H; rcases H with ⟨g343, H⟩ | ⟨g343, H⟩
    · refine x_tableIn (v := (24 : Int32)) (off := 875) dL_law_33 g343 (by decide) (q := 908) (by decide) ?_
      refine x_aload_n (q := 909) dL_law_908 rfl rfl ?_
      refine x_aload_n (q := 910) dL_law_909 rfl rfl ?_
      refine x_iload_n (q := 911) dL_law_910 rfl rfl ?_
      refine x_iconst (q := 912) (v := (1 : Int32)) dL_law_911 rfl (by decide) ?_
      refine x_iadd (q := 913) dL_law_912 rfl ?_
      replace H := kif H; obtain ⟨g344, H⟩ := H
      refine x_sld (q := 914) (L := L) (xs := xs) dL_law_913 rfl (by rw [g1]; decide) (fun base sA U hZ => by rw [g1]; exact hZ.2.2.2.1) g344 ?_
      refine x_aload_n (q := 915) dL_law_914 rfl rfl ?_
      refine x_iload_n (q := 916) dL_law_915 rfl rfl ?_
      refine x_iconst (q := 917) (v := (2 : Int32)) dL_law_916 rfl (by decide) ?_
      refine x_iadd (q := 918) dL_law_917 rfl ?_
      replace H := kif H; obtain ⟨g345, H⟩ := H
      refine x_sld (q := 919) (L := L) (xs := xs) dL_law_918 rfl (by rw [g1]; decide) (fun base sA U hZ => by rw [g1]; exact hZ.2.2.2.1) g345 ?_
      refine x_aload_n (q := 920) dL_law_919 rfl rfl ?_
      refine x_iload_n (q := 921) dL_law_920 rfl rfl ?_
      refine x_iconst (q := 922) (v := (3 : Int32)) dL_law_921 rfl (by decide) ?_
      refine x_iadd (q := 923) dL_law_922 rfl ?_
      replace H := kif H; obtain ⟨g346, H⟩ := H
      refine x_sld (q := 924) (L := L) (xs := xs) dL_law_923 rfl (by rw [g1]; decide) (fun base sA U hZ => by rw [g1]; exact hZ.2.2.2.1) g346 ?_
      replace H := kif H; obtain ⟨g347, H⟩ := H
      replace H := kbe H; obtain ⟨r348, c349, H⟩ := H
      have m350 := s_X11_look (Z := KZs xs L) s.2 v1 (xs (((s.1 + (1 : Int32))).toNatClampNeg)) (xs (((s.1 + (2 : Int32))).toNatClampNeg)) (xs (((s.1 + (3 : Int32))).toNatClampNeg)) hn c349
      refine x_callV (q := 927) (as := [.int (xs (((s.1 + (1 : Int32))).toNatClampNeg)), .int (xs (((s.1 + (2 : Int32))).toNatClampNeg)), .int (xs (((s.1 + (3 : Int32))).toNatClampNeg))]) (rest := []) dL_law_924 rfl kc_RL_118 kh_X11_look (by decide) (Nat.le_of_ble_eq_true rfl) m350 (ci := 11) (by exact ⟨rfl, by decide⟩) (k243 g347 (by decide) hn) ?_
      have n351 : (r348.2).1 = 243 := m350.1.full hn
      refine x_aload_n (q := 928) dL_law_927 rfl rfl ?_
      refine x_aload_n (q := 929) dL_law_928 rfl rfl ?_
      refine x_iload_n (q := 930) dL_law_929 rfl rfl ?_
      refine x_iconst (q := 931) (v := (1 : Int32)) dL_law_930 rfl (by decide) ?_
      refine x_iadd (q := 932) dL_law_931 rfl ?_
      refine x_sld (q := 933) (L := L) (xs := xs) dL_law_932 rfl (by rw [g1]; decide) (fun base sA U hZ => by rw [g1]; exact hZ.2.2.2.1) g344 ?_
      refine x_aload_n (q := 934) dL_law_933 rfl rfl ?_
      refine x_iload_n (q := 935) dL_law_934 rfl rfl ?_
      refine x_iconst (q := 936) (v := (2 : Int32)) dL_law_935 rfl (by decide) ?_
      refine x_iadd (q := 937) dL_law_936 rfl ?_
      refine x_sld (q := 938) (L := L) (xs := xs) dL_law_937 rfl (by rw [g1]; decide) (fun base sA U hZ => by rw [g1]; exact hZ.2.2.2.1) g345 ?_
      refine x_aload_n (q := 939) dL_law_938 rfl rfl ?_
      refine x_iload_n (q := 940) dL_law_939 rfl rfl ?_
      refine x_iconst (q := 941) (v := (3 : Int32)) dL_law_940 rfl (by decide) ?_
      refine x_iadd (q := 942) dL_law_941 rfl ?_
      refine x_sld (q := 943) (L := L) (xs := xs) dL_law_942 rfl (by rw [g1]; decide) (fun base sA U hZ => by rw [g1]; exact hZ.2.2.2.1) g346 ?_
      replace H := kif H; obtain ⟨g352, H⟩ := H
      replace H := kbe H; obtain ⟨r353, c354, H⟩ := H
      have m355 := s_X12_look (Z := KZs xs L) r348.2 v2 (xs (((s.1 + (1 : Int32))).toNatClampNeg)) (xs (((s.1 + (2 : Int32))).toNatClampNeg)) (xs (((s.1 + (3 : Int32))).toNatClampNeg)) n351 c354
      refine x_callV (q := 946) (as := [.int (xs (((s.1 + (1 : Int32))).toNatClampNeg)), .int (xs (((s.1 + (2 : Int32))).toNatClampNeg)), .int (xs (((s.1 + (3 : Int32))).toNatClampNeg))]) (rest := [.int r348.1]) dL_law_943 rfl kc_RL_121 kh_X12_look (by decide) (Nat.le_of_ble_eq_true rfl) m355 (ci := 12) (by exact ⟨rfl, by decide⟩) (k243 g352 (by decide) n351) ?_
      have n356 : (r353.2).1 = 243 := m355.1.full n351
      replace H := kite H; rcases H with ⟨g357, H⟩ | ⟨g357, H⟩
      · refine x_icmp_eq_t dL_law_946 (q := 1119) (by decide) g357 ?_
        refine x_sub (ls2 := [(0, .ref v0), (1, .ref v1), (2, .ref v2), (3, .int s.1)]) [0, 1, 2, 3] rfl ?_
        exact s_L_law_b1119 xs L r353.2 v0 v1 v2 s.1 n356 H
      · refine x_icmp_eq_f (q := 949) dL_law_946 (t := 1119) (by decide) rfl g357 ?_
        replace H := ko2e H; obtain ⟨o358, H, rfl⟩ := H
        refine x_iconst (q := 950) (v := (0 : Int32)) dL_law_949 rfl (by decide) ?_
        cases H
        exact x_end ⟨(Or.inl rfl), dL_law_950, rfl, rfl⟩
    replace H := kite H; rcases H with ⟨g359, H⟩ | ⟨g359, H⟩
    · refine x_tableIn (v := (25 : Int32)) (off := 918) dL_law_33 g359 (by decide) (q := 951) (by decide) ?_
      refine x_aload_n (q := 952) dL_law_951 rfl rfl ?_
      refine x_aload_n (q := 953) dL_law_952 rfl rfl ?_
      refine x_iload_n (q := 954) dL_law_953 rfl rfl ?_
      refine x_iconst (q := 955) (v := (1 : Int32)) dL_law_954 rfl (by decide) ?_
      refine x_iadd (q := 956) dL_law_955 rfl ?_
      replace H := kif H; obtain ⟨g360, H⟩ := H
      refine x_sld (q := 957) (L := L) (xs := xs) dL_law_956 rfl (by rw [g1]; decide) (fun base sA U hZ => by rw [g1]; exact hZ.2.2.2.1) g360 ?_
      replace H := kif H; obtain ⟨g361, H⟩ := H
      replace H := kbe H; obtain ⟨r362, c363, H⟩ := H
      have m364 := s_X11_judge (Z := KZs xs L) s.2 v1 (xs (((s.1 + (1 : Int32))).toNatClampNeg)) hn c363
      refine x_callV (q := 960) (as := [.int (xs (((s.1 + (1 : Int32))).toNatClampNeg))]) (rest := []) dL_law_957 rfl kc_RL_122 kh_X11_judge (by decide) (Nat.le_of_ble_eq_true rfl) m364 (ci := 11) (by exact ⟨rfl, by decide⟩) (k243 g361 (by decide) hn) ?_
      have n365 : (r362.2).1 = 243 := m364.1.full hn
      refine x_aload_n (q := 961) dL_law_960 rfl rfl ?_
      refine x_aload_n (q := 962) dL_law_961 rfl rfl ?_
      refine x_iload_n (q := 963) dL_law_962 rfl rfl ?_
      refine x_iconst (q := 964) (v := (1 : Int32)) dL_law_963 rfl (by decide) ?_
      refine x_iadd (q := 965) dL_law_964 rfl ?_
      refine x_sld (q := 966) (L := L) (xs := xs) dL_law_965 rfl (by rw [g1]; decide) (fun base sA U hZ => by rw [g1]; exact hZ.2.2.2.1) g360 ?_
      replace H := kif H; obtain ⟨g366, H⟩ := H
      replace H := kbe H; obtain ⟨r367, c368, H⟩ := H
      have m369 := s_X12_judge (Z := KZs xs L) r362.2 v2 (xs (((s.1 + (1 : Int32))).toNatClampNeg)) n365 c368
      refine x_callV (q := 969) (as := [.int (xs (((s.1 + (1 : Int32))).toNatClampNeg))]) (rest := [.int r362.1]) dL_law_966 rfl kc_RL_125 kh_X12_judge (by decide) (Nat.le_of_ble_eq_true rfl) m369 (ci := 12) (by exact ⟨rfl, by decide⟩) (k243 g366 (by decide) n365) ?_
      have n370 : (r367.2).1 = 243 := m369.1.full n365
      replace H := kite H; rcases H with ⟨g371, H⟩ | ⟨g371, H⟩
      · refine x_icmp_eq_t dL_law_969 (q := 1119) (by decide) g371 ?_
        refine x_sub (ls2 := [(0, .ref v0), (1, .ref v1), (2, .ref v2), (3, .int s.1)]) [0, 1, 2, 3] rfl ?_
        exact s_L_law_b1119 xs L r367.2 v0 v1 v2 s.1 n370 H
      · refine x_icmp_eq_f (q := 972) dL_law_969 (t := 1119) (by decide) rfl g371 ?_
        replace H := ko2e H; obtain ⟨o372, H, rfl⟩ := H
        refine x_iconst (q := 973) (v := (0 : Int32)) dL_law_972 rfl (by decide) ?_
        cases H
        exact x_end ⟨(Or.inl rfl), dL_law_973, rfl, rfl⟩
    replace H := kite H; rcases H with ⟨g373, H⟩ | ⟨g373, H⟩
    · refine x_tableIn (v := (26 : Int32)) (off := 941) dL_law_33 g373 (by decide) (q := 974) (by decide) ?_
      refine x_aload_n (q := 975) dL_law_974 rfl rfl ?_
      refine x_aload_n (q := 976) dL_law_975 rfl rfl ?_
      refine x_iload_n (q := 977) dL_law_976 rfl rfl ?_
      refine x_iconst (q := 978) (v := (1 : Int32)) dL_law_977 rfl (by decide) ?_
      refine x_iadd (q := 979) dL_law_978 rfl ?_
      replace H := kif H; obtain ⟨g374, H⟩ := H
      refine x_sld (q := 980) (L := L) (xs := xs) dL_law_979 rfl (by rw [g1]; decide) (fun base sA U hZ => by rw [g1]; exact hZ.2.2.2.1) g374 ?_
      replace H := kif H; obtain ⟨g375, H⟩ := H
      replace H := kbe H; obtain ⟨r376, c377, H⟩ := H
      have m378 := s_X11_chance (Z := KZs xs L) s.2 v1 (xs (((s.1 + (1 : Int32))).toNatClampNeg)) hn c377
      refine x_callV (q := 983) (as := [.int (xs (((s.1 + (1 : Int32))).toNatClampNeg))]) (rest := []) dL_law_980 rfl kc_RL_126 kh_X11_chance (by decide) (Nat.le_of_ble_eq_true rfl) m378 (ci := 11) (by exact ⟨rfl, by decide⟩) (k243 g375 (by decide) hn) ?_
      have n379 : (r376.2).1 = 243 := m378.1.full hn
      refine x_aload_n (q := 984) dL_law_983 rfl rfl ?_
      refine x_aload_n (q := 985) dL_law_984 rfl rfl ?_
      refine x_iload_n (q := 986) dL_law_985 rfl rfl ?_
      refine x_iconst (q := 987) (v := (1 : Int32)) dL_law_986 rfl (by decide) ?_
      refine x_iadd (q := 988) dL_law_987 rfl ?_
      refine x_sld (q := 989) (L := L) (xs := xs) dL_law_988 rfl (by rw [g1]; decide) (fun base sA U hZ => by rw [g1]; exact hZ.2.2.2.1) g374 ?_
      replace H := kif H; obtain ⟨g380, H⟩ := H
      replace H := kbe H; obtain ⟨r381, c382, H⟩ := H
      have m383 := s_X12_chance (Z := KZs xs L) r376.2 v2 (xs (((s.1 + (1 : Int32))).toNatClampNeg)) n379 c382
      refine x_callV (q := 992) (as := [.int (xs (((s.1 + (1 : Int32))).toNatClampNeg))]) (rest := [.int r376.1]) dL_law_989 rfl kc_RL_129 kh_X12_chance (by decide) (Nat.le_of_ble_eq_true rfl) m383 (ci := 12) (by exact ⟨rfl, by decide⟩) (k243 g380 (by decide) n379) ?_
      have n384 : (r381.2).1 = 243 := m383.1.full n379
      replace H := kite H; rcases H with ⟨g385, H⟩ | ⟨g385, H⟩
      · refine x_icmp_eq_t dL_law_992 (q := 1119) (by decide) g385 ?_
        refine x_sub (ls2 := [(0, .ref v0), (1, .ref v1), (2, .ref v2), (3, .int s.1)]) [0, 1, 2, 3] rfl ?_
        exact s_L_law_b1119 xs L r381.2 v0 v1 v2 s.1 n384 H
      · refine x_icmp_eq_f (q := 995) dL_law_992 (t := 1119) (by decide) rfl g385 ?_
        replace H := ko2e H; obtain ⟨o386, H, rfl⟩ := H
        refine x_iconst (q := 996) (v := (0 : Int32)) dL_law_995 rfl (by decide) ?_
        cases H
        exact x_end ⟨(Or.inl rfl), dL_law_996, rfl, rfl⟩
    replace H := kite H; rcases H with ⟨g387, H⟩ | ⟨g387, H⟩
    · refine x_tableIn (v := (27 : Int32)) (off := 964) dL_law_33 g387 (by decide) (q := 997) (by decide) ?_
      refine x_aload_n (q := 998) dL_law_997 rfl rfl ?_
      replace H := kif H; obtain ⟨g388, H⟩ := H
      replace H := kbe H; obtain ⟨r389, c390, H⟩ := H
      have m391 := s_X11_undo (Z := KZs xs L) s.2 v1 hn c390
      refine x_callV (q := 1001) (as := []) (rest := []) dL_law_998 rfl kc_RL_130 kh_X11_undo (by decide) (Nat.le_of_ble_eq_true rfl) m391 (ci := 11) (by exact ⟨rfl, by decide⟩) (k243 g388 (by decide) hn) ?_
      have n392 : (r389.2).1 = 243 := m391.1.full hn
      refine x_aload_n (q := 1002) dL_law_1001 rfl rfl ?_
      replace H := kif H; obtain ⟨g393, H⟩ := H
      replace H := kbe H; obtain ⟨r394, c395, H⟩ := H
      have m396 := s_X12_undo (Z := KZs xs L) r389.2 v2 n392 c395
      refine x_callV (q := 1005) (as := []) (rest := [.int r389.1]) dL_law_1002 rfl kc_RL_134 kh_X12_undo (by decide) (Nat.le_of_ble_eq_true rfl) m396 (ci := 12) (by exact ⟨rfl, by decide⟩) (k243 g393 (by decide) n392) ?_
      have n397 : (r394.2).1 = 243 := m396.1.full n392
      replace H := kite H; rcases H with ⟨g398, H⟩ | ⟨g398, H⟩
      · refine x_icmp_eq_t dL_law_1005 (q := 1119) (by decide) g398 ?_
        refine x_sub (ls2 := [(0, .ref v0), (1, .ref v1), (2, .ref v2), (3, .int s.1)]) [0, 1, 2, 3] rfl ?_
        exact s_L_law_b1119 xs L r394.2 v0 v1 v2 s.1 n397 H
      · refine x_icmp_eq_f (q := 1008) dL_law_1005 (t := 1119) (by decide) rfl g398 ?_
        replace H := ko2e H; obtain ⟨o399, H, rfl⟩ := H
        refine x_iconst (q := 1009) (v := (0 : Int32)) dL_law_1008 rfl (by decide) ?_
        cases H
        exact x_end ⟨(Or.inl rfl), dL_law_1009, rfl, rfl⟩
    replace H := kite H; rcases H with ⟨g400, H⟩ | ⟨g400, H⟩
    · refine x_tableIn (v := (28 : Int32)) (off := 977) dL_law_33 g400 (by decide) (q := 1010) (by decide) ?_
      refine x_aload_n (q := 1011) dL_law_1010 rfl rfl ?_
      refine x_aload_n (q := 1012) dL_law_1011 rfl rfl ?_
      refine x_iload_n (q := 1013) dL_law_1012 rfl rfl ?_
      refine x_iconst (q := 1014) (v := (1 : Int32)) dL_law_1013 rfl (by decide) ?_
      refine x_iadd (q := 1015) dL_law_1014 rfl ?_
      replace H := kif H; obtain ⟨g401, H⟩ := H
      refine x_sld (q := 1016) (L := L) (xs := xs) dL_law_1015 rfl (by rw [g1]; decide) (fun base sA U hZ => by rw [g1]; exact hZ.2.2.2.1) g401 ?_
      replace H := kif H; obtain ⟨g402, H⟩ := H
      replace H := kbe H; obtain ⟨r403, c404, H⟩ := H
      have m405 := s_X11_seed (Z := KZs xs L) s.2 v1 (xs (((s.1 + (1 : Int32))).toNatClampNeg)) hn c404
      refine x_callV (q := 1019) (as := [.int (xs (((s.1 + (1 : Int32))).toNatClampNeg))]) (rest := []) dL_law_1016 rfl kc_RL_135 kh_X11_seed (by decide) (Nat.le_of_ble_eq_true rfl) m405 (ci := 11) (by exact ⟨rfl, by decide⟩) (k243 g402 (by decide) hn) ?_
      have n406 : (r403.2).1 = 243 := m405.1.full hn
      refine x_aload_n (q := 1020) dL_law_1019 rfl rfl ?_
      refine x_aload_n (q := 1021) dL_law_1020 rfl rfl ?_
      refine x_iload_n (q := 1022) dL_law_1021 rfl rfl ?_
      refine x_iconst (q := 1023) (v := (1 : Int32)) dL_law_1022 rfl (by decide) ?_
      refine x_iadd (q := 1024) dL_law_1023 rfl ?_
      refine x_sld (q := 1025) (L := L) (xs := xs) dL_law_1024 rfl (by rw [g1]; decide) (fun base sA U hZ => by rw [g1]; exact hZ.2.2.2.1) g401 ?_
      replace H := kif H; obtain ⟨g407, H⟩ := H
      replace H := kbe H; obtain ⟨r408, c409, H⟩ := H
      have m410 := s_X12_seed (Z := KZs xs L) r403.2 v2 (xs (((s.1 + (1 : Int32))).toNatClampNeg)) n406 c409
      refine x_callV (q := 1028) (as := [.int (xs (((s.1 + (1 : Int32))).toNatClampNeg))]) (rest := [.int r403.1]) dL_law_1025 rfl kc_RL_138 kh_X12_seed (by decide) (Nat.le_of_ble_eq_true rfl) m410 (ci := 12) (by exact ⟨rfl, by decide⟩) (k243 g407 (by decide) n406) ?_
      have n411 : (r408.2).1 = 243 := m410.1.full n406
      replace H := kite H; rcases H with ⟨g412, H⟩ | ⟨g412, H⟩
      · refine x_icmp_eq_t dL_law_1028 (q := 1119) (by decide) g412 ?_
        refine x_sub (ls2 := [(0, .ref v0), (1, .ref v1), (2, .ref v2), (3, .int s.1)]) [0, 1, 2, 3] rfl ?_
        exact s_L_law_b1119 xs L r408.2 v0 v1 v2 s.1 n411 H
      · refine x_icmp_eq_f (q := 1031) dL_law_1028 (t := 1119) (by decide) rfl g412 ?_
        replace H := ko2e H; obtain ⟨o413, H, rfl⟩ := H
        refine x_iconst (q := 1032) (v := (0 : Int32)) dL_law_1031 rfl (by decide) ?_
        cases H
        exact x_end ⟨(Or.inl rfl), dL_law_1032, rfl, rfl⟩
    replace H := kite H; rcases H with ⟨g414, H⟩ | ⟨g414, H⟩
    · refine x_tableIn (v := (29 : Int32)) (off := 1000) dL_law_33 g414 (by decide) (q := 1033) (by decide) ?_
      refine x_aload_n (q := 1034) dL_law_1033 rfl rfl ?_
      replace H := kif H; obtain ⟨g415, H⟩ := H
      replace H := kbe H; obtain ⟨r416, c417, H⟩ := H
      have m418 := s_X11_ask (Z := KZs xs L) s.2 v1 hn c417
      refine x_callV (q := 1037) (as := []) (rest := []) dL_law_1034 rfl kc_RL_139 kh_X11_ask (by decide) (Nat.le_of_ble_eq_true rfl) m418 (ci := 11) (by exact ⟨rfl, by decide⟩) (k243 g415 (by decide) hn) ?_
      have n419 : (r416.2).1 = 243 := m418.1.full hn
      refine x_aload_n (q := 1038) dL_law_1037 rfl rfl ?_
      replace H := kif H; obtain ⟨g420, H⟩ := H
      replace H := kbe H; obtain ⟨r421, c422, H⟩ := H
      have m423 := s_X12_ask (Z := KZs xs L) r416.2 v2 n419 c422
      refine x_callV (q := 1041) (as := []) (rest := [.long r416.1]) dL_law_1038 rfl kc_RL_143 kh_X12_ask (by decide) (Nat.le_of_ble_eq_true rfl) m423 (ci := 12) (by exact ⟨rfl, by decide⟩) (k243 g420 (by decide) n419) ?_
      have n424 : (r421.2).1 = 243 := m423.1.full n419
      refine x_lcmp (q := 1042) dL_law_1041 rfl ?_
      replace H := kite H; rcases H with ⟨g425, H⟩ | ⟨g425, H⟩
      · refine x_if_eq_t dL_law_1042 (q := 1119) (by decide) g425 ?_
        refine x_sub (ls2 := [(0, .ref v0), (1, .ref v1), (2, .ref v2), (3, .int s.1)]) [0, 1, 2, 3] rfl ?_
        exact s_L_law_b1119 xs L r421.2 v0 v1 v2 s.1 n424 H
      · refine x_if_eq_f (q := 1045) dL_law_1042 (t := 1119) (by decide) rfl g425 ?_
        replace H := ko2e H; obtain ⟨o426, H, rfl⟩ := H
        refine x_iconst (q := 1046) (v := (0 : Int32)) dL_law_1045 rfl (by decide) ?_
        cases H
        exact x_end ⟨(Or.inl rfl), dL_law_1046, rfl, rfl⟩
    replace H := kite H; rcases H with ⟨g427, H⟩ | ⟨g427, H⟩
    · refine x_tableIn (v := (30 : Int32)) (off := 1014) dL_law_33 g427 (by decide) (q := 1047) (by decide) ?_
      refine x_aload_n (q := 1048) dL_law_1047 rfl rfl ?_
      replace H := kif H; obtain ⟨g428, H⟩ := H
      replace H := kbe H; obtain ⟨r429, c430, H⟩ := H
      have m431 := s_X11_image (Z := KZs xs L) s.2 v1 hn c430
      refine x_callV (q := 1051) (as := []) (rest := []) dL_law_1048 rfl kc_RL_144 kh_X11_image (by decide) (Nat.le_of_ble_eq_true rfl) m431 (ci := 11) (by exact ⟨rfl, by decide⟩) (k243 g428 (by decide) hn) ?_
      have n432 : (r429.2).1 = 243 := m431.1.full hn
      refine x_aload_n (q := 1052) dL_law_1051 rfl rfl ?_
      replace H := kif H; obtain ⟨g433, H⟩ := H
      replace H := kbe H; obtain ⟨r434, c435, H⟩ := H
      have m436 := s_X12_image (Z := KZs xs L) r429.2 v2 n432 c435
      refine x_callV (q := 1055) (as := []) (rest := [.int r429.1]) dL_law_1052 rfl kc_RL_147 kh_X12_image (by decide) (Nat.le_of_ble_eq_true rfl) m436 (ci := 12) (by exact ⟨rfl, by decide⟩) (k243 g433 (by decide) n432) ?_
      have n437 : (r434.2).1 = 243 := m436.1.full n432
      replace H := kite H; rcases H with ⟨g438, H⟩ | ⟨g438, H⟩
      · refine x_icmp_eq_t dL_law_1055 (q := 1119) (by decide) g438 ?_
        refine x_sub (ls2 := [(0, .ref v0), (1, .ref v1), (2, .ref v2), (3, .int s.1)]) [0, 1, 2, 3] rfl ?_
        exact s_L_law_b1119 xs L r434.2 v0 v1 v2 s.1 n437 H
      · refine x_icmp_eq_f (q := 1058) dL_law_1055 (t := 1119) (by decide) rfl g438 ?_
        replace H := ko2e H; obtain ⟨o439, H, rfl⟩ := H
        refine x_iconst (q := 1059) (v := (0 : Int32)) dL_law_1058 rfl (by decide) ?_
        cases H
        exact x_end ⟨(Or.inl rfl), dL_law_1059, rfl, rfl⟩
    replace H := kite H; rcases H with ⟨g440, H⟩ | ⟨g440, H⟩
    · refine x_tableIn (v := (31 : Int32)) (off := 1027) dL_law_33 g440 (by decide) (q := 1060) (by decide) ?_
      refine x_aload_n (q := 1061) dL_law_1060 rfl rfl ?_
      refine x_aload_n (q := 1062) dL_law_1061 rfl rfl ?_
      refine x_iload_n (q := 1063) dL_law_1062 rfl rfl ?_
      refine x_iconst (q := 1064) (v := (1 : Int32)) dL_law_1063 rfl (by decide) ?_
      refine x_iadd (q := 1065) dL_law_1064 rfl ?_
      replace H := kif H; obtain ⟨g441, H⟩ := H
      refine x_sld (q := 1066) (L := L) (xs := xs) dL_law_1065 rfl (by rw [g1]; decide) (fun base sA U hZ => by rw [g1]; exact hZ.2.2.2.1) g441 ?_
      replace H := kif H; obtain ⟨g442, H⟩ := H
      replace H := kbe H; obtain ⟨r443, c444, H⟩ := H
      have m445 := s_X11_octet (Z := KZs xs L) s.2 v1 (xs (((s.1 + (1 : Int32))).toNatClampNeg)) hn c444
      refine x_callV (q := 1069) (as := [.int (xs (((s.1 + (1 : Int32))).toNatClampNeg))]) (rest := []) dL_law_1066 rfl kc_RL_148 kh_X11_octet (by decide) (Nat.le_of_ble_eq_true rfl) m445 (ci := 11) (by exact ⟨rfl, by decide⟩) (k243 g442 (by decide) hn) ?_
      refine x_aload_n (q := 1070) dL_law_1069 rfl rfl ?_
      refine x_aload_n (q := 1071) dL_law_1070 rfl rfl ?_
      refine x_iload_n (q := 1072) dL_law_1071 rfl rfl ?_
      refine x_iconst (q := 1073) (v := (1 : Int32)) dL_law_1072 rfl (by decide) ?_
      refine x_iadd (q := 1074) dL_law_1073 rfl ?_
      refine x_sld (q := 1075) (L := L) (xs := xs) dL_law_1074 rfl (by rw [g1]; decide) (fun base sA U hZ => by rw [g1]; exact hZ.2.2.2.1) g441 ?_
      replace H := kif H; obtain ⟨g446, H⟩ := H
      replace H := kbe H; obtain ⟨r447, c448, H⟩ := H
      have m449 := s_X12_octet (Z := KZs xs L) s.2 v2 (xs (((s.1 + (1 : Int32))).toNatClampNeg)) hn c448
      refine x_callV (q := 1078) (as := [.int (xs (((s.1 + (1 : Int32))).toNatClampNeg))]) (rest := [.int r443]) dL_law_1075 rfl kc_RL_151 kh_X12_octet (by decide) (Nat.le_of_ble_eq_true rfl) m449 (ci := 12) (by exact ⟨rfl, by decide⟩) (k243 g446 (by decide) hn) ?_
      replace H := kite H; rcases H with ⟨g450, H⟩ | ⟨g450, H⟩
      · refine x_icmp_eq_t dL_law_1078 (q := 1119) (by decide) g450 ?_
        refine x_sub (ls2 := [(0, .ref v0), (1, .ref v1), (2, .ref v2), (3, .int s.1)]) [0, 1, 2, 3] rfl ?_
        exact s_L_law_b1119 xs L s.2 v0 v1 v2 s.1 hn H
      · refine x_icmp_eq_f (q := 1081) dL_law_1078 (t := 1119) (by decide) rfl g450 ?_
        replace H := ko2e H; obtain ⟨o451, H, rfl⟩ := H
        refine x_iconst (q := 1082) (v := (0 : Int32)) dL_law_1081 rfl (by decide) ?_
        cases H
        exact x_end ⟨(Or.inl rfl), dL_law_1082, rfl, rfl⟩
    replace H := kite H; rcases H with ⟨g452, H⟩ | ⟨g452, H⟩
    · refine x_tableIn (v := (32 : Int32)) (off := 1050) dL_law_33 g452 (by decide) (q := 1083) (by decide) ?_
      refine x_aload_n (q := 1084) dL_law_1083 rfl rfl ?_
      replace H := kif H; obtain ⟨g453, H⟩ := H
      replace H := kbe H; obtain ⟨r454, c455, H⟩ := H
      have m456 := s_X11_on (Z := KZs xs L) s.2 v1 hn c455
      refine x_callV (q := 1087) (as := []) (rest := []) dL_law_1084 rfl kc_RL_152 kh_X11_on (by decide) (Nat.le_of_ble_eq_true rfl) m456 (ci := 11) (by exact ⟨rfl, by decide⟩) (k243 g453 (by decide) hn) ?_
      have n457 : (r454.2).1 = 243 := m456.1.full hn
      refine x_aload_n (q := 1088) dL_law_1087 rfl rfl ?_
      replace H := kif H; obtain ⟨g458, H⟩ := H
      replace H := kbe H; obtain ⟨r459, c460, H⟩ := H
      have m461 := s_X12_on (Z := KZs xs L) r454.2 v2 n457 c460
      refine x_callV (q := 1091) (as := []) (rest := [.int r454.1]) dL_law_1088 rfl kc_RL_155 kh_X12_on (by decide) (Nat.le_of_ble_eq_true rfl) m461 (ci := 12) (by exact ⟨rfl, by decide⟩) (k243 g458 (by decide) n457) ?_
      have n462 : (r459.2).1 = 243 := m461.1.full n457
      replace H := kite H; rcases H with ⟨g463, H⟩ | ⟨g463, H⟩
      · refine x_icmp_eq_t dL_law_1091 (q := 1119) (by decide) g463 ?_
        refine x_sub (ls2 := [(0, .ref v0), (1, .ref v1), (2, .ref v2), (3, .int s.1)]) [0, 1, 2, 3] rfl ?_
        exact s_L_law_b1119 xs L r459.2 v0 v1 v2 s.1 n462 H
      · refine x_icmp_eq_f (q := 1094) dL_law_1091 (t := 1119) (by decide) rfl g463 ?_
        replace H := ko2e H; obtain ⟨o464, H, rfl⟩ := H
        refine x_iconst (q := 1095) (v := (0 : Int32)) dL_law_1094 rfl (by decide) ?_
        cases H
        exact x_end ⟨(Or.inl rfl), dL_law_1095, rfl, rfl⟩
    replace H := kite H; rcases H with ⟨g465, H⟩ | ⟨g465, H⟩
    · refine x_tableIn (v := (33 : Int32)) (off := 1063) dL_law_33 g465 (by decide) (q := 1096) (by decide) ?_
      refine x_aload_n (q := 1097) dL_law_1096 rfl rfl ?_
      refine x_aload_n (q := 1098) dL_law_1097 rfl rfl ?_
      refine x_iload_n (q := 1099) dL_law_1098 rfl rfl ?_
      refine x_iconst (q := 1100) (v := (1 : Int32)) dL_law_1099 rfl (by decide) ?_
      refine x_iadd (q := 1101) dL_law_1100 rfl ?_
      replace H := kif H; obtain ⟨g466, H⟩ := H
      refine x_sld (q := 1102) (L := L) (xs := xs) dL_law_1101 rfl (by rw [g1]; decide) (fun base sA U hZ => by rw [g1]; exact hZ.2.2.2.1) g466 ?_
      replace H := kif H; obtain ⟨g467, H⟩ := H
      replace H := kbe H; obtain ⟨r468, c469, H⟩ := H
      have m470 := s_X11_status (Z := KZs xs L) s.2 v1 (xs (((s.1 + (1 : Int32))).toNatClampNeg)) hn c469
      refine x_callV (q := 1105) (as := [.int (xs (((s.1 + (1 : Int32))).toNatClampNeg))]) (rest := []) dL_law_1102 rfl kc_RL_156 kh_X11_status (by decide) (Nat.le_of_ble_eq_true rfl) m470 (ci := 11) (by exact ⟨rfl, by decide⟩) (k243 g467 (by decide) hn) ?_
      refine x_aload_n (q := 1106) dL_law_1105 rfl rfl ?_
      refine x_aload_n (q := 1107) dL_law_1106 rfl rfl ?_
      refine x_iload_n (q := 1108) dL_law_1107 rfl rfl ?_
      refine x_iconst (q := 1109) (v := (1 : Int32)) dL_law_1108 rfl (by decide) ?_
      refine x_iadd (q := 1110) dL_law_1109 rfl ?_
      refine x_sld (q := 1111) (L := L) (xs := xs) dL_law_1110 rfl (by rw [g1]; decide) (fun base sA U hZ => by rw [g1]; exact hZ.2.2.2.1) g466 ?_
      replace H := kif H; obtain ⟨g471, H⟩ := H
      replace H := kbe H; obtain ⟨r472, c473, H⟩ := H
      have m474 := s_X12_status (Z := KZs xs L) s.2 v2 (xs (((s.1 + (1 : Int32))).toNatClampNeg)) hn c473
      refine x_callV (q := 1114) (as := [.int (xs (((s.1 + (1 : Int32))).toNatClampNeg))]) (rest := [.int r468]) dL_law_1111 rfl kc_RL_159 kh_X12_status (by decide) (Nat.le_of_ble_eq_true rfl) m474 (ci := 12) (by exact ⟨rfl, by decide⟩) (k243 g471 (by decide) hn) ?_
      replace H := kite H; rcases H with ⟨g475, H⟩ | ⟨g475, H⟩
      · refine x_icmp_eq_t dL_law_1114 (q := 1119) (by decide) g475 ?_
        refine x_sub (ls2 := [(0, .ref v0), (1, .ref v1), (2, .ref v2), (3, .int s.1)]) [0, 1, 2, 3] rfl ?_
        exact s_L_law_b1119 xs L s.2 v0 v1 v2 s.1 hn H
      · refine x_icmp_eq_f (q := 1117) dL_law_1114 (t := 1119) (by decide) rfl g475 ?_
        replace H := ko2e H; obtain ⟨o476, H, rfl⟩ := H
        refine x_iconst (q := 1118) (v := (0 : Int32)) dL_law_1117 rfl (by decide) ?_
        cases H
        exact x_end ⟨(Or.inl rfl), dL_law_1118, rfl, rfl⟩
    refine x_tableOut dL_law_33 (q := 1119) (by decide) (by have z0 : ((xs ((s.1).toNatClampNeg)) &&& (63 : Int32)).toInt ≠ 0 := kne g4 (by decide); have z1 : ((xs ((s.1).toNatClampNeg)) &&& (63 : Int32)).toInt ≠ 1 := kne g22 (by decide); have z2 : ((xs ((s.1).toNatClampNeg)) &&& (63 : Int32)).toInt ≠ 2 := kne g36 (by decide); have z3 : ((xs ((s.1).toNatClampNeg)) &&& (63 : Int32)).toInt ≠ 3 := kne g49 (by decide); have z4 : ((xs ((s.1).toNatClampNeg)) &&& (63 : Int32)).toInt ≠ 4 := kne g61 (by decide); have z5 : ((xs ((s.1).toNatClampNeg)) &&& (63 : Int32)).toInt ≠ 5 := kne g73 (by decide); have z6 : ((xs ((s.1).toNatClampNeg)) &&& (63 : Int32)).toInt ≠ 6 := kne g87 (by decide); have z7 : ((xs ((s.1).toNatClampNeg)) &&& (63 : Int32)).toInt ≠ 7 := kne g100 (by decide); have z8 : ((xs ((s.1).toNatClampNeg)) &&& (63 : Int32)).toInt ≠ 8 := kne g113 (by decide); have z9 : ((xs ((s.1).toNatClampNeg)) &&& (63 : Int32)).toInt ≠ 9 := kne g126 (by decide); have z10 : ((xs ((s.1).toNatClampNeg)) &&& (63 : Int32)).toInt ≠ 10 := kne g142 (by decide); have z11 : ((xs ((s.1).toNatClampNeg)) &&& (63 : Int32)).toInt ≠ 11 := kne g155 (by decide); have z12 : ((xs ((s.1).toNatClampNeg)) &&& (63 : Int32)).toInt ≠ 12 := kne g171 (by decide); have z13 : ((xs ((s.1).toNatClampNeg)) &&& (63 : Int32)).toInt ≠ 13 := kne g185 (by decide); have z14 : ((xs ((s.1).toNatClampNeg)) &&& (63 : Int32)).toInt ≠ 14 := kne g200 (by decide); have z15 : ((xs ((s.1).toNatClampNeg)) &&& (63 : Int32)).toInt ≠ 15 := kne g215 (by decide); have z16 : ((xs ((s.1).toNatClampNeg)) &&& (63 : Int32)).toInt ≠ 16 := kne g229 (by decide); have z17 : ((xs ((s.1).toNatClampNeg)) &&& (63 : Int32)).toInt ≠ 17 := kne g242 (by decide); have z18 : ((xs ((s.1).toNatClampNeg)) &&& (63 : Int32)).toInt ≠ 18 := kne g257 (by decide); have z19 : ((xs ((s.1).toNatClampNeg)) &&& (63 : Int32)).toInt ≠ 19 := kne g271 (by decide); have z20 : ((xs ((s.1).toNatClampNeg)) &&& (63 : Int32)).toInt ≠ 20 := kne g286 (by decide); have z21 : ((xs ((s.1).toNatClampNeg)) &&& (63 : Int32)).toInt ≠ 21 := kne g301 (by decide); have z22 : ((xs ((s.1).toNatClampNeg)) &&& (63 : Int32)).toInt ≠ 22 := kne g314 (by decide); have z23 : ((xs ((s.1).toNatClampNeg)) &&& (63 : Int32)).toInt ≠ 23 := kne g327 (by decide); have z24 : ((xs ((s.1).toNatClampNeg)) &&& (63 : Int32)).toInt ≠ 24 := kne g343 (by decide); have z25 : ((xs ((s.1).toNatClampNeg)) &&& (63 : Int32)).toInt ≠ 25 := kne g359 (by decide); have z26 : ((xs ((s.1).toNatClampNeg)) &&& (63 : Int32)).toInt ≠ 26 := kne g373 (by decide); have z27 : ((xs ((s.1).toNatClampNeg)) &&& (63 : Int32)).toInt ≠ 27 := kne g387 (by decide); have z28 : ((xs ((s.1).toNatClampNeg)) &&& (63 : Int32)).toInt ≠ 28 := kne g400 (by decide); have z29 : ((xs ((s.1).toNatClampNeg)) &&& (63 : Int32)).toInt ≠ 29 := kne g414 (by decide); have z30 : ((xs ((s.1).toNatClampNeg)) &&& (63 : Int32)).toInt ≠ 30 := kne g427 (by decide); have z31 : ((xs ((s.1).toNatClampNeg)) &&& (63 : Int32)).toInt ≠ 31 := kne g440 (by decide); have z32 : ((xs ((s.1).toNatClampNeg)) &&& (63 : Int32)).toInt ≠ 32 := kne g452 (by decide); have z33 : ((xs ((s.1).toNatClampNeg)) &&& (63 : Int32)).toInt ≠ 33 := kne g465 (by decide); omega) ?_
    refine x_sub (ls2 := [(0, .ref v0), (1, .ref v1), (2, .ref v2), (3, .int s.1)]) [0, 1, 2, 3] rfl ?_
    exact s_L_law_b1119 xs L s.2 v0 v1 v2 s.1 hn H
theorem sl_L_law_l18 (xs : Nat → Int32) (L : Nat) (v0 : Nat) (v1 : Nat) (v2 : Nat) (n : Nat) (s : Int32 × KH) (r : (KH) ⊕ (Int32 × KH)) (hn : (s.2).1 = 243) (H : kloop (f_L_law_l18 xs L v0 v1 v2) n s = some r) : KX (KZs xs L) RL cL_law 4 false 223 (E_L_law_l18 v0 v1 v2 r) 18 [(0, .ref v0), (1, .ref v1), (2, .ref v2), (3, .int s.1)] [] s.2 :=
  k_loop (ls := (fun (s : Int32 × KH) => ([(0, .ref v0), (1, .ref v1), (2, .ref v2), (3, .int s.1)] : List (Nat × Value)))) (hp := (fun (s : Int32 × KH) => (s.2 : KH))) (G := E_L_law_l18 v0 v1 v2) (fun s t hn H => s_L_law_l18 xs L v0 v1 v2 s t hn H) n s r hn H
set_option maxHeartbeats 8000000 in
set_option maxRecDepth 100000 in
def f_L_law (xs : Nat → Int32) (L : Nat) (h : KH) (v0 : Nat) : Option (Int32 × KH) :=
  if (kkind h.1 = 11 ∧ 11 < 13) then kl (knew h) fun h2 =>
  if (kkind h.1 = 11 ∧ h.1 < h2.1) then kb (f_iX11_init h2 h.1) fun r5 =>
  if (kkind r5.1 = 12 ∧ 12 < 13) then kl (knew r5) fun h10 =>
  if (kkind r5.1 = 12 ∧ r5.1 < h10.1) then kb (f_iX12_init h10 r5.1) fun r13 =>
  if (r13).1 = 243 then kb (kloop (f_L_law_l18 xs L v0 h.1 r5.1) KF ((0 : Int32), r13)) fun e18 =>
  ksum e18 (fun x21 =>
  some ((1 : Int32), x21)) (fun o22 => some o22) else none else none else none else none else none
set_option maxHeartbeats 8000000 in
set_option maxRecDepth 100000 in
theorem s0_L_law (xs : Nat → Int32) (L : Nat) (h : KH) (v0 : Nat) {t : Int32 × KH} (H : f_L_law xs L h v0 = some t) : KX (KZs xs L) RL cL_law 4 false 223 (KRz cL_law t.1 t.2) 0 [(0, .ref v0)] [] h := by
  unfold f_L_law at H
  replace H := kif H; obtain ⟨g1, H⟩ := H
  replace H := kle H; obtain ⟨h2, q3, H⟩ := H
  refine x_new (q := 3) (ci := 11) dL_law_0 rfl kn_RL_7 g1 ?_
  refine x_nmH q3 ?_
  refine x_dup (q := 4) dL_law_3 rfl rfl ?_
  replace H := kif H; obtain ⟨g4, H⟩ := H
  replace H := kbe H; obtain ⟨r5, c6, H⟩ := H
  have m7 := s_iX11_init (xs := xs) (L := L) h2 h.1  c6
  refine x_callI (q := 7) (as := []) (rest := [.ref h.1]) dL_law_4 rfl kc_RL_9 kh_X11_init (by decide) (Nat.le_of_ble_eq_true rfl) m7 ?_
  refine x_astore_n (q := 8) (i := 1) (ls2 := [(1, .ref h.1), (0, .ref v0)]) dL_law_7 rfl rfl (by decide) rfl ?_
  replace H := kif H; obtain ⟨g9, H⟩ := H
  replace H := kle H; obtain ⟨h10, q11, H⟩ := H
  refine x_new (q := 11) (ci := 12) dL_law_8 rfl kn_RL_10 g9 ?_
  refine x_nmH q11 ?_
  refine x_dup (q := 12) dL_law_11 rfl rfl ?_
  replace H := kif H; obtain ⟨g12, H⟩ := H
  replace H := kbe H; obtain ⟨r13, c14, H⟩ := H
  have m15 := s_iX12_init (xs := xs) (L := L) h10 r5.1  c14
  refine x_callI (q := 15) (as := []) (rest := [.ref r5.1]) dL_law_12 rfl kc_RL_12 kh_X12_init (by decide) (Nat.le_of_ble_eq_true rfl) m15 ?_
  refine x_astore_n (q := 16) (i := 2) (ls2 := [(2, .ref r5.1), (1, .ref h.1), (0, .ref v0)]) dL_law_15 rfl rfl (by decide) rfl ?_
  refine x_iconst (q := 17) (v := (0 : Int32)) dL_law_16 rfl (by decide) ?_
  refine x_istore_n (q := 18) (i := 3) (ls2 := [(3, .int (0 : Int32)), (2, .ref r5.1), (1, .ref h.1), (0, .ref v0)]) dL_law_17 rfl rfl (by decide) rfl ?_
  replace H := kif H; obtain ⟨g17, H⟩ := H
  refine x_sub (ls2 := [(0, .ref v0), (1, .ref h.1), (2, .ref r5.1), (3, .int (0 : Int32))]) [3, 2, 1, 0] rfl ?_
  replace H := kbe H; obtain ⟨e18, c19, H⟩ := H
  refine x_app (sl_L_law_l18 xs L v0 h.1 r5.1 KF ((0 : Int32), r13) e18 g17 c19) fun pc2 ls2 st2 h2 hg m20 => ?_
  replace H := kse H; rcases H with ⟨x21, rfl, H⟩ | ⟨o22, rfl, H⟩
  · obtain ⟨rfl, rfl, rfl, rfl⟩ := hg
    refine x_iconst (q := 1126) (v := (1 : Int32)) dL_law_1125 rfl (by decide) ?_
    cases H
    exact x_end ⟨(Or.inr rfl), dL_law_1126, rfl, rfl⟩
  · cases H
    exact x_end hg

