/-! heard once more, at most 99 times -/
theorem x_min99 (h : KH) {x : Nat} (hx : x ≤ 100) : f_J9_min_7cf53 h (99 : Int32) (Int32.ofNat x) = some (Int32.ofNat (min 99 x)) := by
  unfold f_J9_min_7cf53
  by_cases y : x < 99
  · rw [Nat.min_eq_right (by omega)]
    first
    | rw [if_pos (by rw [n32_ltl (by omega) (by omega)]; exact y)]
    | rw [if_neg (by rw [n32_ltr (by omega) (by omega)]; omega)]
  · rw [Nat.min_eq_left (by omega)]
    first
    | rw [if_neg (by rw [n32_ltl (by omega) (by omega)]; exact y)]
      rfl
    | by_cases z : 99 < x
      · rw [if_pos (by rw [n32_ltr (by omega) (by omega)]; exact z)]
        rfl
      · rw [if_neg (by rw [n32_ltr (by omega) (by omega)]; exact z), show x = 99 by omega]
theorem x_moreT {h : KH} {v : Nat} (st : St h v) {s : Nat} (hs : s < 64) {T : Nat → Nat} (ht : ∀ t, t < 6 → kI h (v + 1) t = Int32.ofNat (T t) ∧ T t ≤ 99) :
    ∃ h', f_X8_hearOnceMore h v (Int32.ofNat s) = some h' ∧ kfp (fun l _ => l = v + 1) h h' ∧ ∀ t, t < 6 → kI h' (v + 1) t = Int32.ofNat (min 99 (T t + s / 2 ^ t % 2)) := by
  obtain ⟨⟨k0, r3, -⟩, ⟨k1, n1⟩, -, -, hv⟩ := id st
  obtain ⟨g, e, f, z⟩ := kloop_inv (body := f_X8_hearOnceMore_l2 v (Int32.ofNat s)) (fun k x => x.1 = Int32.ofNat k ∧ kfp (fun l _ => l = v + 1) h x.2 ∧ ∀ t, t < 6 → kI x.2 (v + 1) t = Int32.ofNat (if t < k then min 99 (T t + s / 2 ^ t % 2) else T t)) (fun r => kfp (fun l _ => l = v + 1) h r ∧ ∀ t, t < 6 → kI r (v + 1) t = Int32.ofNat (min 99 (T t + s / 2 ^ t % 2))) 6 (s0 := ((0 : Int32), h)) (by omega)
    ⟨rfl, kfp.rf, fun t h6 => by rw [if_neg (by omega)]; exact (ht t h6).1⟩ (fun k x hk hP => by
      obtain ⟨x1, q⟩ := x
      obtain ⟨p1, p2, p3⟩ := hP
      dsimp only at p1 p2 p3
      subst p1
      have rq : kR q v 3 = v + 1 := (p2.2.1 _ _).trans r3
      have old := p3 k hk
      rw [if_neg (by omega)] at old
      have tk := (ht k hk).2
      have b2 : s / 2 ^ k % 2 < 2 := Nat.mod_lt _ (by omega)
      unfold f_X8_hearOnceMore_l2 f_X8_hearOnceMore_b35
      dsimp only
      rw [if_neg (by rw [n32_ler (by omega) (by omega)]; omega), n32_bit (by omega) (by omega)]
      by_cases y : s / 2 ^ k % 2 = 0
      · refine ⟨(Int32.ofNat (k + 1), q), by rw [if_pos (by rw [y]; rfl), kl_e, n32_addl], rfl, p2, fun t h6 => ?_⟩
        dsimp only
        rw [p3 t h6]
        by_cases u : t = k
        · rw [if_neg (by omega), if_pos (by omega), u, y, Nat.min_eq_right (by omega)]
          rfl
        · by_cases w : t < k
          · rw [if_pos w, if_pos (by omega)]
          · rw [if_neg w, if_neg (by omega)]
      · refine ⟨(Int32.ofNat (k + 1), ksI q (v + 1) k (Int32.ofNat (min 99 (T k + 1)))), ?_, rfl, p2.sI _ rfl, fun t h6 => ?_⟩
        · rw [if_neg (by rw [n32_ne0 (by omega)]; exact y), if_pos k0, rq, if_pos (by omega), if_pos k1, n1, if_neg (by rw [n32_cl (by omega)]; exact fun z => z.elim (n32_nn (by omega)) (by omega)), n32_cl (by omega), old, n32_addl, x_min99 q (by omega), kb_s, kl_e, kl_e, n32_addl]
        · dsimp only
          rw [kI_sI]
          by_cases u : t = k
          · rw [if_pos ⟨rfl, u⟩, if_pos (by omega), u, show s / 2 ^ k % 2 = 1 by omega]
          · rw [if_neg (fun z => u z.2), p3 t h6]
            by_cases w : t < k
            · rw [if_pos w, if_pos (by omega)]
            · rw [if_neg w, if_neg (by omega)]) (fun x hP => by
      obtain ⟨x1, q⟩ := x
      obtain ⟨p1, p2, p3⟩ := hP
      dsimp only at p1 p2 p3
      subst p1
      refine ⟨q, ?_, p2, fun t h6 => by rw [p3 t h6, if_pos h6]⟩
      unfold f_X8_hearOnceMore_l2
      dsimp only
      rw [if_pos (by decide)])
  refine ⟨g, ?_, f, z⟩
  unfold f_X8_hearOnceMore
  rw [e, kb_s]
