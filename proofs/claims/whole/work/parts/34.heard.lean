/-! which tests were heard, how many were looked for -/
def heardB (f : Nat → Int32) : Nat → Int32
  | 0 => 0
  | n + 1 => if f n = 0 then heardB f n else heardB f n ||| ((1 : Int32) <<< (Int32.ofNat n &&& 31))
theorem x_heardBits {h : KH} {v : Nat} (s : St h v) : f_X8_heardBits h v = some (heardB (kI h (v + 2)) 6) := by
  obtain ⟨⟨k0, r3, r4, r5⟩, ⟨k1, n1⟩, ⟨k2, n2⟩, ⟨k3, n3⟩, hv⟩ := id s
  unfold f_X8_heardBits
  have e : kloop (f_X8_heardBits_l4 h v) KF ((0 : Int32), (0 : Int32)) = some (heardB (kI h (v + 2)) 6) :=
    kloop_for (body := f_X8_heardBits_l4 h v) (fun k => (heardB (kI h (v + 2)) k, Int32.ofNat k)) 6 _ (by omega) (fun k hk => by
      unfold f_X8_heardBits_l4 f_X8_heardBits_b25
      dsimp only
      rw [show (6 : Int32) = Int32.ofNat 6 from rfl, if_neg (by rw [n32_le (by omega) (by omega)]; omega), if_pos k0, r4, if_pos (by omega), if_pos k2, n2, if_neg, n32_cl (by omega), kl_e, kl_e, kl_e, show Int32.ofNat k + (1 : Int32) = Int32.ofNat (k + 1) from n32_add k 1]
      · by_cases z : kI h (v + 2) k = 0
        · rw [if_pos z]
          show _ = some (Sum.inl (heardB (kI h (v + 2)) (k + 1), Int32.ofNat (k + 1)))
          rw [heardB, if_pos z]
        · rw [if_neg z]
          show _ = some (Sum.inl (heardB (kI h (v + 2)) (k + 1), Int32.ofNat (k + 1)))
          rw [heardB, if_neg z]
      · rw [n32_cl (by omega)]
        exact fun z => z.elim (n32_nn (by omega)) (by omega)) (by
      unfold f_X8_heardBits_l4
      dsimp only
      rw [if_pos (by decide)])
  rw [e, kb_s]
def lookedN (f : Nat → Int32) : Nat → Nat
  | 0 => 0
  | n + 1 => if f n = 0 then lookedN f n else lookedN f n + 1
theorem x_lookedCount {h : KH} {v : Nat} (s : St h v) : f_X8_lookedCount h v = some (Int32.ofNat (lookedN (kI h (v + 3)) 10)) := by
  obtain ⟨⟨k0, r3, r4, r5⟩, ⟨k1, n1⟩, ⟨k2, n2⟩, ⟨k3, n3⟩, hv⟩ := id s
  unfold f_X8_lookedCount
  have e : kloop (f_X8_lookedCount_l4 h v) KF ((0 : Int32), (0 : Int32)) = some (Int32.ofNat (lookedN (kI h (v + 3)) 10)) :=
    kloop_for (body := f_X8_lookedCount_l4 h v) (fun k => (Int32.ofNat (lookedN (kI h (v + 3)) k), Int32.ofNat k)) 10 _ (by omega) (fun k hk => by
      unfold f_X8_lookedCount_l4 f_X8_lookedCount_b22
      dsimp only
      rw [show (10 : Int32) = Int32.ofNat 10 from rfl, if_neg (by rw [n32_le (by omega) (by omega)]; omega), if_pos k0, r5, if_pos (by omega), if_pos k3, n3, if_neg, n32_cl (by omega), kl_e, kl_e, kl_e, show Int32.ofNat k + (1 : Int32) = Int32.ofNat (k + 1) from n32_add k 1]
      · by_cases z : kI h (v + 3) k = 0
        · rw [if_pos z]
          show _ = some (Sum.inl (Int32.ofNat (lookedN (kI h (v + 3)) (k + 1)), Int32.ofNat (k + 1)))
          rw [lookedN, if_pos z]
        · rw [if_neg z]
          show _ = some (Sum.inl (Int32.ofNat (lookedN (kI h (v + 3)) (k + 1)), Int32.ofNat (k + 1)))
          rw [lookedN, if_neg z, show Int32.ofNat (lookedN (kI h (v + 3)) k) + (1 : Int32) = Int32.ofNat (lookedN (kI h (v + 3)) k + 1) from n32_add _ 1]
      · rw [n32_cl (by omega)]
        exact fun z => z.elim (n32_nn (by omega)) (by omega)) (by
      unfold f_X8_lookedCount_l4
      dsimp only
      rw [if_pos (by decide)])
  rw [e, kb_s]
