/-! tests heard once more -/
def xmore (h : KH) (v : Nat) (set : Int32) : Nat → KH
  | 0 => h
  | n + 1 => if ((set >>> (Int32.ofNat n &&& 31)) &&& (1 : Int32)) = 0 then xmore h v set n else ksI (xmore h v set n) (v + 1) n (if kI (xmore h v set n) (v + 1) n + 1 < 99 then kI (xmore h v set n) (v + 1) n + 1 else 99)
theorem xmore_fp (h : KH) (v : Nat) (set : Int32) : ∀ n, kfp (fun a _ => a = v + 1) h (xmore h v set n)
  | 0 => kfp.rf
  | n + 1 => by
    unfold xmore
    by_cases z : ((set >>> (Int32.ofNat n &&& 31)) &&& (1 : Int32)) = 0
    · rw [if_pos z]
      exact xmore_fp h v set n
    · rw [if_neg z]
      exact (xmore_fp h v set n).sI _ rfl
theorem x_hearOnceMore {h : KH} {v : Nat} (s : St h v) (set : Int32) : f_X8_hearOnceMore h v set = some (xmore h v set 6) := by
  unfold f_X8_hearOnceMore
  have e : kloop (f_X8_hearOnceMore_l2 v set) KF ((0 : Int32), h) = some (xmore h v set 6) :=
    kloop_for (body := f_X8_hearOnceMore_l2 v set) (fun k => (Int32.ofNat k, xmore h v set k)) 6 _ (by omega) (fun k hk => by
      obtain ⟨⟨k0, r3, r4, r5⟩, ⟨k1, n1⟩, -, -, hv⟩ := s.fp (xmore_fp h v set k)
      have ek : ∀ g : KH, f_X8_hearOnceMore_b35 g v set (Int32.ofNat k) = some (.inl (Int32.ofNat (k + 1), g)) := fun g => by
        unfold f_X8_hearOnceMore_b35
        rw [kl_e, show Int32.ofNat k + (1 : Int32) = Int32.ofNat (k + 1) from n32_add k 1]
      unfold f_X8_hearOnceMore_l2
      dsimp only
      rw [show (6 : Int32) = Int32.ofNat 6 from rfl, if_neg (by rw [n32_le (by omega) (by omega)]; omega)]
      by_cases z : ((set >>> (Int32.ofNat k &&& 31)) &&& (1 : Int32)) = 0
      · rw [if_pos z, ek]
        show _ = some (Sum.inl (Int32.ofNat (k + 1), xmore h v set (k + 1)))
        rw [xmore, if_pos z]
      · rw [if_neg z, if_pos k0, r3, if_pos (by omega), if_pos k1, n1, if_neg, n32_cl (by omega)]
        · unfold f_J9_min_7cf53
          show _ = some (Sum.inl (Int32.ofNat (k + 1), xmore h v set (k + 1)))
          rw [xmore, if_neg z]
          by_cases y : kI (xmore h v set k) (v + 1) k + 1 < 99
          · rw [if_pos y, if_pos y, kb_s, kl_e, ek]
          · rw [if_neg y, if_neg y, kb_s, kl_e, ek]
        · rw [n32_cl (by omega)]
          exact fun z => z.elim (n32_nn (by omega)) (by omega)) (by
      unfold f_X8_hearOnceMore_l2
      dsimp only
      rw [if_pos (by decide)])
  rw [e, kb_s]
