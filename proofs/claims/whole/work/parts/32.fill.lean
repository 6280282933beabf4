/-! Arrays.fill of an int[] -/
/-- the first n places of l are v -/
def kfill (h : KH) (l : Nat) (v : Int32) : Nat → KH
  | 0 => h
  | n + 1 => ksI (kfill h l v n) l n v
theorem kfill_I (h : KH) (l : Nat) (v : Int32) (a b : Nat) : ∀ n, kI (kfill h l v n) a b = if a = l ∧ b < n then v else kI h a b
  | 0 => by
    rw [if_neg (by omega)]
    rfl
  | n + 1 => by
    show kI (ksI _ _ _ _) a b = _
    rw [kI_sI]
    by_cases h1 : a = l ∧ b = n
    · rw [if_pos h1, if_pos (by omega)]
    · rw [if_neg h1, kfill_I h l v a b n]
      by_cases h2 : a = l ∧ b < n
      · rw [if_pos h2, if_pos (by omega)]
      · rw [if_neg h2, if_neg (by omega)]
theorem kfill_fp (h : KH) (l : Nat) (v : Int32) : ∀ n, kfp (fun a b => a = l ∧ b < n) h (kfill h l v n)
  | 0 => kfp.rf
  | n + 1 => ((kfill_fp h l v n).wide fun a b z => ⟨z.1, by omega⟩).sI v ⟨rfl, by omega⟩
theorem x_fill {h : KH} {l N : Nat} (hk : kkind l = 20) (hn : klen l = N) (hN : N < 9999) (v : Int32) : f_J7_fill_53178 h l v = some (kfill h l v N) := by
  unfold f_J7_fill_53178
  rw [if_pos hk, kl_e, hn]
  have e : kloop (f_J7_fill_53178_l5 l v (Int32.ofNat N)) KF ((0 : Int32), h) = some (kfill h l v N) :=
    kloop_for (body := f_J7_fill_53178_l5 l v (Int32.ofNat N)) (fun k => (Int32.ofNat k, kfill h l v k)) N (kfill h l v N) (by omega) (fun k hk2 => by
      unfold f_J7_fill_53178_l5
      dsimp only
      rw [if_neg (by rw [n32_le (by omega) (by omega)]; omega), if_pos hk, hn, if_neg, kl_e, kl_e, n32_cl (by omega)]
      · rw [show Int32.ofNat k + (1 : Int32) = Int32.ofNat (k + 1) from n32_add k 1]
        rfl
      · rw [n32_cl (by omega)]
        exact fun z => z.elim (n32_nn (by omega)) (by omega)) (by
      unfold f_J7_fill_53178_l5
      dsimp only
      rw [if_pos (by rw [n32_le (by omega) (by omega)]; omega)])
  rw [e, kb_s]
