/-! PURE: from here on no machine; loops, reads behind writes, whole numbers -/
theorem kb_s {α β : Type} (a : α) (f : α → Option β) : kb (some a) f = f a := rfl
theorem kl_e {α β : Type} (e : α) (f : α → β) : kl e f = f e := rfl
theorem kout_s {α β : Type} (b : β) : kout (α := α) (some b) = some (.inr b) := rfl
theorem kout2_s {α β γ : Type} (b : γ) : kout2 (α := α) (β := β) (some b) = some (.inr (.inr b)) := rfl
theorem ksum_l {α β γ : Type} (a : α) (f : α → Option γ) (g : β → Option γ) : ksum (.inl a) f g = f a := rfl
theorem ksum_r {α β γ : Type} (b : β) (f : α → Option γ) (g : β → Option γ) : ksum (.inr b) f g = g b := rfl
theorem kloop_go {σ ρ : Type} {body : σ → Option (σ ⊕ ρ)} {n : Nat} {s s' : σ} (h : body s = some (.inl s')) : kloop body (n + 1) s = kloop body n s' := by
  show (match body s with | none => none | some (.inl s') => kloop body n s' | some (.inr r) => some r) = _
  rw [h]
theorem kloop_end {σ ρ : Type} {body : σ → Option (σ ⊕ ρ)} {n : Nat} {s : σ} {r : ρ} (h : body s = some (.inr r)) : kloop body (n + 1) s = some r := by
  show (match body s with | none => none | some (.inl s') => kloop body n s' | some (.inr r) => some r) = _
  rw [h]
/-- a loop that ends: at P n s (at most n turns are left) a turn ends with Q, or goes on with fewer left -/
theorem kloop_ends {σ ρ : Type} {body : σ → Option (σ ⊕ ρ)} (P : Nat → σ → Prop) (Q : ρ → Prop) (hs : ∀ n s, P n s → (∃ r, body s = some (.inr r) ∧ Q r) ∨ ∃ m s', m < n ∧ body s = some (.inl s') ∧ P m s') :
    ∀ (N n : Nat) (s : σ), n < N → P n s → ∃ r, kloop body N s = some r ∧ Q r := by
  intro N
  induction N with
  | zero => intro n s h; exact absurd h (Nat.not_lt_zero _)
  | succ N ih =>
    intro n s h hP
    rcases hs n s hP with ⟨r, hb, hq⟩ | ⟨m, s', hm, hb, hP'⟩
    · exact ⟨r, kloop_end hb, hq⟩
    · obtain ⟨r, hr, hq⟩ := ih m s' (by omega) hP'
      exact ⟨r, by rw [kloop_go hb]; exact hr, hq⟩
theorem kloop_KF {σ ρ : Type} {body : σ → Option (σ ⊕ ρ)} (P : Nat → σ → Prop) (Q : ρ → Prop) (hs : ∀ n s, P n s → (∃ r, body s = some (.inr r) ∧ Q r) ∨ ∃ m s', m < n ∧ body s = some (.inl s') ∧ P m s')
    {n : Nat} {s : σ} (hn : n < 1000000) (hP : P n s) : ∃ r, kloop body KF s = some r ∧ Q r := kloop_ends P Q hs KF n s hn hP
/-- a loop over 0 .. N - 1: the state at turn k is st k -/
theorem kloop_for {σ ρ : Type} {body : σ → Option (σ ⊕ ρ)} (st : Nat → σ) (N : Nat) (r : ρ) (hN : N < 1000000) (hgo : ∀ k, k < N → body (st k) = some (.inl (st (k + 1)))) (hend : body (st N) = some (.inr r)) : kloop body KF (st 0) = some r := by
  obtain ⟨r', h1, h2⟩ := kloop_KF (fun n s => ∃ k, k + n = N ∧ s = st k) (fun r' => r' = r) (fun n s hP => by
    obtain ⟨k, hk, rfl⟩ := hP
    cases n with
    | zero =>
      have : k = N := by omega
      subst this
      exact Or.inl ⟨r, hend, rfl⟩
    | succ n => exact Or.inr ⟨n, st (k + 1), by omega, hgo k (by omega), k + 1, by omega, rfl⟩) hN ⟨0, by omega, rfl⟩
  rw [h1, h2]
/-! reads behind writes -/
theorem k1_sI (h : KH) (l i : Nat) (v : Int32) : (ksI h l i v).1 = h.1 := rfl
theorem k1_sL (h : KH) (l i : Nat) (v : Int64) : (ksL h l i v).1 = h.1 := rfl
theorem k1_sR (h : KH) (l i : Nat) (v : Nat) : (ksR h l i v).1 = h.1 := rfl
theorem k1_new (h : KH) : (knew h).1 = h.1 + 1 := rfl
theorem KH_ext {a b : KH} (h0 : a.1 = b.1) (h1 : ∀ l i, kI a l i = kI b l i) (h2 : ∀ l i, kL a l i = kL b l i) (h3 : ∀ l i, kR a l i = kR b l i) : a = b := by
  obtain ⟨a0, a1, a2, a3⟩ := a
  obtain ⟨b0, b1, b2, b3⟩ := b
  have e0 : a0 = b0 := h0
  have e1 : a1 = b1 := funext fun l => funext fun i => h1 l i
  have e2 : a2 = b2 := funext fun l => funext fun i => h2 l i
  have e3 : a3 = b3 := funext fun l => funext fun i => h3 l i
  rw [e0, e1, e2, e3]
/-- all but the cells of W is as it was (references too, wherever they are) -/
def kfr (W : Nat → Prop) (h h' : KH) : Prop := h'.1 = h.1 ∧ (∀ l i, kR h' l i = kR h l i) ∧ ∀ l, ¬ W l → (∀ i, kI h' l i = kI h l i) ∧ ∀ i, kL h' l i = kL h l i
theorem kfr.rf {W : Nat → Prop} {h : KH} : kfr W h h := ⟨rfl, fun _ _ => rfl, fun _ _ => ⟨fun _ => rfl, fun _ => rfl⟩⟩
theorem kfr.tr {W : Nat → Prop} {a b c : KH} (x : kfr W a b) (y : kfr W b c) : kfr W a c :=
  ⟨y.1.trans x.1, fun l i => (y.2.1 l i).trans (x.2.1 l i), fun l hl => ⟨fun i => ((y.2.2 l hl).1 i).trans ((x.2.2 l hl).1 i), fun i => ((y.2.2 l hl).2 i).trans ((x.2.2 l hl).2 i)⟩⟩
theorem kfr.wide {V W : Nat → Prop} {a b : KH} (x : kfr V a b) (h : ∀ l, V l → W l) : kfr W a b := ⟨x.1, x.2.1, fun l hl => x.2.2 l fun z => hl (h l z)⟩
theorem kI_nw (h : KH) (a b : Nat) : kI (knew h) a b = if a = h.1 then 0 else kI h a b := rfl
theorem kL_nw (h : KH) (a b : Nat) : kL (knew h) a b = if a = h.1 then 0 else kL h a b := rfl
theorem kR_nw (h : KH) (a b : Nat) : kR (knew h) a b = if a = h.1 then 999999 else kR h a b := rfl
theorem kfr.sI {W : Nat → Prop} {h h' : KH} {l i : Nat} {v : Int32} (x : kfr W h h') (hl : W l) : kfr W h (ksI h' l i v) := by
  refine ⟨x.1, x.2.1, fun a ha => ⟨fun b => ?_, (x.2.2 a ha).2⟩⟩
  rw [kI_sI, if_neg (fun (z : a = l ∧ b = i) => ha (z.1 ▸ hl))]
  exact (x.2.2 a ha).1 b
theorem kfr.sL {W : Nat → Prop} {h h' : KH} {l i : Nat} {v : Int64} (x : kfr W h h') (hl : W l) : kfr W h (ksL h' l i v) := by
  refine ⟨x.1, x.2.1, fun a ha => ⟨(x.2.2 a ha).1, fun b => ?_⟩⟩
  rw [kL_sL, if_neg (fun (z : a = l ∧ b = i) => ha (z.1 ▸ hl))]
  exact (x.2.2 a ha).2 b
/-! whole numbers that are counts -/
theorem n32_toInt {a : Nat} (h : a < 2147483648) : (Int32.ofNat a).toInt = a := Int32.toInt_ofNat_of_lt (by omega)
theorem n32_lt {a b : Nat} (ha : a < 2147483648) (hb : b < 2147483648) : Int32.ofNat a < Int32.ofNat b ↔ a < b := by
  rw [Int32.lt_iff_toInt_lt, n32_toInt ha, n32_toInt hb]
  omega
theorem n32_le {a b : Nat} (ha : a < 2147483648) (hb : b < 2147483648) : Int32.ofNat a ≤ Int32.ofNat b ↔ a ≤ b := by
  rw [Int32.le_iff_toInt_le, n32_toInt ha, n32_toInt hb]
  omega
theorem n32_eq {a b : Nat} (ha : a < 2147483648) (hb : b < 2147483648) : Int32.ofNat a = Int32.ofNat b ↔ a = b := by
  rw [← Int32.toInt_inj, n32_toInt ha, n32_toInt hb]
  omega
theorem n32_add (a b : Nat) : Int32.ofNat a + Int32.ofNat b = Int32.ofNat (a + b) := (Int32.ofNat_add a b).symm
theorem n32_mul (a b : Nat) : Int32.ofNat a * Int32.ofNat b = Int32.ofNat (a * b) := (Int32.ofNat_mul a b).symm
theorem n32_cl {a : Nat} (h : a < 2147483648) : (Int32.ofNat a).toNatClampNeg = a := by
  rw [Int32.toNatClampNeg, n32_toInt h]
  rfl
theorem n32_nn {a : Nat} (h : a < 2147483648) : ¬ Int32.ofNat a < 0 := by
  show ¬ Int32.ofNat a < Int32.ofNat 0
  rw [n32_lt h (by omega)]
  omega
theorem n32_of {v : Int32} (h : ¬ v < 0) : v = Int32.ofNat v.toNatClampNeg ∧ v.toNatClampNeg < 2147483648 := by
  have h0 : 0 ≤ v.toInt := by
    rw [Int32.lt_iff_toInt_lt] at h
    have : (0 : Int32).toInt = 0 := rfl
    omega
  have h1 : v.toInt < 2147483648 := Int32.toInt_lt v
  have h2 : (v.toNatClampNeg : Int) = v.toInt := by
    rw [Int32.toNatClampNeg]
    omega
  refine ⟨?_, by omega⟩
  rw [← Int32.toInt_inj, n32_toInt (by omega), h2]
