/-! the loops that come again and again -/
def ex (P : Nat → Bool) : Nat → Bool
  | 0 => false
  | k + 1 => ex P k || P k
theorem ex_iff {P : Nat → Bool} {n : Nat} : ex P n = true ↔ ∃ k, k < n ∧ P k = true := by
  induction n with
  | zero => simp [ex]
  | succ n ih =>
    unfold ex
    rw [Bool.or_eq_true, ih]
    constructor
    · rintro (⟨k, h1, h2⟩ | h)
      · exact ⟨k, by omega, h2⟩
      · exact ⟨n, by omega, h⟩
    · rintro ⟨k, h1, h2⟩
      by_cases e : k = n
      · subst e; exact Or.inr h2
      · exact Or.inl ⟨k, by omega, h2⟩
theorem ex_no {P : Nat → Bool} {n : Nat} : ex P n = false ↔ ∀ k, k < n → P k = false := by
  rw [← Bool.not_eq_true, ex_iff]
  constructor
  · intro h k hk
    cases hp : P k with
    | false => rfl
    | true => exact absurd ⟨k, hk, hp⟩ h
  · rintro h ⟨k, hk, hp⟩
    rw [h k hk] at hp
    cases hp
theorem ex_cong {P Q : Nat → Bool} {n : Nat} (h : ∀ k, k < n → P k = Q k) : ex P n = ex Q n := by
  induction n with
  | zero => rfl
  | succ n ih => unfold ex; rw [ih (fun k hk => h k (by omega)), h n (by omega)]
def ctn (P : Nat → Bool) : Nat → Nat
  | 0 => 0
  | k + 1 => ctn P k + (if P k then 1 else 0)
theorem ctn_le (P : Nat → Bool) (n : Nat) : ctn P n ≤ n := by
  induction n with
  | zero => exact Nat.le_refl _
  | succ n ih => unfold ctn; split <;> omega
theorem ctn_cong {P Q : Nat → Bool} {n : Nat} (h : ∀ k, k < n → P k = Q k) : ctn P n = ctn Q n := by
  induction n with
  | zero => rfl
  | succ n ih => unfold ctn; rw [ih (fun k hk => h k (by omega)), h n (by omega)]
def sm (F : Nat → Nat) : Nat → Nat
  | 0 => 0
  | k + 1 => sm F k + F k
theorem sm_cong {F G : Nat → Nat} {n : Nat} (h : ∀ k, k < n → F k = G k) : sm F n = sm G n := by
  induction n with
  | zero => rfl
  | succ n ih => unfold sm; rw [ih (fun k hk => h k (by omega)), h n (by omega)]
theorem ctn_sm (P : Nat → Bool) (n : Nat) : ctn P n = sm (fun k => if P k then 1 else 0) n := by
  induction n with
  | zero => rfl
  | succ n ih => unfold ctn sm; rw [ih]
theorem sm_le {F : Nat → Nat} {c n : Nat} (h : ∀ k, k < n → F k ≤ c) : sm F n ≤ n * c := by
  induction n with
  | zero => simp [sm]
  | succ n ih =>
    unfold sm
    have h1 := ih (fun k hk => h k (by omega))
    have h2 := h n (by omega)
    rw [Nat.succ_mul]
    omega
/-- a loop that ends at the first place with P, or behind the last -/
theorem lp_find {σ ρ : Type} {f : σ → Option (σ ⊕ ρ)} (s : Nat → σ) (P : Nat → Bool) (n : Nat) (R : ρ → Prop) (hs : ∀ k, k < n → P k = false → f (s k) = some (.inl (s (k + 1)))) (hp : ∀ k, k < n → P k = true → (∀ j, j < k → P j = false) → ∃ r, f (s k) = some (.inr r) ∧ R r) (hx : (∀ j, j < n → P j = false) → ∃ r, f (s n) = some (.inr r) ∧ R r) (hn : n < lpN) : ∃ r, lp f lpN (s 0) = some r ∧ R r := by
  by_cases h : ∃ k, k < n ∧ P k = true
  · obtain ⟨K, ⟨h1, h2⟩, h3⟩ := pk_least (fun k => k < n ∧ P k = true) h
    have hb : ∀ j, j < K → P j = false := fun j hj => by
      cases hq : P j with
      | false => rfl
      | true => exact absurd ⟨by omega, hq⟩ (h3 j hj)
    obtain ⟨r, e1, e2⟩ := hp K h1 h2 hb
    exact ⟨r, lp_run s K (fun k hk => hs k (by omega) (hb k hk)) e1 (by omega), e2⟩
  · have hb : ∀ j, j < n → P j = false := fun j hj => by
      cases hq : P j with
      | false => rfl
      | true => exact absurd ⟨j, hj, hq⟩ h
    obtain ⟨r, e1, e2⟩ := hx hb
    exact ⟨r, lp_run s n (fun k hk => hs k hk (hb k hk)) e1 hn, e2⟩
/-- is there one -/
theorem lp_any {σ ρ : Type} {f : σ → Option (σ ⊕ ρ)} (s : Nat → σ) (P : Nat → Bool) (n : Nat) {r1 r0 : ρ} (hs : ∀ k, k < n → f (s k) = some (if P k then .inr r1 else .inl (s (k + 1)))) (hx : f (s n) = some (.inr r0)) (hn : n < lpN) : lp f lpN (s 0) = some (if ex P n then r1 else r0) := by
  obtain ⟨r, e1, e2⟩ := lp_find s P n (fun r => r = if ex P n then r1 else r0) (fun k hk hp => by rw [hs k hk, hp]; rfl) (fun k hk hp _ => ⟨r1, by rw [hs k hk, hp]; rfl, by rw [if_pos (ex_iff.mpr ⟨k, hk, hp⟩)]⟩) (fun h => ⟨r0, hx, by rw [ex_no.mpr h]; rfl⟩) hn
  rw [e1, e2]
/-- a set gathered -/
theorem lp_bs {ρ : Type} {f : Int32 × Int32 → Option ((Int32 × Int32) ⊕ ρ)} {n : Nat} (P : Nat → Bool) (g : Int32 → ρ) (hn : n ≤ 12) (hs : ∀ k, k < n → ∀ a, f (a, nI k) = some (.inl (if P k then a ||| jshl 1 (nI k) else a, nI k + 1))) (hx : ∀ a, f (a, nI n) = some (.inr (g a))) : lp f lpN (0, 0) = some (g (nI (bs P n))) := by
  have h := lp_run (f := f) (fun k => (nI (bs P k), nI k)) n (r := g (nI (bs P n))) (fun k hk => by
    show f (nI (bs P k), nI k) = _
    rw [hs k hk]
    show some (Sum.inl (_, _)) = some (Sum.inl (nI (bs P (k + 1)), nI (k + 1)))
    rw [nI_1, show bs P (k + 1) = if P k then bs P k ||| 2 ^ k else bs P k from rfl]
    by_cases hp : P k = true
    · rw [if_pos hp, if_pos hp, jshl_ok k (by omega), nI_or]
    · rw [if_neg hp, if_neg hp]) (hx _) (n := lpN) (by unfold lpN; omega)
  exact h
/-- how many, over i, i + 1, .. -/
theorem lp_ct {ρ : Type} {f : Int32 × Int32 → Option ((Int32 × Int32) ⊕ ρ)} (lo n : Nat) (P : Nat → Bool) (m : Nat) {r : ρ} (hs : ∀ k, k < n → ∀ a : Nat, f (nI a, nI (lo + k)) = some (.inl (nI (a + if P (lo + k) then 1 else 0), nI (lo + k + 1)))) (hx : f (nI (m + ctn (fun k => P (lo + k)) n), nI (lo + n)) = some (.inr r)) (hn : n < lpN) : lp f lpN (nI m, nI lo) = some r := by
  have h := lp_run (f := f) (fun k => (nI (m + ctn (fun k => P (lo + k)) k), nI (lo + k))) n (r := r) (fun k hk => by
    show f (nI (m + ctn (fun k => P (lo + k)) k), nI (lo + k)) = _
    rw [hs k hk]
    show _ = some (Sum.inl (nI (m + (ctn (fun k => P (lo + k)) k + if P (lo + k) then 1 else 0)), nI (lo + (k + 1))))
    rw [Nat.add_assoc m, Nat.add_assoc lo]) hx hn
  exact h
/-- sums over i, i + 1, .. (a body that adds what it likes) -/
theorem lp_sm {ρ : Type} {f : Int32 × Int32 → Option ((Int32 × Int32) ⊕ ρ)} (lo n : Nat) (F : Nat → Nat) (m : Nat) {r : ρ} (hs : ∀ k, k < n → ∀ a : Nat, f (nI a, nI (lo + k)) = some (.inl (nI (a + F (lo + k)), nI (lo + k + 1)))) (hx : f (nI (m + sm (fun k => F (lo + k)) n), nI (lo + n)) = some (.inr r)) (hn : n < lpN) : lp f lpN (nI m, nI lo) = some r := by
  have h := lp_run (f := f) (fun k => (nI (m + sm (fun k => F (lo + k)) k), nI (lo + k))) n (r := r) (fun k hk => by
    show f (nI (m + sm (fun k => F (lo + k)) k), nI (lo + k)) = _
    rw [hs k hk]
    show _ = some (Sum.inl (nI (m + (sm (fun k => F (lo + k)) k + F (lo + k))), nI (lo + (k + 1))))
    rw [Nat.add_assoc m, Nat.add_assoc lo]) hx hn
  exact h
