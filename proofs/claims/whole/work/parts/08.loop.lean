/-! loops and the plumbing of the printed functions -/
def lp {σ ρ : Type} (f : σ → Option (σ ⊕ ρ)) : Nat → σ → Option ρ
  | 0, _ => none
  | n + 1, s => match f s with
    | none => none
    | some (.inl s') => lp f n s'
    | some (.inr r) => some r
def lpN : Nat := 20000
theorem lp_ind {σ ρ : Type} {f : σ → Option (σ ⊕ ρ)} {P : σ → Prop} {K : ρ → Prop} (hb : ∀ s b, f s = some b → Sum.elim P K b → P s) : ∀ (n : Nat) (s : σ) (r : ρ), lp f n s = some r → K r → P s
  | 0, _, _, e, _ => by cases e
  | n + 1, s, r, e, k => by
    unfold lp at e
    split at e
    · cases e
    · next s' hs => exact hb s _ hs (lp_ind hb n s' r e k)
    · next r' hs =>
      cases e
      exact hb s _ hs k
theorem lp_in {σ ρ : Type} {f : σ → Option (σ ⊕ ρ)} {n : Nat} {s : σ} {r : ρ} (e : lp f n s = some r) (P : σ → Prop) (K : ρ → Prop) (hb : ∀ s b, f s = some b → Sum.elim P K b → P s) (k : K r) : P s := lp_ind hb n s r e k
theorem it_t {α : Type} {c : Prop} [Decidable c] {a b x : α} (hc : c) (e : (if c then a else b) = x) : a = x := by rw [if_pos hc] at e; exact e
theorem it_f {α : Type} {c : Prop} [Decidable c] {a b x : α} (hc : ¬ c) (e : (if c then a else b) = x) : b = x := by rw [if_neg hc] at e; exact e
/-- a guard that held: the 'none' branch can't have answered -/
theorem it_g {α : Type} {c : Prop} [Decidable c] {a : Option α} {x : α} (e : (if c then none else a) = some x) : ¬ c ∧ a = some x := by
  by_cases hc : c
  · rw [if_pos hc] at e; cases e
  · rw [if_neg hc] at e; exact ⟨hc, e⟩
theorem bi_s {α β : Type} {o : Option α} {f : α → Option β} {x : β} (e : o.bind f = some x) : ∃ v, o = some v ∧ f v = some x := Option.bind_eq_some_iff.mp e
def mi {σ ρ : Type} (o : Option ρ) : Option (σ ⊕ ρ) := o.map Sum.inr
theorem mi_s {σ ρ : Type} {o : Option ρ} {b : σ ⊕ ρ} (e : mi o = some b) : ∃ v, o = some v ∧ b = .inr v := by
  unfold mi at e
  cases o with
  | none => cases e
  | some v => cases e; exact ⟨v, rfl, rfl⟩
def lsb : List (Option Value) → List (Option Value) → Prop
  | [], _ => True
  | none :: t, _ :: u => lsb t u
  | none :: t, [] => lsb t []
  | some v :: t, some w :: u => v = w ∧ lsb t u
  | some _ :: _, _ => False
theorem lsb_ok : ∀ {a b : List (Option Value)}, lsb a b → ∀ (i : Nat) (v : Value), a[i]? = some (some v) → b[i]? = some (some v)
  | [], _, _, i, v, h => by simp at h
  | none :: t, _ :: u, hs, i, v, h => by
    cases i with
    | zero => simp at h
    | succ i => simpa using lsb_ok (a := t) (b := u) hs i v (by simpa using h)
  | none :: t, [], hs, i, v, h => by
    cases i with
    | zero => simp at h
    | succ i => simpa using lsb_ok (a := t) (b := []) hs i v (by simpa using h)
  | some x :: t, some w :: u, hs, i, v, h => by
    cases i with
    | zero => simp at h ⊢; rw [← hs.1]; exact h
    | succ i => simpa using lsb_ok (a := t) (b := u) hs.2 i v (by simpa using h)
  | some _ :: _, [], hs, i, v, h => hs.elim
  | some _ :: _, none :: _, hs, i, v, h => hs.elim
theorem Go.sb {E : pE} {M : MI} {pc : Nat} {ls : List (Option Value)} {st : List Value} {h hr : pH} {r : Option Value} (ls' : List (Option Value)) (hs : lsb ls' ls) (k : Go E M pc ls' st h r hr) : Go E M pc ls st h r hr := Go.sub ls' (lsb_ok hs) k
/-- a loop whose states are known: s 0, s 1, .., s K, and then it ends -/
theorem lp_run {σ ρ : Type} {f : σ → Option (σ ⊕ ρ)} (s : Nat → σ) (K : Nat) {r : ρ} (hs : ∀ k, k < K → f (s k) = some (.inl (s (k + 1)))) (hx : f (s K) = some (.inr r)) : ∀ {n : Nat}, K < n → lp f n (s 0) = some r := by
  have key : ∀ (d n k : Nat), k + d = K → d < n → lp f n (s k) = some r := by
    intro d
    induction d with
    | zero =>
      intro n k hk hn
      have : k = K := by omega
      subst this
      cases n with
      | zero => omega
      | succ n => unfold lp; rw [hx]
    | succ d ih =>
      intro n k hk hn
      cases n with
      | zero => omega
      | succ n =>
        unfold lp
        rw [hs k (by omega)]
        exact ih n (k + 1) (by omega) (by omega)
  intro n hn
  exact key K n 0 (by omega) hn
