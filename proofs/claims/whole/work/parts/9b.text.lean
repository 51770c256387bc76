/-! texts: their tokens -/
def isBl (b : Nat) : Bool := decide (b = 9 ∨ b = 10 ∨ b = 13 ∨ b = 32)
def isLt (b : Nat) : Bool := decide (97 ≤ b ∧ b ≤ 122)
def isDg (b : Nat) : Bool := decide (48 ≤ b ∧ b ≤ 57)
def rn (P : Nat → Bool) (B : Nat → Nat) (len : Nat) : Nat → Nat → Nat
  | 0, _ => 0
  | f + 1, i => if i < len ∧ P (B i) = true then rn P B len f (i + 1) + 1 else 0
theorem rn_in {P : Nat → Bool} {B : Nat → Nat} {len : Nat} : ∀ f i k, k < rn P B len f i → i + k < len ∧ P (B (i + k)) = true := by
  intro f
  induction f with
  | zero => intro i k hk; exact absurd hk (by unfold rn; omega)
  | succ f ih =>
    intro i k hk
    unfold rn at hk
    by_cases c : i < len ∧ P (B i) = true
    · rw [if_pos c] at hk
      cases k with
      | zero => exact c
      | succ k =>
        have := ih (i + 1) k (by omega)
        rw [show i + 1 + k = i + (k + 1) by omega] at this
        exact this
    · rw [if_neg c] at hk
      omega
theorem rn_end {P : Nat → Bool} {B : Nat → Nat} {len : Nat} : ∀ f i, len ≤ i + f → i ≤ len → i + rn P B len f i ≤ len ∧ ¬ (i + rn P B len f i < len ∧ P (B (i + rn P B len f i)) = true) := by
  intro f
  induction f with
  | zero => intro i h1 h2; unfold rn; exact ⟨by omega, fun x => by omega⟩
  | succ f ih =>
    intro i h1 h2
    unfold rn
    by_cases c : i < len ∧ P (B i) = true
    · rw [if_pos c]
      have := ih (i + 1) (by omega) (by omega)
      rw [show i + (rn P B len f (i + 1) + 1) = i + 1 + rn P B len f (i + 1) by omega]
      exact this
    · rw [if_neg c]
      exact ⟨by omega, c⟩
def run (P : Nat → Bool) (B : Nat → Nat) (len i : Nat) : Nat := rn P B len (len - i) i
theorem run_in {P : Nat → Bool} {B : Nat → Nat} {len i k : Nat} (h : k < run P B len i) : i + k < len ∧ P (B (i + k)) = true := rn_in _ _ _ h
theorem run_end {P : Nat → Bool} {B : Nat → Nat} {len i : Nat} (h : i ≤ len) : i + run P B len i ≤ len ∧ ¬ (i + run P B len i < len ∧ P (B (i + run P B len i)) = true) := rn_end _ _ (by omega) h
theorem run_pos {P : Nat → Bool} {B : Nat → Nat} {len i : Nat} (h : i < len) (hp : P (B i) = true) : 0 < run P B len i := by
  rcases Nat.eq_zero_or_pos (run P B len i) with z | z
  · exact absurd ⟨by rw [z]; exact h, by rw [z]; exact hp⟩ (run_end (P := P) (B := B) (Nat.le_of_lt h)).2
  · exact z
/-- numbers and names -/
def dv (B : Nat → Nat) (s : Nat) : Nat → Nat
  | 0 => 0
  | k + 1 => 10 * dv B s k + (B (s + k) - 48)
def nm (B : Nat → Nat) (s : Nat) : Nat → Nat
  | 0 => 0
  | k + 1 => 27 * nm B s k + (B (s + k) - 96)
def tst (B : Nat → Nat) (len i : Nat) : Nat := i + run isBl B len i
def pCode : Nat := 27 * (27 * (27 * (27 * 16 + 15) + 9) + 14) + 20
def gCode : Nat := 27 * (27 * (27 * 7 + 18) + 9) + 4
def kd (B : Nat → Nat) (len s : Nat) : Nat :=
  if isLt (B s) then (if 8 < run isLt B len s then 3 else if nm B s (run isLt B len s) = pCode then 20 else if nm B s (run isLt B len s) = gCode then 21 else 1)
  else if isDg (B s) then (if 4 < run isDg B len s then 3 else 2)
  else if B s = 59 then 4 else if B s = 45 then 5 else 3
def tnx (B : Nat → Nat) (len s : Nat) : Nat := if isLt (B s) then s + run isLt B len s else if isDg (B s) then s + run isDg B len s else s + 1
theorem tnx_in {B : Nat → Nat} {len s : Nat} (h : s < len) : s < tnx B len s ∧ tnx B len s ≤ len := by
  unfold tnx
  cases h1 : isLt (B s) with
  | true =>
    rw [if_pos rfl]
    have := run_pos (P := isLt) h h1
    have := (run_end (P := isLt) (B := B) (Nat.le_of_lt h)).1
    omega
  | false =>
    rw [if_neg (by decide)]
    cases h2 : isDg (B s) with
    | true =>
      rw [if_pos rfl]
      have := run_pos (P := isDg) h h2
      have := (run_end (P := isDg) (B := B) (Nat.le_of_lt h)).1
      omega
    | false =>
      rw [if_neg (by decide)]
      omega
theorem tst_in {B : Nat → Nat} {len i : Nat} (h : i ≤ len) : i ≤ tst B len i ∧ tst B len i ≤ len := ⟨by unfold tst; omega, (run_end (P := isBl) (B := B) h).1⟩
/-- where the k-th token is looked for -/
def tps (B : Nat → Nat) (len : Nat) : Nat → Nat
  | 0 => 0
  | k + 1 => if tst B len (tps B len k) < len then tnx B len (tst B len (tps B len k)) else tps B len k
def tsk (B : Nat → Nat) (len k : Nat) : Nat := tst B len (tps B len k)
theorem tps_le {B : Nat → Nat} {len : Nat} : ∀ k, tps B len k ≤ len := by
  intro k
  induction k with
  | zero => exact Nat.zero_le _
  | succ k ih =>
    unfold tps
    split
    · rename_i h; exact (tnx_in h).2
    · exact ih
theorem tsk_le {B : Nat → Nat} {len : Nat} (k : Nat) : tps B len k ≤ tsk B len k ∧ tsk B len k ≤ len := tst_in (tps_le k)
theorem tps_s {B : Nat → Nat} {len k : Nat} (h : tsk B len k < len) : tps B len (k + 1) = tnx B len (tsk B len k) := by
  unfold tsk at h ⊢
  show (if tst B len (tps B len k) < len then _ else _) = _
  rw [if_pos h]
theorem tsk_lt {B : Nat → Nat} {len k : Nat} (h : tsk B len k < len) : tsk B len k < tsk B len (k + 1) := by
  have a := (tnx_in (B := B) h).1
  have b := (tsk_le (B := B) (len := len) (k + 1)).1
  rw [tps_s h] at b
  omega
theorem tsk_stop {B : Nat → Nat} {len k : Nat} (h : ¬ tsk B len k < len) : tsk B len (k + 1) = tsk B len k := by
  have e : tps B len (k + 1) = tps B len k := by
    unfold tsk at h
    show (if tst B len (tps B len k) < len then _ else _) = _
    rw [if_neg h]
  unfold tsk
  rw [e]
theorem tsk_ge {B : Nat → Nat} {len : Nat} : ∀ k, tsk B len k < len → k ≤ tsk B len k := by
  intro k
  induction k with
  | zero => intro _; exact Nat.zero_le _
  | succ k ih =>
    intro h
    by_cases c : tsk B len k < len
    · have := tsk_lt c
      have := ih c
      omega
    · rw [tsk_stop c] at h
      exact absurd h c
/-- the class's kinds -/
def ck (k : Nat) : Nat := if k = 20 then 1 else if k = 21 then 2 else if k = 1 then 3 else if k = 2 then 4 else if k = 5 then 5 else if k = 4 then 6 else 0
theorem kd_cases (B : Nat → Nat) (len s : Nat) : kd B len s = 1 ∨ kd B len s = 2 ∨ kd B len s = 3 ∨ kd B len s = 4 ∨ kd B len s = 5 ∨ kd B len s = 20 ∨ kd B len s = 21 := by
  unfold kd
  split
  · split
    · omega
    · split
      · omega
      · split <;> omega
  · split
    · split <;> omega
    · split
      · omega
      · split <;> omega
/-- a word is known by its number -/
theorem nm_word {B : Nat → Nat} {s m : Nat} (hm : m ≤ 8) (hl : ∀ k, k < m → isLt (B (s + k)) = true) : (nm B s m = pCode ↔ m = 5 ∧ B (s + 0) = 112 ∧ B (s + 1) = 111 ∧ B (s + 2) = 105 ∧ B (s + 3) = 110 ∧ B (s + 4) = 116) ∧ (nm B s m = gCode ↔ m = 4 ∧ B (s + 0) = 103 ∧ B (s + 1) = 114 ∧ B (s + 2) = 105 ∧ B (s + 3) = 100) := by
  have hl' : ∀ k, k < m → 97 ≤ B (s + k) ∧ B (s + k) ≤ 122 := fun k hk => by simpa [isLt] using hl k hk
  have : m = 0 ∨ m = 1 ∨ m = 2 ∨ m = 3 ∨ m = 4 ∨ m = 5 ∨ m = 6 ∨ m = 7 ∨ m = 8 := by omega
  unfold pCode gCode
  rcases this with rfl | rfl | rfl | rfl | rfl | rfl | rfl | rfl | rfl
  · simp only [nm]; omega
  · have h0 := hl' 0 (by omega)
    simp only [nm]; omega
  · have h0 := hl' 0 (by omega)
    have h1 := hl' 1 (by omega)
    simp only [nm]; omega
  · have h0 := hl' 0 (by omega)
    have h1 := hl' 1 (by omega)
    have h2 := hl' 2 (by omega)
    simp only [nm]; omega
  · have h0 := hl' 0 (by omega)
    have h1 := hl' 1 (by omega)
    have h2 := hl' 2 (by omega)
    have h3 := hl' 3 (by omega)
    have e4 : nm B s 4 = 27 * (27 * (27 * (27 * 0 + (B (s + 0) - 96)) + (B (s + 1) - 96)) + (B (s + 2) - 96)) + (B (s + 3) - 96) := rfl
    rw [e4]
    exact ⟨⟨fun e => by omega, fun e => absurd e.1 (by decide)⟩, ⟨fun e => ⟨rfl, by omega, by omega, by omega, by omega⟩, fun e => by omega⟩⟩
  · have h0 := hl' 0 (by omega)
    have h1 := hl' 1 (by omega)
    have h2 := hl' 2 (by omega)
    have h3 := hl' 3 (by omega)
    have h4 := hl' 4 (by omega)
    have e5 : nm B s 5 = 27 * (27 * (27 * (27 * (27 * 0 + (B (s + 0) - 96)) + (B (s + 1) - 96)) + (B (s + 2) - 96)) + (B (s + 3) - 96)) + (B (s + 4) - 96) := rfl
    rw [e5]
    exact ⟨⟨fun e => ⟨rfl, by omega, by omega, by omega, by omega, by omega⟩, fun e => by omega⟩, ⟨fun e => by omega, fun e => absurd e.1 (by decide)⟩⟩
  · have h0 := hl' 0 (by omega)
    have h1 := hl' 1 (by omega)
    have h2 := hl' 2 (by omega)
    have h3 := hl' 3 (by omega)
    have h4 := hl' 4 (by omega)
    have h5 := hl' 5 (by omega)
    simp only [nm]; omega
  · have h0 := hl' 0 (by omega)
    have h1 := hl' 1 (by omega)
    have h2 := hl' 2 (by omega)
    have h3 := hl' 3 (by omega)
    have h4 := hl' 4 (by omega)
    have h5 := hl' 5 (by omega)
    have h6 := hl' 6 (by omega)
    simp only [nm]; omega
  · have h0 := hl' 0 (by omega)
    have h1 := hl' 1 (by omega)
    have h2 := hl' 2 (by omega)
    have h3 := hl' 3 (by omega)
    have h4 := hl' 4 (by omega)
    have h5 := hl' 5 (by omega)
    have h6 := hl' 6 (by omega)
    have h7 := hl' 7 (by omega)
    simp only [nm]; omega
