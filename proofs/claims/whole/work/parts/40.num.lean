/-! numbers: Int32 as images of Int and Nat, sets as bits -/
def iI (z : Int) : Int32 := Int32.ofInt z
theorem iI_add (a b : Int) : iI a + iI b = iI (a + b) := (Int32.ofInt_add a b).symm
theorem iI_mul (a b : Int) : iI a * iI b = iI (a * b) := (Int32.ofInt_mul a b).symm
theorem iI_neg (a : Int) : -iI a = iI (-a) := (Int32.ofInt_neg a).symm
theorem iI_sub (a b : Int) : iI a - iI b = iI (a - b) := (Int32.ofInt_sub a b).symm
theorem nI_iI (n : Nat) : nI n = iI (n : Int) := by
  unfold nI iI
  exact (Int32.ofInt_eq_ofNat).symm
def InR (a : Int) : Prop := -2147483648 ≤ a ∧ a < 2147483648
theorem iI_toInt {a : Int} (h : InR a) : (iI a).toInt = a := by
  unfold iI
  exact Int32.toInt_ofInt_of_le h.1 h.2
theorem iI_lt {a b : Int} (ha : InR a) (hb : InR b) : iI a < iI b ↔ a < b := by
  rw [Int32.lt_iff_toInt_lt, iI_toInt ha, iI_toInt hb]
theorem iI_le {a b : Int} (ha : InR a) (hb : InR b) : iI a ≤ iI b ↔ a ≤ b := by
  rw [Int32.le_iff_toInt_le, iI_toInt ha, iI_toInt hb]
theorem iI_eq {a b : Int} (ha : InR a) (hb : InR b) : iI a = iI b ↔ a = b := by
  constructor
  · intro h
    have := congrArg Int32.toInt h
    rwa [iI_toInt ha, iI_toInt hb] at this
  · intro h; rw [h]
theorem iI_of (x : Int32) : x = iI x.toInt := by
  unfold iI
  simp
theorem InR_of (x : Int32) : InR x.toInt := ⟨x.le_toInt, x.toInt_lt⟩
theorem lt_no {k n : Nat} (h : k < n) (hn : n ≤ 100000) : ¬ nI n ≤ nI k := nI_ge h (by omega)
theorem ge_yes {k n : Nat} (h : n ≤ k) (hn : k ≤ 100000) : nI n ≤ nI k := nI_le h (by omega)
theorem gd {k N : Nat} (h : k < N) (hN : N ≤ 100000) : ¬ (nI k < 0 ∨ N ≤ (nI k).toNatClampNeg) := nI_in h (by omega)
theorem cla {k : Nat} (h : k ≤ 100000) : (nI k).toNatClampNeg = k := nI_clamp (by omega)
theorem nI_eqI {a b : Nat} (ha : a ≤ 100000) (hb : b ≤ 100000) : nI a = nI b ↔ a = b := nI_eq (by omega) (by omega)
def sgn (t : Int) : Int := if 0 < t then 1 else if t < 0 then -1 else 0
theorem sgn_neg (t : Int) : sgn (-t) = - sgn t := by unfold sgn; split <;> split <;> (try split) <;> (try split) <;> omega
theorem sgn_1 {t : Int} : sgn t = 1 ↔ 0 < t := by unfold sgn; split <;> (try split) <;> omega
theorem sgn_m {t : Int} : sgn t = -1 ↔ t < 0 := by unfold sgn; split <;> (try split) <;> omega
theorem sgn_0 {t : Int} : sgn t = 0 ↔ t = 0 := by unfold sgn; split <;> (try split) <;> omega
theorem sgn_in (t : Int) : sgn t = 1 ∨ sgn t = -1 ∨ sgn t = 0 := by unfold sgn; split <;> (try split) <;> omega
theorem signOf_ok {t : Int} (h : InR t) : f_C_signOf (iI t) = iI (sgn t) := by
  unfold f_C_signOf sgn
  have h0 : InR 0 := by unfold InR; omega
  have e0 : (0 : Int32) = iI 0 := rfl
  rw [e0]
  simp only [iI_le h h0, iI_le h0 h]
  by_cases h1 : t ≤ 0
  · rw [if_pos h1]
    by_cases h2 : 0 ≤ t
    · rw [if_pos h2, if_neg (by omega), if_neg (by omega)]
    · rw [if_neg h2, if_neg (by omega), if_pos (by omega)]; rfl
  · rw [if_neg h1, if_pos (by omega)]; rfl
/-! sets of numbers below n as bits -/
def bs (P : Nat → Bool) : Nat → Nat
  | 0 => 0
  | k + 1 => if P k then bs P k ||| 2 ^ k else bs P k
theorem bs_bit (P : Nat → Bool) (n i : Nat) : (bs P n).testBit i = (decide (i < n) && P i) := by
  induction n with
  | zero => simp [bs]
  | succ n ih =>
    unfold bs
    by_cases hp : P n = true
    · rw [if_pos hp, Nat.testBit_or, ih, Nat.testBit_two_pow]
      by_cases e : n = i
      · subst e; simp [hp]
      · have : decide (i < n + 1) = decide (i < n) := by
          by_cases h : i < n
          · simp [h, Nat.lt_succ_of_lt h]
          · simp [h]; omega
        simp [e, this]
    · rw [if_neg hp, ih]
      by_cases e : n = i
      · subst e; simp [hp]
      · have : decide (i < n + 1) = decide (i < n) := by
          by_cases h : i < n
          · simp [h, Nat.lt_succ_of_lt h]
          · simp [h]; omega
        simp [this]
theorem bs_lt (P : Nat → Bool) (n : Nat) : bs P n < 2 ^ n := by
  apply Nat.lt_pow_two_of_testBit
  intro i hi
  rw [bs_bit]
  simp; omega
theorem bs_le (P : Nat → Bool) {n k : Nat} (h : n ≤ k) : bs P n < 2 ^ k := Nat.lt_of_lt_of_le (bs_lt P n) (Nat.pow_le_pow_right (by decide) h)
theorem set_eq {a b n : Nat} (ha : a < 2 ^ n) (hb : b < 2 ^ n) (h : ∀ i, i < n → a.testBit i = b.testBit i) : a = b := by
  apply Nat.eq_of_testBit_eq
  intro i
  by_cases hi : i < n
  · exact h i hi
  · have e : 2 ^ n ≤ 2 ^ i := Nat.pow_le_pow_right (by decide) (by omega)
    rw [Nat.testBit_lt_two_pow (by omega), Nat.testBit_lt_two_pow (by omega)]
theorem bs_of {a n : Nat} (ha : a < 2 ^ n) : bs (fun i => a.testBit i) n = a := set_eq (bs_lt _ n) ha (fun i hi => by rw [bs_bit]; simp [hi])
theorem bs_cong {P Q : Nat → Bool} {n : Nat} (h : ∀ i, i < n → P i = Q i) : bs P n = bs Q n := set_eq (bs_lt _ n) (bs_lt _ n) (fun i hi => by rw [bs_bit, bs_bit, h i hi])
theorem jshl_ok : ∀ p, p < 31 → jshl 1 (nI p) = nI (2 ^ p) := by decide +kernel
theorem nI_or (a b : Nat) : nI a ||| nI b = nI (a ||| b) := by
  apply Int32.toBitVec_inj.mp
  simp [nI, Int32.toBitVec_or, BitVec.ofNat_or]
theorem nI_and (a b : Nat) : nI a &&& nI b = nI (a &&& b) := by
  apply Int32.toBitVec_inj.mp
  simp [nI, Int32.toBitVec_and, BitVec.ofNat_and]
theorem smod_ok : ∀ p, p < 31 → ((nI p &&& 31).toBitVec.smod 32).toNat = p := by decide +kernel
theorem jshr_ok {s p : Nat} (hs : s < 2 ^ 31) (hp : p < 31) : jshr (nI s) (nI p) = nI (s / 2 ^ p) := pk_shrN hs _ p (smod_ok p hp)
theorem bit_ok {s p : Nat} (hs : s < 2 ^ 31) (hp : p < 31) : f_C_bit (nI s) (nI p) = if s.testBit p then 1 else 0 := by
  unfold f_C_bit
  rw [jshr_ok hs hp, show (1 : Int32) = nI 1 from rfl, nI_and, Nat.and_one_is_mod]
  have : s.testBit p = decide (s / 2 ^ p % 2 = 1) := Nat.testBit_eq_decide_div_mod_eq
  rw [this]
  rcases Nat.mod_two_eq_zero_or_one (s / 2 ^ p) with h | h <;> rw [h] <;> rfl
theorem has_ok {s p : Nat} (hs : s < 2 ^ 31) (hp : p < 31) : f_R_has (nI s) (nI p) = if s.testBit p then 1 else 0 := by
  have e : (jshr (nI s) (nI p) &&& 1) = if s.testBit p then 1 else 0 := bit_ok hs hp
  unfold f_R_has
  rw [e]
  cases s.testBit p <;> rfl
/-- how many -/
def pcn : Nat → Nat → Nat
  | 0, _ => 0
  | k + 1, s => s % 2 + pcn k (s / 2)
def pct (s : Nat) : Nat := pcn 12 s
theorem bitCount_0 : ∀ a, a < 64 → ∀ b, b < 64 → f_J_bitCount (nI (64 * a + b)) = nI (pct (64 * a + b)) := by decide +kernel
theorem bitCount_ok {s : Nat} (hs : s < 4096) : f_J_bitCount (nI s) = nI (pct s) := by
  have h := bitCount_0 (s / 64) (by omega) (s % 64) (by omega)
  rw [Nat.div_add_mod] at h
  exact h
theorem pcn_le (k : Nat) : ∀ s, pcn k s ≤ k := by
  induction k with
  | zero => intro s; exact Nat.le_refl _
  | succ k ih => intro s; unfold pcn; have := ih (s / 2); omega
theorem pct_le (s : Nat) : pct s ≤ 12 := pcn_le 12 s
theorem pcn_0 (k : Nat) : pcn k 0 = 0 := by
  induction k with
  | zero => rfl
  | succ k ih => unfold pcn; simpa using ih
theorem pcn_split (a b s : Nat) : pcn (a + b) s = pcn a s + pcn b (s / 2 ^ a) := by
  induction a generalizing s with
  | zero => simp [pcn]
  | succ a ih =>
    rw [show a + 1 + b = (a + b) + 1 by omega]
    show s % 2 + pcn (a + b) (s / 2) = (s % 2 + pcn a (s / 2)) + pcn b (s / 2 ^ (a + 1))
    rw [ih (s / 2), Nat.div_div_eq_div_mul, show 2 * 2 ^ a = 2 ^ (a + 1) by rw [Nat.pow_succ]; omega]
    omega
/-- the reference's count -/
theorem bitsOf_ok {s : Nat} (hs : s < 4096) : f_R_bitsOf (nI s) = some (nI (pct s)) := by
  unfold f_R_bitsOf
  have key : ∀ k, s / 2 ^ k < 2 ^ 31 := fun k => Nat.lt_of_le_of_lt (Nat.div_le_self _ _) (by omega)
  obtain ⟨K, hK0, hK1, hK2⟩ : ∃ K, K ≤ 12 ∧ s / 2 ^ K = 0 ∧ ∀ k, k < K → s / 2 ^ k ≠ 0 := by
    have h12 : s / 2 ^ 12 = 0 := Nat.div_eq_of_lt hs
    obtain ⟨K, h1, h2⟩ := pk_least (fun k => s / 2 ^ k = 0) ⟨12, h12⟩
    exact ⟨K, Nat.le_of_not_lt (fun q => h2 12 q h12), h1, h2⟩
  have e : pct s = pcn K s := by
    unfold pct
    rw [show 12 = K + (12 - K) by omega, pcn_split, hK1, pcn_0]
    omega
  have hrun := lp_run (f := fun s => f_R_bitsOf_L1 s.1 s.2) (fun k => (nI (pcn k s), nI (s / 2 ^ k))) K (r := nI (pct s)) ?_ ?_ (n := lpN) (by unfold lpN; omega)
  · have e0 : (nI (pcn 0 s), nI (s / 2 ^ 0)) = ((0 : Int32), nI s) := by simp [pcn, nI_0]
    rw [e0] at hrun
    exact hrun
  · intro k hk
    show f_R_bitsOf_L1 (nI (pcn k s)) (nI (s / 2 ^ k)) = _
    unfold f_R_bitsOf_L1
    have hne := hK2 k hk
    rw [if_neg (nI_nle (Nat.pos_of_ne_zero hne) (key k)), show (1 : Int32) = nI 1 from rfl, nI_and, jshr_ok (key k) (by decide), nI_add, Nat.and_one_is_mod, Nat.div_div_eq_div_mul, show 2 ^ k * 2 ^ 1 = 2 ^ (k + 1) from (Nat.pow_add 2 k 1).symm]
    have e2 : pcn (k + 1) s = pcn k s + s / 2 ^ k % 2 := by
      rw [pcn_split k 1 s]
      simp [pcn]
    rw [e2]
  · show f_R_bitsOf_L1 (nI (pcn K s)) (nI (s / 2 ^ K)) = _
    unfold f_R_bitsOf_L1
    rw [hK1, if_pos (by decide), e]
