/-! turned, sides, edges, halving -/
theorem lp_two {σ ρ : Type} {f g : σ → Option (σ ⊕ ρ)} (I : Nat → σ → Prop) (Q : ρ → Prop) (K : Nat) (hs : ∀ k s, k < K → I k s → ∃ r, f s = some r ∧ g s = some r ∧ ((∃ s', r = .inl s' ∧ I (k + 1) s') ∨ ∃ v, r = .inr v ∧ Q v)) (hx : ∀ s, I K s → ∃ r, f s = some (.inr r) ∧ g s = some (.inr r) ∧ Q r) : ∀ {n : Nat} {s : σ}, I 0 s → K < n → ∃ r, lp f n s = some r ∧ lp g n s = some r ∧ Q r := by
  have key : ∀ (d n k : Nat) (s : σ), k + d = K → I k s → d < n → ∃ r, lp f n s = some r ∧ lp g n s = some r ∧ Q r := by
    intro d
    induction d with
    | zero =>
      intro n k s hk hI hn
      have : k = K := by omega
      subst this
      obtain ⟨r, e1, e2, q⟩ := hx s hI
      cases n with
      | zero => omega
      | succ n => exact ⟨r, by unfold lp; rw [e1], by unfold lp; rw [e2], q⟩
    | succ d ih =>
      intro n k s hk hI hn
      obtain ⟨r, e1, e2, q⟩ := hs k s (by omega) hI
      cases n with
      | zero => omega
      | succ n =>
        rcases q with ⟨s', rfl, i⟩ | ⟨v, rfl, q⟩
        · obtain ⟨r, f1, f2, q⟩ := ih n (k + 1) s' (by omega) i (by omega)
          exact ⟨r, by unfold lp; rw [e1]; exact f1, by unfold lp; rw [e2]; exact f2, q⟩
        · exact ⟨v, by unfold lp; rw [e1], by unfold lp; rw [e2], q⟩
  intro n s h0 hn
  exact key K n 0 s (by omega) h0 hn
/-- two loops alike, over a number and an index -/
theorem lp_pair {ρ : Type} {f g : Int32 × Int32 → Option ((Int32 × Int32) ⊕ ρ)} (lo n : Nat) (Q : ρ → Prop) (hs : ∀ k a, lo ≤ k → k < n → ∃ r, f (a, nI k) = some r ∧ g (a, nI k) = some r ∧ ((∃ a', r = .inl (a', nI (k + 1))) ∨ ∃ v, r = .inr v ∧ Q v)) (hx : ∀ a, ∃ r, f (a, nI n) = some (.inr r) ∧ g (a, nI n) = some (.inr r) ∧ Q r) (hl : lo ≤ n) (hn : n ≤ 12) (a : Int32) : ∃ r, lp f lpN (a, nI lo) = some r ∧ lp g lpN (a, nI lo) = some r ∧ Q r := by
  refine lp_two (f := f) (g := g) (fun k s => s.2 = nI (lo + k)) Q (n - lo) ?_ ?_ rfl (by unfold lpN; omega)
  · rintro k ⟨b, x⟩ hk e
    have e : x = nI (lo + k) := e
    subst e
    obtain ⟨r, e1, e2, q⟩ := hs (lo + k) b (by omega) (by omega)
    refine ⟨r, e1, e2, ?_⟩
    rcases q with ⟨a', rfl⟩ | q
    · exact Or.inl ⟨_, rfl, rfl⟩
    · exact Or.inr q
  · rintro ⟨b, x⟩ e
    have e : x = nI (lo + (n - lo)) := e
    rw [show lo + (n - lo) = n by omega] at e
    subst e
    exact hx b
theorem nI_xor (a b : Nat) : nI a ^^^ nI b = nI (a ^^^ b) := by
  apply Int32.toBitVec_inj.1
  show BitVec.ofNat 32 a ^^^ BitVec.ofNat 32 b = BitVec.ofNat 32 (a ^^^ b)
  exact BitVec.ofNat_xor.symm
def mns (a b : Nat) : Nat := a ^^^ (a &&& b)
theorem mns_bit (a b i : Nat) : (mns a b).testBit i = (a.testBit i && !b.testBit i) := by
  unfold mns
  rw [Nat.testBit_xor, Nat.testBit_and]
  cases a.testBit i <;> cases b.testBit i <;> rfl
theorem mns_lt {a n : Nat} (b : Nat) (h : a < 2 ^ n) : mns a b < 2 ^ n := Nat.xor_lt_two_pow h (Nat.lt_of_le_of_lt Nat.and_le_left h)
theorem andn_ok (a b : Nat) : nI a &&& (nI b ^^^ (-1)) = nI (mns a b) := by
  unfold mns
  rw [← nI_xor, ← nI_and]
  apply Int32.toBitVec_inj.1
  show (nI a).toBitVec &&& ((nI b).toBitVec ^^^ (-1 : Int32).toBitVec) = (nI a).toBitVec ^^^ ((nI a).toBitVec &&& (nI b).toBitVec)
  have e : (-1 : Int32).toBitVec = BitVec.allOnes 32 := by decide
  rw [e]
  apply BitVec.eq_of_getLsbD_eq
  intro i hi
  rw [BitVec.getLsbD_and, BitVec.getLsbD_xor, BitVec.getLsbD_xor, BitVec.getLsbD_and, BitVec.getLsbD_allOnes]
  simp only [hi, decide_true]
  cases (nI a).toBitVec.getLsbD i <;> cases (nI b).toBitVec.getLsbD i <;> rfl
theorem p12 {n : Nat} (h : n ≤ 12) : 2 ^ n ≤ 4096 := Nat.pow_le_pow_right (n := 2) (by decide) h
section SD
variable {n g : Nat} {X Y : Nat → Int} {h : pH} {o : Nat}
theorem every_ok (C : CC h o n g X Y) (hn : n ≤ 12) : f_Cloud_everyone o h = nI (2 ^ n - 1) := by
  unfold f_Cloud_everyone
  rw [C.1, jshl_ok n (by omega)]
  exact pk_sub (b := 1) (Nat.one_le_two_pow)
theorem full_ok (C : RR h n g X Y) (hn : n ≤ 12) : f_R_full h = nI (2 ^ n - 1) := by
  unfold f_R_full f_R_all
  rw [C.1, jshl_ok n (by omega)]
  exact pk_sub (b := 1) (Nat.one_le_two_pow)
theorem sdS_lt (p q : Nat) (sd : Int) : sdS n X Y p q sd < 2 ^ n := bs_lt _ n
theorem and_full {s n : Nat} (h : s < 2 ^ n) : s &&& (2 ^ n - 1) = s := by
  rw [Nat.and_two_pow_sub_one_eq_mod, Nat.mod_eq_of_lt h]
theorem full_lt {n : Nat} (hn : n ≤ 12) : 2 ^ n - 1 < 4096 := by have := p12 hn; have : 0 < 2 ^ n := Nat.two_pow_pos n; omega
theorem hasSet_ok (C : CC h o n g X Y) (hn : n ≤ 12) (x : Int32) : f_Cloud_hasSet o x h = if 0 ≤ x.toInt ∧ x.toInt < ((2 ^ n : Nat) : Int) then 1 else 0 := by
  unfold f_Cloud_hasSet
  have h1 := full_lt hn
  have h2 : 0 < 2 ^ n := Nat.two_pow_pos n
  rw [every_ok C hn, nI_iI, iI_of x, show (0 : Int32) = iI 0 from rfl]
  simp only [iI_lt (InR_of x) (show InR 0 by unfold InR; omega), iI_lt (show InR ((2 ^ n - 1 : Nat) : Int) by unfold InR; omega) (InR_of x), iI_toInt (InR_of x)]
  by_cases h3 : x.toInt < 0
  · rw [if_pos h3, if_neg (by omega)]
  · rw [if_neg h3]
    by_cases h4 : ((2 ^ n - 1 : Nat) : Int) < x.toInt
    · rw [if_pos h4, if_neg (by omega)]
    · rw [if_neg h4, if_pos (by omega)]
theorem inSet_ok (C : RR h n g X Y) (hn : n ≤ 12) (x : Int32) : f_R_in x 0 (f_R_full h) = if 0 ≤ x.toInt ∧ x.toInt < ((2 ^ n : Nat) : Int) then 1 else 0 := by
  have h1 := full_lt hn
  have h2 : 0 < 2 ^ n := Nat.two_pow_pos n
  rw [full_ok C hn, nI_iI, show (0 : Int32) = iI 0 from rfl, in_ok x (by unfold InR; omega) (by unfold InR; omega)]
  by_cases h3 : 0 ≤ x.toInt ∧ x.toInt ≤ ((2 ^ n - 1 : Nat) : Int)
  · rw [if_pos h3, if_pos (by omega)]
  · rw [if_neg h3, if_neg (by omega)]
    rfl
def hvB (n : Nat) (X Y : Nat → Int) (p q s : Nat) : Bool := decide (2 * pct (sdS n X Y p q 1 &&& s) ≤ pct s) && decide (2 * pct (sdS n X Y p q (-1) &&& s) ≤ pct s)
theorem and_lt4 {a s : Nat} (hs : s < 4096) : a &&& s < 4096 := Nat.lt_of_le_of_lt Nat.and_le_right hs
theorem isHalved_ok (C : CC h o n g X Y) (G : GC n g X Y) {p q s : Nat} (hp : p < n) (hq : q < n) (hs : s < 4096) : f_Cloud_isHalved o (nI p) (nI q) (nI s) h = some (if hvB n X Y p q s then 1 else 0) := by
  unfold f_Cloud_isHalved hvB
  have a := sideBits_ok C G hp hq (sd := 1) (by omega)
  have b := sideBits_ok C G hp hq (sd := -1) (by omega)
  rw [show f_Cloud_sideBits o (nI p) (nI q) 1 h = _ from a, show f_Cloud_sideBits o (nI p) (nI q) (-1) h = _ from b]
  simp only [Option.bind_some]
  have l1 := pct_le s
  have l2 := pct_le (sdS n X Y p q 1 &&& s)
  have l3 := pct_le (sdS n X Y p q (-1) &&& s)
  rw [nI_and, nI_and, bitCount_ok hs, bitCount_ok (and_lt4 hs), bitCount_ok (and_lt4 hs), show (2 : Int32) = nI 2 from rfl, pk_mul, pk_mul]
  simp only [nI_ltI (show pct s < 2 ^ 31 by omega) (show 2 * pct (sdS n X Y p q 1 &&& s) < 2 ^ 31 by omega), nI_ltI (show pct s < 2 ^ 31 by omega) (show 2 * pct (sdS n X Y p q (-1) &&& s) < 2 ^ 31 by omega)]
  by_cases h1 : pct s < 2 * pct (sdS n X Y p q 1 &&& s)
  · rw [if_pos h1]
    simp [show ¬ 2 * pct (sdS n X Y p q 1 &&& s) ≤ pct s by omega]
  · rw [if_neg h1]
    by_cases h2 : pct s < 2 * pct (sdS n X Y p q (-1) &&& s)
    · rw [if_pos h2]
      simp [show ¬ 2 * pct (sdS n X Y p q (-1) &&& s) ≤ pct s by omega]
    · rw [if_neg h2]
      simp [show 2 * pct (sdS n X Y p q (-1) &&& s) ≤ pct s by omega, show 2 * pct (sdS n X Y p q 1 &&& s) ≤ pct s by omega]
theorem halves_ok (C : RR h n g X Y) (G : GC n g X Y) {p q s : Nat} (hp : p < n) (hq : q < n) (hs : s < 4096) : f_R_halves (nI p) (nI q) (nI s) h = some (if hvB n X Y p q s then 1 else 0) := by
  unfold f_R_halves hvB
  have a := R_onSide_ok C G hp hq (s := s) (by omega) (sd := 1) (by omega)
  have b := R_onSide_ok C G hp hq (s := s) (by omega) (sd := -1) (by omega)
  have l1 := pct_le s
  have l2 := pct_le (sdS n X Y p q 1 &&& s)
  have l3 := pct_le (sdS n X Y p q (-1) &&& s)
  rw [show f_R_onSide (nI p) (nI q) 1 (nI s) h = _ from a, show f_R_onSide (nI p) (nI q) (-1) (nI s) h = _ from b, bitsOf_ok hs]
  simp only [Option.bind_some]
  rw [bitsOf_ok (and_lt4 hs), bitsOf_ok (and_lt4 hs)]
  simp only [Option.bind_some]
  rw [show (2 : Int32) = nI 2 from rfl, pk_mul, pk_mul]
  simp only [nI_ltI (show pct s < 2 ^ 31 by omega) (show 2 * pct (sdS n X Y p q 1 &&& s) < 2 ^ 31 by omega), nI_ltI (show pct s < 2 ^ 31 by omega) (show 2 * pct (sdS n X Y p q (-1) &&& s) < 2 ^ 31 by omega)]
  by_cases h1 : pct s < 2 * pct (sdS n X Y p q 1 &&& s)
  · rw [if_pos h1]
    simp [show ¬ 2 * pct (sdS n X Y p q 1 &&& s) ≤ pct s by omega]
  · rw [if_neg h1]
    by_cases h2 : pct s < 2 * pct (sdS n X Y p q (-1) &&& s)
    · rw [if_pos h2]
      simp [show ¬ 2 * pct (sdS n X Y p q (-1) &&& s) ≤ pct s by omega]
    · rw [if_neg h2]
      simp [show 2 * pct (sdS n X Y p q (-1) &&& s) ≤ pct s by omega, show 2 * pct (sdS n X Y p q 1 &&& s) ≤ pct s by omega]
end SD
