/-! the plane: extreme directions -/
theorem pos_of_mul {a b c : Int} (ha : 0 < a) (h : a * b = c) (hc : 0 < c) : 0 < b := by
  rcases Int.lt_or_le 0 b with q | q
  · exact q
  · have := Int.mul_nonneg (Int.le_of_lt ha) (by omega : (0 : Int) ≤ -b)
    have e : a * -b = -c := by rw [Int.mul_neg, h]
    omega
theorem nonneg_of_mul {a b c : Int} (ha : 0 < a) (h : a * b = c) (hc : 0 ≤ c) : 0 ≤ b := by
  rcases Int.lt_or_le b 0 with q | q
  · have := Int.mul_pos ha (by omega : (0 : Int) < -b)
    have e : a * -b = -c := by rw [Int.mul_neg, h]
    omega
  · exact q
section EX
variable {U V : Nat → Int}
def cr (U V : Nat → Int) (i j : Nat) : Int := U i * V j - V i * U j
def dt (U V : Nat → Int) (i j : Nat) : Int := U i * U j + V i * V j
theorem cr_anti (i j : Nat) : cr U V j i = - cr U V i j := by unfold cr; grind
theorem cr_self (i : Nat) : cr U V i i = 0 := by unfold cr; grind
theorem cr_along (c r x : Nat) (h0 : cr U V c r = 0) : dt U V c c * cr U V x r = dt U V c r * cr U V x c := by
  unfold cr dt at *
  grind
theorem cr_pl (a b c d : Nat) : cr U V a b * cr U V c d = cr U V a c * cr U V b d - cr U V a d * cr U V b c := by
  unfold cr
  grind
/-- of directions with no two against each other and no three all round, one has all others on its left or along it -/
theorem extreme (M : Nat → Bool) : ∀ (n : Nat), (∃ i, i < n ∧ M i = true) → (∀ i j, i < n → j < n → M i = true → M j = true → cr U V i j = 0 → 0 < dt U V i j) → (∀ i j k, i < n → j < n → k < n → M i = true → M j = true → M k = true → 0 < cr U V i j → 0 < cr U V j k → ¬ 0 < cr U V k i) →
    ∃ c, c < n ∧ M c = true ∧ ∀ r, r < n → M r = true → 0 ≤ cr U V c r := by
  intro n
  induction n with
  | zero => rintro ⟨i, h, -⟩; omega
  | succ n ih =>
    intro hne h2 h3
    by_cases hp : ∃ i, i < n ∧ M i = true
    · obtain ⟨c, hc, hMc, hcr⟩ := ih hp (fun i j hi hj => h2 i j (by omega) (by omega)) (fun i j k hi hj hk => h3 i j k (by omega) (by omega) (by omega))
      cases hMn : M n with
      | false =>
        refine ⟨c, by omega, hMc, fun r hr hMr => hcr r ?_ hMr⟩
        rcases Nat.lt_or_ge r n with q | q
        · exact q
        · have : r = n := by omega
          subst this
          rw [hMn] at hMr
          cases hMr
      | true =>
        rcases Int.lt_or_le (cr U V c n) 0 with q | q
        · refine ⟨n, by omega, hMn, fun r hr hMr => ?_⟩
          rcases Nat.lt_or_ge r n with hrn | hrn
          · rcases Int.lt_or_le (cr U V n r) 0 with q2 | q2
            · exfalso
              have a1 := hcr r hrn hMr
              have a2 : 0 < cr U V n c := by rw [cr_anti c n]; omega
              have a3 : 0 < cr U V r n := by rw [cr_anti n r]; omega
              rcases Int.lt_or_le 0 (cr U V c r) with q3 | q3
              · exact h3 c r n (by omega) hr (by omega) hMc hMr hMn q3 a3 a2
              · have e0 : cr U V c r = 0 := by omega
                have d1 := h2 c r (by omega) hr hMc hMr e0
                have d2 := h2 c c (by omega) (by omega) hMc hMc (cr_self c)
                have d3 := pos_of_mul d2 (cr_along c r n e0) (Int.mul_pos d1 a2)
                omega
            · exact q2
          · have : r = n := by omega
            subst this
            rw [cr_self]
            exact Int.le_refl 0
        · refine ⟨c, by omega, hMc, fun r hr hMr => ?_⟩
          rcases Nat.lt_or_ge r n with hrn | hrn
          · exact hcr r hrn hMr
          · have : r = n := by omega
            subst this
            exact q
    · obtain ⟨i, hi, hMi⟩ := hne
      have hin : i = n := by
        rcases Nat.lt_or_ge i n with q | q
        · exact absurd ⟨i, q, hMi⟩ hp
        · omega
      subst hin
      refine ⟨i, by omega, hMi, fun r hr hMr => ?_⟩
      have : r = i := by
        rcases Nat.lt_or_ge r i with q | q
        · exact absurd ⟨r, q, hMr⟩ hp
        · omega
      subst this
      rw [cr_self]
      exact Int.le_refl 0
end EX
section RIM
variable {X Y : Nat → Int}
theorem T3_cr (p i j : Nat) : T3 X Y p i j = cr (fun k => X k - X p) (fun k => Y k - Y p) i j := by unfold T3 TR cr; grind
/-- if all are right of, or along, the way from p to q, then there is another one with all left of it, or along -/
theorem rim_turn {n p q : Nat} (M : Nat → Bool) (hq : q < n) (hMq : M q = true) (hd : ∀ i, i < n → M i = true → X i = X p → Y i ≠ Y p) (hall : ∀ r, r < n → M r = true → T3 X Y p q r ≤ 0) : ∃ c, c < n ∧ M c = true ∧ ∀ r, r < n → M r = true → 0 ≤ T3 X Y p c r := by
  simp only [T3_cr] at hall ⊢
  generalize hU : (fun k => X k - X p) = U at hall ⊢
  generalize hV : (fun k => Y k - Y p) = V at hall ⊢
  have hdd : ∀ i, i < n → M i = true → 0 < dt U V i i := by
    intro i hi hMi
    have hne := hd i hi hMi
    have e1 : U i = X i - X p := by rw [← hU]
    have e2 : V i = Y i - Y p := by rw [← hV]
    have h0 : U i ≠ 0 ∨ V i ≠ 0 := by
      by_cases h : X i = X p
      · right; have := hne h; omega
      · left; omega
    unfold dt
    rcases h0 with h | h
    · have a : 0 < U i * U i := by
        rcases Int.lt_or_gt_of_ne h with q | q
        · have := Int.mul_pos_of_neg_of_neg q q; exact this
        · exact Int.mul_pos q q
      have b : 0 ≤ V i * V i := by
        rcases Int.le_total 0 (V i) with q | q
        · exact Int.mul_nonneg q q
        · exact Int.mul_nonneg_of_nonpos_of_nonpos q q
      omega
    · have a : 0 < V i * V i := by
        rcases Int.lt_or_gt_of_ne h with q | q
        · have := Int.mul_pos_of_neg_of_neg q q; exact this
        · exact Int.mul_pos q q
      have b : 0 ≤ U i * U i := by
        rcases Int.le_total 0 (U i) with q | q
        · exact Int.mul_nonneg q q
        · exact Int.mul_nonneg_of_nonpos_of_nonpos q q
      omega
  have hqq := hdd q hq hMq
  by_cases hz : ∃ z, z < n ∧ M z = true ∧ cr U V q z = 0 ∧ dt U V q z < 0
  · obtain ⟨z, hzn, hMz, z0, z1⟩ := hz
    refine ⟨z, hzn, hMz, fun r hr hMr => ?_⟩
    have a := hall r hr hMr
    have e : dt U V q q * cr U V z r = dt U V q z * cr U V q r := by
      unfold cr dt at *
      grind
    refine nonneg_of_mul hqq e ?_
    exact Int.mul_nonneg_of_nonpos_of_nonpos (by omega) a
  · have along : ∀ i, i < n → M i = true → cr U V q i = 0 → 0 < dt U V q i := by
      intro i hi hMi h0
      rcases Int.lt_or_le 0 (dt U V q i) with w | w
      · exact w
      · exfalso
        have hne : dt U V q i ≠ 0 := by
          intro h9
          have : dt U V q q * dt U V i i = 0 := by unfold cr dt at *; grind
          have := Int.mul_pos hqq (hdd i hi hMi)
          omega
        exact hz ⟨i, hi, hMi, h0, by omega⟩
    refine extreme M n ⟨q, hq, hMq⟩ (fun i j hi hj hMi hMj h0 => ?_) (fun i j k hi hj hk hMi hMj hMk h1 h2 h3 => ?_)
    · have ai := hall i hi hMi
      have aj := hall j hj hMj
      rcases Int.lt_or_le 0 (dt U V i j) with w | w
      · exact w
      · exfalso
        have e : dt U V i i * cr U V q j = dt U V i j * cr U V q i := cr_along i j q h0
        have dii := hdd i hi hMi
        have s1 : 0 ≤ dt U V i j * cr U V q i := Int.mul_nonneg_of_nonpos_of_nonpos w ai
        have s2 := nonneg_of_mul dii e s1
        have qj0 : cr U V q j = 0 := by omega
        have dj := along j hj hMj qj0
        have e2 : dt U V j j * cr U V q i = dt U V j i * cr U V q j := cr_along j i q (by rw [cr_anti i j, h0]; rfl)
        rw [qj0, Int.mul_zero] at e2
        have djj := hdd j hj hMj
        have qi0 : cr U V q i = 0 := by
          rcases Int.mul_eq_zero.mp e2 with z | z
          · omega
          · exact z
        have di := along i hi hMi qi0
        have e3 : dt U V q q * dt U V i j = dt U V q i * dt U V q j := by unfold cr dt at *; grind
        have := pos_of_mul hqq e3 (Int.mul_pos di dj)
        omega
    · have ai := hall i hi hMi
      have aj := hall j hj hMj
      have ak := hall k hk hMk
      -- q against i, j, k
      have e1 := cr_pl (U := U) (V := V) q i j k
      have s0 : 0 ≤ cr U V q i * - cr U V j k := by
        have := Int.mul_nonneg_of_nonpos_of_nonpos ai (by omega : -cr U V j k ≤ 0)
        exact this
      have t1 : cr U V i k = - cr U V k i := cr_anti k i
      have s1 : 0 ≤ cr U V q j * cr U V i k := by
        rw [t1]
        exact Int.mul_nonneg_of_nonpos_of_nonpos aj (by omega)
      have s2 : 0 ≤ -(cr U V q k * cr U V i j) := by
        have := Int.mul_nonneg_of_nonpos_of_nonpos ak (by omega : -cr U V i j ≤ 0)
        rw [Int.mul_neg] at this
        exact this
      have s3 : cr U V q i * cr U V j k ≤ 0 := by rw [Int.mul_neg] at s0; omega
      have z1 : cr U V q i * cr U V j k = 0 := by omega
      have z2 : cr U V q j * cr U V i k = 0 := by omega
      have z3 : cr U V q k * cr U V i j = 0 := by omega
      have q1 : cr U V q i = 0 := by rcases Int.mul_eq_zero.mp z1 with z | z; exact z; omega
      have q2 : cr U V q j = 0 := by rcases Int.mul_eq_zero.mp z2 with z | z; exact z; omega
      have e4 : dt U V q q * cr U V i j = dt U V q j * cr U V i q := cr_along q j i q2
      rw [cr_anti q i, q1] at e4
      have : dt U V q q * cr U V i j = 0 := by rw [e4]; simp
      have := Int.mul_pos hqq h1
      omega
end RIM
