/-! two sets that do not meet by threes and fours are parted by a line through one of each -/
def DT3 (X Y : Nat → Int) (i j k : Nat) : Int := (X i - X j) * (X i - X k) + (Y i - Y j) * (Y i - Y k)
/-- no meeting between the set and the others -/
def NoMeet (X Y : Nat → Int) (n : Nat) (M : Nat → Bool) : Prop :=
  (∀ i j k, i < n → j < n → k < n → M i ≠ M j → M j = M k → T3 X Y j k i = 0 → ¬ DT3 X Y i j k < 0) ∧
  (∀ i j k l, i < n → j < n → k < n → l < n → M i ≠ M j → M j = M k → M j = M l → 0 < T3 X Y j k i → 0 < T3 X Y k l i → ¬ 0 < T3 X Y l j i) ∧
  (∀ i j k l, i < n → j < n → k < n → l < n → M i = M j → M k = M l → M i ≠ M k → T3 X Y i j k < 0 → 0 < T3 X Y i j l → 0 < T3 X Y k l i → ¬ T3 X Y k l j < 0)
section KI
variable {X Y : Nat → Int} {n : Nat} {M : Nat → Bool}
theorem sq_pos {x y : Int} (h : x ≠ 0 ∨ y ≠ 0) : 0 < x * x + y * y := by
  have a : 0 ≤ x * x := by
    rcases Int.le_total 0 x with q | q
    · exact Int.mul_nonneg q q
    · exact Int.mul_nonneg_of_nonpos_of_nonpos q q
  have b : 0 ≤ y * y := by
    rcases Int.le_total 0 y with q | q
    · exact Int.mul_nonneg q q
    · exact Int.mul_nonneg_of_nonpos_of_nonpos q q
  rcases h with h | h
  · have : x * x ≠ 0 := fun z => by rcases Int.mul_eq_zero.mp z with z | z <;> exact h z
    omega
  · have : y * y ≠ 0 := fun z => by rcases Int.mul_eq_zero.mp z with z | z <;> exact h z
    omega
/-- from a point of the other kind there is a touching line to a set -/
theorem tangent (hd : ∀ i j, i < n → j < n → X i = X j → Y i = Y j → i = j) (H : NoMeet X Y n M) {b : Nat} (hb : b < n) {v : Bool} (hMb : M b ≠ v) (hne : ∃ i, i < n ∧ M i = v) :
    ∃ a, a < n ∧ M a = v ∧ ∀ s, s < n → M s = v → T3 X Y a b s ≤ 0 := by
  obtain ⟨U, hU⟩ : ∃ U : Nat → Int, U = fun k => X k - X b := ⟨_, rfl⟩
  obtain ⟨V, hV⟩ : ∃ V : Nat → Int, V = fun k => Y k - Y b := ⟨_, rfl⟩
  have eT : ∀ i j, T3 X Y i j b = cr U V i j := fun i j => by rw [hU, hV]; unfold T3 TR cr; grind
  have eA : ∀ a s, T3 X Y a b s = - cr U V a s := fun a s => by rw [hU, hV]; unfold T3 TR cr; grind
  have eD : ∀ i j, DT3 X Y b i j = dt U V i j := fun i j => by rw [hU, hV]; unfold DT3 dt; grind
  have hdd : ∀ i, i < n → M i = v → 0 < dt U V i i := fun i hi hMi => by
    unfold dt
    apply sq_pos
    rw [hU, hV]
    by_cases e1 : X i = X b
    · right
      intro e2
      have e2 : Y i - Y b = 0 := e2
      have := hd i b hi hb e1 (by omega)
      subst this
      exact hMb hMi
    · left
      show X i - X b ≠ 0
      omega
  obtain ⟨c, h1, h2, h3⟩ := extreme (U := U) (V := V) (fun i => decide (M i = v)) n (by obtain ⟨i, h1, h2⟩ := hne; exact ⟨i, h1, by simpa using h2⟩)
    (fun i j hi hj hMi hMj h0 => by
      have hMi : M i = v := by simpa using hMi
      have hMj : M j = v := by simpa using hMj
      have n1 := H.1 b i j hb hi hj (by rw [hMi]; exact hMb) (by rw [hMi, hMj]) (by rw [eT]; exact h0)
      rw [eD] at n1
      rcases Int.lt_or_le 0 (dt U V i j) with q | q
      · exact q
      · exfalso
        have z : dt U V i j = 0 := by omega
        have : dt U V i i * dt U V j j = 0 := by unfold cr dt at *; grind
        have := Int.mul_pos (hdd i hi hMi) (hdd j hj hMj)
        omega)
    (fun i j k hi hj hk hMi hMj hMk q1 q2 q3 => by
      have hMi : M i = v := by simpa using hMi
      have hMj : M j = v := by simpa using hMj
      have hMk : M k = v := by simpa using hMk
      exact H.2.1 b i j k hb hi hj hk (by rw [hMi]; exact hMb) (by rw [hMi, hMj]) (by rw [hMi, hMk]) (by rw [eT]; exact q1) (by rw [eT]; exact q2) (by rw [eT]; exact q3))
  refine ⟨c, h1, by simpa using h2, fun s hs hMs => ?_⟩
  rw [eA]
  have := h3 s hs (by simpa using hMs)
  omega
/-- the step: a new point on the wrong side brings its own line -/
theorem kirch_step (hd : ∀ i j, i < n → j < n → X i = X j → Y i = Y j → i = j) (H : NoMeet X Y n M) {a0 b0 a b t : Nat} (ha0 : a0 < n) (hb0 : b0 < n) (ha : a < n) (hb : b < n) (ht : t < n) (hMa0 : M a0 = true) (hMa : M a = true) (hMb0 : M b0 = false) (hMb : M b = false) (hMt : M t = false)
    (h1 : T3 X Y a0 b0 b < 0) (h2 : 0 ≤ T3 X Y a0 b0 t) (h3 : T3 X Y a0 b0 a ≤ 0) (h4 : T3 X Y a b a0 ≤ 0) : 0 ≤ T3 X Y a b t := by
  rcases Int.lt_or_le (T3 X Y a b t) 0 with h5 | h5
  case inr => exact h5
  exfalso
  obtain ⟨U, hU⟩ : ∃ U : Nat → Int, U = fun k => X k - X a0 := ⟨_, rfl⟩
  obtain ⟨V, hV⟩ : ∃ V : Nat → Int, V = fun k => Y k - Y a0 := ⟨_, rfl⟩
  have e0 : ∀ i j, T3 X Y a0 i j = cr U V i j := fun i j => by rw [hU, hV]; unfold T3 TR cr; grind
  have e0' : ∀ i j, T3 X Y i j a0 = cr U V i j := fun i j => by rw [hU, hV]; unfold T3 TR cr; grind
  have eG : ∀ i j k, T3 X Y i j k = cr U V j k - cr U V j i - cr U V i k := fun i j k => by rw [hU, hV]; unfold T3 TR cr; grind
  have eD0 : ∀ i j, DT3 X Y a0 i j = dt U V i j := fun i j => by rw [hU, hV]; unfold DT3 dt; grind
  have eD : ∀ i k, DT3 X Y i a0 k = dt U V i i - dt U V i k := fun i k => by rw [hU, hV]; unfold DT3 dt; grind
  have hdd : ∀ i, i < n → i ≠ a0 → 0 < dt U V i i := fun i hi hne => by
    unfold dt
    apply sq_pos
    rw [hU, hV]
    by_cases w1 : X i = X a0
    · right
      intro w2
      have w2 : Y i - Y a0 = 0 := w2
      exact hne (hd i a0 hi ha0 w1 (by omega))
    · left
      show X i - X a0 ≠ 0
      omega
  rw [e0] at h1 h2 h3
  rw [e0'] at h4
  rw [eG] at h5
  have hbb := hdd b hb (by rintro rfl; rw [hMa0] at hMb; cases hMb)
  have htt := hdd t ht (by rintro rfl; rw [hMa0] at hMt; cases hMt)
  have hvv := hdd b0 hb0 (by rintro rfl; rw [hMa0] at hMb0; cases hMb0)
  have g1 : 0 < cr U V b b0 := by rw [cr_anti b0 b]; omega
  have g4 : 0 ≤ cr U V b a := by rw [cr_anti a b]; omega
  -- no two of the others against each other, seen from a0
  have anti : ∀ i j, i < n → j < n → M i = false → M j = false → i ≠ a0 → j ≠ a0 → cr U V i j = 0 → 0 < dt U V i j := fun i j hi hj hMi hMj hi0 hj0 h0 => by
    have n1 := H.1 a0 i j ha0 hi hj (by rw [hMa0, hMi]; decide) (by rw [hMi, hMj]) (by rw [e0']; exact h0)
    rw [eD0] at n1
    rcases Int.lt_or_le 0 (dt U V i j) with q | q
    · exact q
    · exfalso
      have z : dt U V i j = 0 := by omega
      have : dt U V i i * dt U V j j = 0 := by unfold cr dt at *; grind
      have := Int.mul_pos (hdd i hi hi0) (hdd j hj hj0)
      omega
  have hb_ne : b ≠ a0 := by rintro rfl; rw [hMa0] at hMb; cases hMb
  have ht_ne : t ≠ a0 := by rintro rfl; rw [hMa0] at hMt; cases hMt
  have hb0_ne : b0 ≠ a0 := by rintro rfl; rw [hMa0] at hMb0; cases hMb0
  have A : 0 < cr U V b t := by
    rcases Int.lt_or_le 0 (cr U V b0 t) with q | q
    · rcases Int.lt_or_le 0 (cr U V b t) with w | w
      · exact w
      · exfalso
        rcases Int.lt_or_le (cr U V b t) 0 with w2 | w2
        · exact H.2.1 a0 b b0 t ha0 hb hb0 ht (by rw [hMa0, hMb]; decide) (by rw [hMb, hMb0]) (by rw [hMb, hMt]) (by rw [e0']; exact g1) (by rw [e0']; exact q) (by rw [e0', cr_anti b t]; omega)
        · have z : cr U V b t = 0 := by omega
          have d := anti b t hb ht hMb hMt hb_ne ht_ne z
          have e := cr_along (U := U) (V := V) b t b0 z
          have : 0 < dt U V b t * - cr U V b0 b := Int.mul_pos d (by omega)
          have e2 : dt U V b b * - cr U V b0 t = dt U V b t * - cr U V b0 b := by rw [Int.mul_neg, Int.mul_neg, e]
          have := pos_of_mul hbb e2 this
          omega
    · have z : cr U V b0 t = 0 := by omega
      have d := anti b0 t hb0 ht hMb0 hMt hb0_ne ht_ne z
      exact pos_of_mul hvv (cr_along b0 t b z) (Int.mul_pos d g1)
  have hne : a ≠ a0 := by
    rintro rfl
    have z1 : cr U V b a = 0 := by rw [hU, hV]; unfold cr; grind
    have z2 : cr U V a t = 0 := by rw [hU, hV]; unfold cr; grind
    omega
  have haa := hdd a ha hne
  have B : 0 < cr U V b a := by
    rcases Int.lt_or_le 0 (cr U V b a) with w | w
    · exact w
    · exfalso
      have z : cr U V b a = 0 := by omega
      have n1 := H.1 b a0 a hb ha0 ha (by rw [hMb, hMa0]; decide) (by rw [hMa0, hMa]) (by rw [e0, cr_anti b a, z]; rfl)
      rw [eD] at n1
      have e := cr_along (U := U) (V := V) b a t z
      -- |b|^2 (b x t - a x t) = (|b|^2 - b.a) (b x t)
      have e2 : dt U V b b * -(cr U V b t - cr U V a t) = (dt U V b a - dt U V b b) * cr U V b t := by
        have : cr U V t a = - cr U V a t := cr_anti a t
        have : cr U V t b = - cr U V b t := cr_anti b t
        grind
      have p1 : 0 < -(cr U V b t - cr U V a t) := by omega
      have p2 : 0 < dt U V b b * -(cr U V b t - cr U V a t) := Int.mul_pos hbb p1
      rw [e2, Int.mul_comm] at p2
      have := pos_of_mul A rfl p2
      omega
  have C : 0 ≤ cr U V a t := by
    have e := cr_pl (U := U) (V := V) b b0 a t
    refine nonneg_of_mul g1 e ?_
    have p1 : 0 ≤ cr U V b a * cr U V b0 t := Int.mul_nonneg (by omega) h2
    have p2 : 0 ≤ cr U V b t * - cr U V b0 a := Int.mul_nonneg (by omega) (by omega)
    rw [Int.mul_neg] at p2
    omega
  rcases Int.lt_or_le 0 (cr U V a t) with w | w
  · refine H.2.2 a0 a b t ha0 ha hb ht (by rw [hMa0, hMa]) (by rw [hMb, hMt]) (by rw [hMa0, hMb]; decide) (by rw [e0, cr_anti b a]; omega) (by rw [e0]; exact w) (by rw [e0']; exact A) ?_
    rw [eG]
    have q1 : cr U V t a = - cr U V a t := cr_anti a t
    have q2 : cr U V t b = - cr U V b t := cr_anti b t
    omega
  · have z : cr U V a t = 0 := by omega
    have e := cr_along (U := U) (V := V) a t b z
    have p1 : 0 < dt U V a a * cr U V b t := Int.mul_pos haa A
    rw [e, Int.mul_comm] at p1
    have d1 := pos_of_mul B rfl p1
    have e2 : cr U V b a * (dt U V a a - dt U V a t) = dt U V a a * (cr U V b a - cr U V b t) := by grind
    have d2 := pos_of_mul B e2 (Int.mul_pos haa (by omega))
    have n1 := H.1 t a0 a ht ha0 ha (by rw [hMt, hMa0]; decide) (by rw [hMa0, hMa]) (by rw [e0]; exact z)
    rw [eD] at n1
    have e3 : dt U V a a * (dt U V t a - dt U V t t) = dt U V a t * (dt U V a a - dt U V a t) := by
      unfold cr dt at *
      grind
    have d3 := pos_of_mul haa e3 (Int.mul_pos d1 d2)
    omega
theorem kirch (hd : ∀ i j, i < n → j < n → X i = X j → Y i = Y j → i = j) (H : NoMeet X Y n M) (hS : ∃ i, i < n ∧ M i = true) : ∀ m, m ≤ n → (∃ t, t < m ∧ M t = false) → ∃ a b, a < n ∧ b < n ∧ M a = true ∧ M b = false ∧ (∀ s, s < n → M s = true → T3 X Y a b s ≤ 0) ∧ ∀ t, t < m → M t = false → 0 ≤ T3 X Y a b t := by
  intro m
  induction m with
  | zero => rintro - ⟨t, h, -⟩; omega
  | succ m ih =>
    intro hm hT
    by_cases hp : ∃ t, t < m ∧ M t = false
    · obtain ⟨a0, b0, ha0, hb0, hMa0, hMb0, h1, h2⟩ := ih (by omega) hp
      cases hMm : M m with
      | true =>
        refine ⟨a0, b0, ha0, hb0, hMa0, hMb0, h1, fun t ht hMt => h2 t ?_ hMt⟩
        rcases Nat.lt_or_ge t m with q | q
        · exact q
        · have : t = m := by omega
          subst this
          rw [hMm] at hMt
          cases hMt
      | false =>
        rcases Int.lt_or_le (T3 X Y a0 b0 m) 0 with q | q
        · obtain ⟨a, ha, hMa, h3⟩ := tangent hd H (b := m) (by omega) (v := true) (by rw [hMm]; decide) hS
          refine ⟨a, m, ha, by omega, hMa, hMm, h3, fun t ht hMt => ?_⟩
          rcases Nat.lt_or_ge t m with w | w
          · exact kirch_step hd H ha0 hb0 ha (by omega) (by omega) hMa0 hMa hMb0 hMm hMt q (h2 t w hMt) (h1 a ha hMa) (h3 a0 ha0 hMa0)
          · have : t = m := by omega
            subst this
            have : T3 X Y a t t = 0 := by unfold T3 TR; grind
            omega
        · refine ⟨a0, b0, ha0, hb0, hMa0, hMb0, h1, fun t ht hMt => ?_⟩
          rcases Nat.lt_or_ge t m with w | w
          · exact h2 t w hMt
          · have : t = m := by omega
            subst this
            exact q
    · obtain ⟨t, ht, hMt⟩ := hT
      have : t = m := by
        rcases Nat.lt_or_ge t m with w | w
        · exact absurd ⟨t, w, hMt⟩ hp
        · omega
      subst this
      obtain ⟨a, ha, hMa, h3⟩ := tangent hd H (b := t) (by omega) (v := true) (by rw [hMt]; decide) hS
      refine ⟨a, t, ha, by omega, hMa, hMt, h3, fun t' ht' hMt' => ?_⟩
      have : t' = t := by
        rcases Nat.lt_or_ge t' t with w | w
        · exact absurd ⟨t', w, hMt'⟩ hp
        · omega
      subst this
      have : T3 X Y a t' t' = 0 := by unfold T3 TR; grind
      omega
end KI
